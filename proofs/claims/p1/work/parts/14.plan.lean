theorem iw_X3_gang_3 : ∀ w ∈ wsX30, w ∈ wsX3_gang := fun w h => (List.mem_cons_of_mem _ (List.mem_append_right _ h))
theorem wd_X3_gang_1 : (.fieldLink RX3 39 "PourPlan" "gangLimit" "I" : Cond) ∈ wsX3_gang := List.mem_of_getElem? (i := 1) rfl
set_option maxHeartbeats 1000000 in
theorem pf_X3_gang_1 (gl : Int32) (n : Int32) (r_1 : Int32) (w_2 : r_1 = bIn n (1 : Int32) (1000 : Int32)) (c_4 : ¬ r_1 = 0) : gl = if n < 1 ∨ 1000 < n then -2 else gl := by
  grind [bIn]
set_option maxHeartbeats 1000000 in
theorem pf_X3_gang_2 (gl : Int32) (n : Int32) (r_1 : Int32) (w_2 : r_1 = bIn n (1 : Int32) (1000 : Int32)) (c_4 : r_1 = 0) : (-2 : Int32) = if n < 1 ∨ 1000 < n then -2 else gl := by
  grind [bIn]
set_option maxHeartbeats 4000000 in
set_option maxRecDepth 100000 in
theorem c_X3_gang (l : Launch) (D : va_G) (cI : ClassId) (sz : Nat) (x : Nat) (cu : Nat) (pi : Nat) (sq : Nat) (fo : Nat) (bo : Nat) (gl : Int32) (td : Int32) (le : Int32) (n : Int32) : CtI l yX3_gang wsX3_gang 1 22 0 0 [.ref x, .int n] D [(cI, .int)] [(x, .inr (3, [.ref cu, .ref pi, .ref sq, .ref fo, .ref bo, .int gl, .int td, .int le]))] sz (fun (r : Int32) (u : Int32) => r = if n < 1 ∨ 1000 < n then -2 else gl) (fun (u : Int32) => [(x, .inr (3, [.ref cu, .ref pi, .ref sq, .ref fo, .ref bo, .int u, .int td, .int le]))]) := by
  refine Met.ofW (cc := cX3_gang) (maxL := 3) (ret := (some .int)) (by decide) rfl ?_
  intro p e s m args below meth c s₁ B hml hv
  obtain ⟨rfl, hsz, hP, hK, hD0, hN⟩ := hv
  have hx := B.exec
  have hb := B.bytes
  have hr := B.returns
  have hts := atoms_spec (ws := wsX3_gang) B.pre
  have hown : s.vm.findClass RX3 = some m.cls := findClass_of_methodNamed B.named
  have hlocks := B.notSynchronized
  subst hsz
  have hD := hD0.self (sz := s.heap.size)
  generalize hAe : va_A [(x, .inr (3, [.ref cu, .ref pi, .ref sq, .ref fo, .ref bo, .int gl, .int td, .int le]))] s.heap.size = A at hD ⊢
  have hA : ∀ q : Nat, s.heap.size ≤ q → A q := fun q h => by rw [← hAe]; exact Or.inr h
  have hS : va_S A s.heap s.heap [] := va_S.rf
  have hl := lv_entry ([.ref x, .int n]) (n := 3) (Nat.le_of_ble_eq_true rfl)
  rw [lg_entry_eq]
  generalize (lg_sl ([.ref x, .int n]) ++ List.replicate (3 - (lg_sl ([.ref x, .int n])).length) Slot.unset).toArray = ls at hl ⊢
  have hl : lv_has ls 3 [(0, .ref x), (1, .int n)] := hl
  have hP0 := hP
  refine lv_iload_n hx hb dX3_gang_0 rfl (lv_at hl 1 rfl) ?_
  refine lv_iconst (v := 1) hx hb dX3_gang_1 (by decide) ?_
  refine lv_sipush (v := 1000) hx hb dX3_gang_2 (by decide) ?_
  refine cc_i (wc := []) (wr := [(x, .inr (3, [.ref cu, .ref pi, .ref sq, .ref fo, .ref bo, .int gl, .int td, .int le]))]) (va_runS (As := [.int n, .int 1, .int 1000]) (rest := []) ⟨hx, hb, hml, hown, hts⟩ (c_X3_isIn l D cI s.heap.size n 1 1000 ) (va_cwS 3 hts gX3_gang_X3_isIn rfl rfl rfl (by decide +kernel) ⟨Nat.le_of_ble_eq_true rfl, Nat.le_of_ble_eq_true rfl⟩) (preS (wc := []) hK hP hD hN [] rfl (by decide)) rfl rfl hl.1 rfl (lv_room (Nat.le_of_ble_eq_true rfl)) dX3_gang_5 ⟨Nat.le_of_ble_eq_true rfl, Nat.le_of_ble_eq_true rfl⟩) hP hD hS hA [] [0] rfl rfl (by decide) (by decide) (fun r_1 u H locs w_2 hP hD hS => ?_)
  have hP : va_P D vwCl [(x, .inr (3, [.ref cu, .ref pi, .ref sq, .ref fo, .ref bo, .int gl, .int td, .int le]))] H := hP
  have hD : va_D A [(x, .inr (3, [.ref cu, .ref pi, .ref sq, .ref fo, .ref bo, .int gl, .int td, .int le]))] := hD
  have w_2 : r_1 = bIn n (1 : Int32) (1000 : Int32) := w_2
  refine lv_if_ne (tgt := 14) hx hb dX3_gang_8 (by decide) (fun c_4 => ?_) (fun c_4 => ?_)
  · refine lv_aload_n hx hb dX3_gang_14 rfl (lv_at hl 0 rfl) ?_
    refine va_get (D := D) (ci := 3) (v := .int gl) (C := RX3) (T := TX3) (N := 8) hx hb hts iw_X3_gang_3 hown hK hP 0 rfl rfl 5 (by decide) (hts _ wd_X3_gang_1) (fun _ h9 => h9) rfl dX3_gang_15 ?_
    refine lv_istore_n (lv' := [(2, .int gl), (0, .ref x), (1, .int n)]) hx hb dX3_gang_18 rfl hl (by decide) rfl (fun ls hl => ?_)
    refine lv_aload_n hx hb dX3_gang_19 rfl (lv_at hl 1 rfl) ?_
    refine lv_iload_n hx hb dX3_gang_20 rfl (lv_at hl 2 rfl) ?_
    refine va_put (D := D) (ci := 3) (v := .int n) (ty := .int) (C := RX3) (T := TX3) (N := 8) hx hb hts iw_X3_gang_3 tyX3 tyX3_ok nmX3 hown hK hP hD hS 0 rfl rfl 5 (by decide) (hts _ wd_X3_gang_1) (fun _ h9 => h9) rfl (by decide +kernel) rfl rfl (Nat.le_of_ble_eq_true rfl) dX3_gang_21 (fun H locs hP hD hS => ?_)
    have hP : va_P D vwCl [(x, .inr (3, [.ref cu, .ref pi, .ref sq, .ref fo, .ref bo, .int n, .int td, .int le]))] H := hP
    have hD : va_D A [(x, .inr (3, [.ref cu, .ref pi, .ref sq, .ref fo, .ref bo, .int n, .int td, .int le]))] := hD
    refine lv_iload_n hx hb dX3_gang_24 rfl (lv_at hl 0 rfl) ?_
    refine W.widen (k := 0) (n := 0) (Nat.le_of_ble_eq_true rfl) (Nat.le_of_ble_eq_true rfl) ?_
    exact fi_i n hx hb hr hlocks hK (hP.sub [0] rfl) (hD.sub [0] (by decide) rfl) hS (pf_X3_gang_1 gl n r_1 w_2 c_4) dX3_gang_25
  · refine lv_bipush (v := (-2)) hx hb dX3_gang_11 (by decide) ?_
    refine W.widen (k := 0) (n := 0) (Nat.le_of_ble_eq_true rfl) (Nat.le_of_ble_eq_true rfl) ?_
    exact fi_i gl hx hb hr hlocks hK (hP.sub [0] rfl) (hD.sub [0] (by decide) rfl) hS (pf_X3_gang_2 gl n r_1 w_2 c_4) dX3_gang_13

theorem iw_X3_form_3 : ∀ w ∈ wsX30, w ∈ wsX3_form := fun w h => (List.mem_cons_of_mem _ (List.mem_append_right _ h))
theorem wd_X3_form_1 : (.fieldLink RX3 32 "PourPlan" "forms" "[I" : Cond) ∈ wsX3_form := List.mem_of_getElem? (i := 1) rfl
set_option maxHeartbeats 1000000 in
theorem pf_X3_form_1 (ff : Nat → Int32) (s1 : Int32) (n : Int32) (r_1 : Int32) (r_5 : Int32) (hf : ∀ j, j < 3 → ff j = 10) (w_2 : r_1 = bIn s1 (0 : Int32) (2 : Int32)) (c_4 : ¬ r_1 = 0) (w_6 : r_5 = bIn n (0 : Int32) (50 : Int32)) (c_8 : ¬ r_5 = 0) : vp_in s1 3 := by
  exact vi_in (M := 3) rfl (by grind [bIn, an_form]) (by grind [bIn, an_form])
set_option maxHeartbeats 1000000 in
theorem pf_X3_form_2 (ff : Nat → Int32) (s1 : Int32) (n : Int32) (r_1 : Int32) (r_5 : Int32) (v_9 : Int32) (hf : ∀ j, j < 3 → ff j = 10) (w_2 : r_1 = bIn s1 (0 : Int32) (2 : Int32)) (c_4 : ¬ r_1 = 0) (w_6 : r_5 = bIn n (0 : Int32) (50 : Int32)) (c_8 : ¬ r_5 = 0) (ev_9 : v_9 = ff s1.toNatClampNeg) : vp_in s1 3 := by
  exact vi_in (M := 3) rfl (by grind [bIn, an_form]) (by grind [bIn, an_form])
set_option maxHeartbeats 1000000 in
theorem pf_X3_form_3 (ff : Nat → Int32) (s1 : Int32) (n : Int32) (r_1 : Int32) (r_5 : Int32) (v_9 : Int32) (hf : ∀ j, j < 3 → ff j = 10) (w_2 : r_1 = bIn s1 (0 : Int32) (2 : Int32)) (c_4 : ¬ r_1 = 0) (w_6 : r_5 = bIn n (0 : Int32) (50 : Int32)) (c_8 : ¬ r_5 = 0) (ev_9 : v_9 = ff s1.toNatClampNeg) : v_9 = an_form s1 n := by
  have h3 : vp_in s1 3 := by
    exact vi_in (M := 3) rfl (by grind [bIn]) (by grind [bIn])
  have h4 := hf _ (cl_lt h3)
  grind [bIn, an_form]
set_option maxHeartbeats 1000000 in
theorem pf_X3_form_4 (ff : Nat → Int32) (s1 : Int32) (n : Int32) (r_1 : Int32) (r_5 : Int32) (hf : ∀ j, j < 3 → ff j = 10) (w_2 : r_1 = bIn s1 (0 : Int32) (2 : Int32)) (c_4 : ¬ r_1 = 0) (w_6 : r_5 = bIn n (0 : Int32) (50 : Int32)) (c_8 : r_5 = 0) : (-2 : Int32) = an_form s1 n := by
  grind [bIn, an_form]
set_option maxHeartbeats 1000000 in
theorem pf_X3_form_5 (ff : Nat → Int32) (s1 : Int32) (n : Int32) (r_1 : Int32) (hf : ∀ j, j < 3 → ff j = 10) (w_2 : r_1 = bIn s1 (0 : Int32) (2 : Int32)) (c_4 : r_1 = 0) : (-1 : Int32) = an_form s1 n := by
  grind [bIn, an_form]
set_option maxHeartbeats 4000000 in
set_option maxRecDepth 100000 in
theorem c_X3_form (l : Launch) (D : va_G) (cI : ClassId) (sz : Nat) (x : Nat) (fo : Nat) (cu : Nat) (pi : Nat) (sq : Nat) (bo : Nat) (gl : Int32) (td : Int32) (le : Int32) (ff : Nat → Int32) (s1 : Int32) (n : Int32) (hf : ∀ j, j < 3 → ff j = 10) : CtI l yX3_form wsX3_form 1 22 0 0 [.ref x, .int s1, .int n] D [(cI, .int)] [(x, .inr (3, [.ref cu, .ref pi, .ref sq, .ref fo, .ref bo, .int gl, .int td, .int le])), (fo, .inl (cI, 3, .inl ff))] sz (fun (r : Int32) (u : (Nat → Int32)) => r = an_form s1 n) (fun (u : (Nat → Int32)) => [(x, .inr (3, [.ref cu, .ref pi, .ref sq, .ref fo, .ref bo, .int gl, .int td, .int le])), (fo, .inl (cI, 3, .inl u))]) := by
  refine Met.ofW (cc := cX3_form) (maxL := 4) (ret := (some .int)) (by decide) rfl ?_
  intro p e s m args below meth c s₁ B hml hv
  obtain ⟨rfl, hsz, hP, hK, hD0, hN⟩ := hv
  have hx := B.exec
  have hb := B.bytes
  have hr := B.returns
  have hts := atoms_spec (ws := wsX3_form) B.pre
  have hown : s.vm.findClass RX3 = some m.cls := findClass_of_methodNamed B.named
  have hlocks := B.notSynchronized
  subst hsz
  have hD := hD0.self (sz := s.heap.size)
  generalize hAe : va_A [(x, .inr (3, [.ref cu, .ref pi, .ref sq, .ref fo, .ref bo, .int gl, .int td, .int le])), (fo, .inl (cI, 3, .inl ff))] s.heap.size = A at hD ⊢
  have hA : ∀ q : Nat, s.heap.size ≤ q → A q := fun q h => by rw [← hAe]; exact Or.inr h
  have hS : va_S A s.heap s.heap [] := va_S.rf
  have hl := lv_entry ([.ref x, .int s1, .int n]) (n := 4) (Nat.le_of_ble_eq_true rfl)
  rw [lg_entry_eq]
  generalize (lg_sl ([.ref x, .int s1, .int n]) ++ List.replicate (4 - (lg_sl ([.ref x, .int s1, .int n])).length) Slot.unset).toArray = ls at hl ⊢
  have hl : lv_has ls 4 [(0, .ref x), (1, .int s1), (2, .int n)] := hl
  have hP0 := hP
  refine lv_iload_n hx hb dX3_form_0 rfl (lv_at hl 1 rfl) ?_
  refine lv_iconst (v := 0) hx hb dX3_form_1 (by decide) ?_
  refine lv_iconst (v := 2) hx hb dX3_form_2 (by decide) ?_
  refine cc_i (wc := []) (wr := [(x, .inr (3, [.ref cu, .ref pi, .ref sq, .ref fo, .ref bo, .int gl, .int td, .int le])), (fo, .inl (cI, 3, .inl ff))]) (va_runS (As := [.int s1, .int 0, .int 2]) (rest := []) ⟨hx, hb, hml, hown, hts⟩ (c_X3_isIn l D cI s.heap.size s1 0 2 ) (va_cwS 3 hts gX3_form_X3_isIn rfl rfl rfl (by decide +kernel) ⟨Nat.le_of_ble_eq_true rfl, Nat.le_of_ble_eq_true rfl⟩) (preS (wc := []) hK hP hD hN [] rfl (by decide)) rfl rfl hl.1 rfl (lv_room (Nat.le_of_ble_eq_true rfl)) dX3_form_3 ⟨Nat.le_of_ble_eq_true rfl, Nat.le_of_ble_eq_true rfl⟩) hP hD hS hA [] [0, 1] rfl rfl (by decide) (by decide) (fun r_1 u H locs w_2 hP hD hS => ?_)
  have hP : va_P D vwCl [(x, .inr (3, [.ref cu, .ref pi, .ref sq, .ref fo, .ref bo, .int gl, .int td, .int le])), (fo, .inl (cI, 3, .inl ff))] H := hP
  have hD : va_D A [(x, .inr (3, [.ref cu, .ref pi, .ref sq, .ref fo, .ref bo, .int gl, .int td, .int le])), (fo, .inl (cI, 3, .inl ff))] := hD
  have w_2 : r_1 = bIn s1 (0 : Int32) (2 : Int32) := w_2
  refine lv_if_ne (tgt := 11) hx hb dX3_form_6 (by decide) (fun c_4 => ?_) (fun c_4 => ?_)
  · refine lv_iload_n hx hb dX3_form_11 rfl (lv_at hl 2 rfl) ?_
    refine lv_iconst (v := 0) hx hb dX3_form_12 (by decide) ?_
    refine lv_bipush (v := 50) hx hb dX3_form_13 (by decide) ?_
    refine cc_i (wc := []) (wr := [(x, .inr (3, [.ref cu, .ref pi, .ref sq, .ref fo, .ref bo, .int gl, .int td, .int le])), (fo, .inl (cI, 3, .inl ff))]) (va_runS (As := [.int n, .int 0, .int 50]) (rest := []) ⟨hx, hb, hml, hown, hts⟩ (c_X3_isIn l D cI H.size n 0 50 ) (va_cwS 3 hts gX3_form_X3_isIn rfl rfl rfl (by decide +kernel) ⟨Nat.le_of_ble_eq_true rfl, Nat.le_of_ble_eq_true rfl⟩) (preS (wc := []) hK hP hD hN [] rfl (by decide)) rfl rfl hl.1 rfl (lv_room (Nat.le_of_ble_eq_true rfl)) dX3_form_15 ⟨Nat.le_of_ble_eq_true rfl, Nat.le_of_ble_eq_true rfl⟩) hP hD hS hA [] [0, 1] rfl rfl (by decide) (by decide) (fun r_5 u H locs w_6 hP hD hS => ?_)
    have hP : va_P D vwCl [(x, .inr (3, [.ref cu, .ref pi, .ref sq, .ref fo, .ref bo, .int gl, .int td, .int le])), (fo, .inl (cI, 3, .inl ff))] H := hP
    have hD : va_D A [(x, .inr (3, [.ref cu, .ref pi, .ref sq, .ref fo, .ref bo, .int gl, .int td, .int le])), (fo, .inl (cI, 3, .inl ff))] := hD
    have w_6 : r_5 = bIn n (0 : Int32) (50 : Int32) := w_6
    refine lv_if_ne (tgt := 24) hx hb dX3_form_18 (by decide) (fun c_8 => ?_) (fun c_8 => ?_)
    · refine lv_aload_n hx hb dX3_form_24 rfl (lv_at hl 0 rfl) ?_
      refine va_get (D := D) (ci := 3) (v := .ref fo) (C := RX3) (T := TX3) (N := 8) hx hb hts iw_X3_form_3 hown hK hP 0 rfl rfl 3 (by decide) (hts _ wd_X3_form_1) (fun _ h9 => h9) rfl dX3_form_25 ?_
      refine lv_iload_n hx hb dX3_form_28 rfl (lv_at hl 1 rfl) ?_
      refine va_iald hx hb hK hP 1 0 rfl rfl (pf_X3_form_1 ff s1 n r_1 r_5 hf w_2 c_4 w_6 c_8) dX3_form_29 ?_
      refine lv_topi (fun v_9 ev_9 => ?_)
      refine lv_istore_n (lv' := [(3, .int v_9), (0, .ref x), (1, .int s1), (2, .int n)]) hx hb dX3_form_30 rfl hl (by decide) rfl (fun ls hl => ?_)
      refine lv_aload_n hx hb dX3_form_31 rfl (lv_at hl 1 rfl) ?_
      refine va_get (D := D) (ci := 3) (v := .ref fo) (C := RX3) (T := TX3) (N := 8) hx hb hts iw_X3_form_3 hown hK hP 0 rfl rfl 3 (by decide) (hts _ wd_X3_form_1) (fun _ h9 => h9) rfl dX3_form_32 ?_
      refine lv_iload_n hx hb dX3_form_35 rfl (lv_at hl 2 rfl) ?_
      refine lv_iload_n hx hb dX3_form_36 rfl (lv_at hl 3 rfl) ?_
      refine va_iast hx hb hK hP hD hS 1 0 rfl rfl (pf_X3_form_2 ff s1 n r_1 r_5 v_9 hf w_2 c_4 w_6 c_8 ev_9) dX3_form_37 (fun H locs hP hD hS => ?_)
      have hP : va_P D vwCl [(x, .inr (3, [.ref cu, .ref pi, .ref sq, .ref fo, .ref bo, .int gl, .int td, .int le])), (fo, .inl (cI, 3, .inl (upd ff s1.toNatClampNeg n)))] H := hP
      have hD : va_D A [(x, .inr (3, [.ref cu, .ref pi, .ref sq, .ref fo, .ref bo, .int gl, .int td, .int le])), (fo, .inl (cI, 3, .inl (upd ff s1.toNatClampNeg n)))] := hD
      refine lv_iload_n hx hb dX3_form_38 rfl (lv_at hl 0 rfl) ?_
      refine W.widen (k := 0) (n := 0) (Nat.le_of_ble_eq_true rfl) (Nat.le_of_ble_eq_true rfl) ?_
      exact fi_i (upd ff s1.toNatClampNeg n) hx hb hr hlocks hK (hP.sub [0, 1] rfl) (hD.sub [0, 1] (by decide) rfl) hS (pf_X3_form_3 ff s1 n r_1 r_5 v_9 hf w_2 c_4 w_6 c_8 ev_9) dX3_form_39
    · refine lv_bipush (v := (-2)) hx hb dX3_form_21 (by decide) ?_
      refine W.widen (k := 0) (n := 0) (Nat.le_of_ble_eq_true rfl) (Nat.le_of_ble_eq_true rfl) ?_
      exact fi_i ff hx hb hr hlocks hK (hP.sub [0, 1] rfl) (hD.sub [0, 1] (by decide) rfl) hS (pf_X3_form_4 ff s1 n r_1 r_5 hf w_2 c_4 w_6 c_8) dX3_form_23
  · refine lv_iconst (v := (-1)) hx hb dX3_form_9 (by decide) ?_
    refine W.widen (k := 0) (n := 0) (Nat.le_of_ble_eq_true rfl) (Nat.le_of_ble_eq_true rfl) ?_
    exact fi_i ff hx hb hr hlocks hK (hP.sub [0, 1] rfl) (hD.sub [0, 1] (by decide) rfl) hS (pf_X3_form_5 ff s1 n r_1 hf w_2 c_4) dX3_form_10

theorem iw_X3_level_0 : ∀ w ∈ wsX00, w ∈ wsX3_level := fun w h => (List.mem_cons_of_mem _ (List.mem_append_right _ h))
theorem iw_X3_level_3 : ∀ w ∈ wsX30, w ∈ wsX3_level := fun w h => (List.mem_cons_of_mem _ (List.mem_append_left _ (List.mem_append_right _ h)))
theorem wd_X3_level_1 : (.fieldLink RX3 14 "PourPlan" "curing" "LPourPlan$Curing;" : Cond) ∈ wsX3_level := List.mem_of_getElem? (i := 1) rfl
theorem wd_X3_level_6 : (.instanceMethod yX0_renew : Cond) ∈ wsX3_level := List.mem_of_getElem? (i := 6) rfl
theorem wd_X3_level_7 : (.initialized RX0 : Cond) ∈ wsX3_level := List.mem_of_getElem? (i := 7) rfl
theorem wd_X3_level_8 : (.selects RX0 yX0_renew yX0_renew : Cond) ∈ wsX3_level := List.mem_of_getElem? (i := 8) rfl
set_option maxHeartbeats 1000000 in
theorem pf_X3_level_1 (fl : Nat → Int32) (w : Int32) (v : Int32) (r_1 : Int32) (r_5 : Int32) (hl0 : fl 0 = 500) (hl1 : fl 1 = 300) (w_2 : r_1 = bIn w (0 : Int32) (1 : Int32)) (c_4 : ¬ r_1 = 0) (w_6 : r_5 = bIn v (0 : Int32) (1000 : Int32)) (c_8 : ¬ r_5 = 0) : vp_in w 2 := by
  exact vi_in (M := 2) rfl (by grind [bIn, an_level]) (by grind [bIn, an_level])
set_option maxHeartbeats 1000000 in
theorem pf_X3_level_2 (fl : Nat → Int32) (w : Int32) (v : Int32) (r_1 : Int32) (r_5 : Int32) (v_9 : Int32) (hl0 : fl 0 = 500) (hl1 : fl 1 = 300) (w_2 : r_1 = bIn w (0 : Int32) (1 : Int32)) (c_4 : ¬ r_1 = 0) (w_6 : r_5 = bIn v (0 : Int32) (1000 : Int32)) (c_8 : ¬ r_5 = 0) (ev_9 : v_9 = fl w.toNatClampNeg) : vp_in w 2 := by
  exact vi_in (M := 2) rfl (by grind [bIn, an_level]) (by grind [bIn, an_level])
set_option maxHeartbeats 1000000 in
theorem pf_X3_level_3 (fl : Nat → Int32) (w : Int32) (v : Int32) (r_1 : Int32) (r_5 : Int32) (v_9 : Int32) (hl0 : fl 0 = 500) (hl1 : fl 1 = 300) (w_2 : r_1 = bIn w (0 : Int32) (1 : Int32)) (c_4 : ¬ r_1 = 0) (w_6 : r_5 = bIn v (0 : Int32) (1000 : Int32)) (c_8 : ¬ r_5 = 0) (ev_9 : v_9 = fl w.toNatClampNeg) : v_9 = an_level w v := by
  have h3 : w = 0 ∨ w = 1 := by grind [bIn]
  have z0 : (0 : Int32).toNatClampNeg = 0 := rfl
  have z1 : (1 : Int32).toNatClampNeg = 1 := rfl
  rcases h3 with rfl | rfl <;> grind [bIn, an_level]
set_option maxHeartbeats 1000000 in
theorem pf_X3_level_4 (fl : Nat → Int32) (w : Int32) (v : Int32) (r_1 : Int32) (r_5 : Int32) (hl0 : fl 0 = 500) (hl1 : fl 1 = 300) (w_2 : r_1 = bIn w (0 : Int32) (1 : Int32)) (c_4 : ¬ r_1 = 0) (w_6 : r_5 = bIn v (0 : Int32) (1000 : Int32)) (c_8 : r_5 = 0) : (-2 : Int32) = an_level w v := by
  grind [bIn, an_level]
set_option maxHeartbeats 1000000 in
theorem pf_X3_level_5 (fl : Nat → Int32) (w : Int32) (v : Int32) (r_1 : Int32) (hl0 : fl 0 = 500) (hl1 : fl 1 = 300) (w_2 : r_1 = bIn w (0 : Int32) (1 : Int32)) (c_4 : r_1 = 0) : (-1 : Int32) = an_level w v := by
  grind [bIn, an_level]
set_option maxHeartbeats 4000000 in
set_option maxRecDepth 100000 in
theorem c_X3_level (l : Launch) (D : va_G) (cI : ClassId) (sz : Nat) (x : Nat) (cu : Nat) (a0 : Nat) (a1 : Nat) (a2 : Nat) (a3 : Nat) (a4 : Nat) (a5 : Nat) (pi : Nat) (sq : Nat) (fo : Nat) (bo : Nat) (gl : Int32) (td : Int32) (le : Int32) (bw : Int32) (pts : Int32) (fw : Nat → Int32) (fl : Nat → Int32) (fd : Nat → Int32) (fh : Nat → Int32) (fg : Nat → Int32) (fs : Nat → Int32) (w : Int32) (v : Int32) (hl0 : fl 0 = 500) (hl1 : fl 1 = 300) : CtI l yX3_level wsX3_level 3 70 0 0 [.ref x, .int w, .int v] D [(cI, .int)] [(x, .inr (3, [.ref cu, .ref pi, .ref sq, .ref fo, .ref bo, .int gl, .int td, .int le])), (cu, .inr (0, [.ref a0, .ref a1, .ref a2, .ref a3, .ref a4, .ref a5, .int bw, .int pts])), (a0, .inl (cI, 40, .inl fw)), (a1, .inl (cI, 2, .inl fl)), (a2, .inl (cI, 6, .inl fd)), (a3, .inl (cI, 6, .inl fh)), (a4, .inl (cI, 40, .inl fg)), (a5, .inl (cI, 40, .inl fs))] sz (fun (r : Int32) (u : (Nat → Int32) × (Nat → Int32) × (Nat → Int32)) => r = an_level w v) (fun (u : (Nat → Int32) × (Nat → Int32) × (Nat → Int32)) => [(x, .inr (3, [.ref cu, .ref pi, .ref sq, .ref fo, .ref bo, .int gl, .int td, .int le])), (cu, .inr (0, [.ref a0, .ref a1, .ref a2, .ref a3, .ref a4, .ref a5, .int bw, .int pts])), (a0, .inl (cI, 40, .inl fw)), (a1, .inl (cI, 2, .inl u.1)), (a2, .inl (cI, 6, .inl fd)), (a3, .inl (cI, 6, .inl fh)), (a4, .inl (cI, 40, .inl u.2.1)), (a5, .inl (cI, 40, .inl u.2.2))]) := by
  refine Met.ofW (cc := cX3_level) (maxL := 4) (ret := (some .int)) (by decide) rfl ?_
  intro p e s m args below meth c s₁ B hml hv
  obtain ⟨rfl, hsz, hP, hK, hD0, hN⟩ := hv
  have hx := B.exec
  have hb := B.bytes
  have hr := B.returns
  have hts := atoms_spec (ws := wsX3_level) B.pre
  have hown : s.vm.findClass RX3 = some m.cls := findClass_of_methodNamed B.named
  have hlocks := B.notSynchronized
  subst hsz
  have hD := hD0.self (sz := s.heap.size)
  generalize hAe : va_A [(x, .inr (3, [.ref cu, .ref pi, .ref sq, .ref fo, .ref bo, .int gl, .int td, .int le])), (cu, .inr (0, [.ref a0, .ref a1, .ref a2, .ref a3, .ref a4, .ref a5, .int bw, .int pts])), (a0, .inl (cI, 40, .inl fw)), (a1, .inl (cI, 2, .inl fl)), (a2, .inl (cI, 6, .inl fd)), (a3, .inl (cI, 6, .inl fh)), (a4, .inl (cI, 40, .inl fg)), (a5, .inl (cI, 40, .inl fs))] s.heap.size = A at hD ⊢
  have hA : ∀ q : Nat, s.heap.size ≤ q → A q := fun q h => by rw [← hAe]; exact Or.inr h
  have hS : va_S A s.heap s.heap [] := va_S.rf
  have hl := lv_entry ([.ref x, .int w, .int v]) (n := 4) (Nat.le_of_ble_eq_true rfl)
  rw [lg_entry_eq]
  generalize (lg_sl ([.ref x, .int w, .int v]) ++ List.replicate (4 - (lg_sl ([.ref x, .int w, .int v])).length) Slot.unset).toArray = ls at hl ⊢
  have hl : lv_has ls 4 [(0, .ref x), (1, .int w), (2, .int v)] := hl
  have hP0 := hP
  refine lv_iload_n hx hb dX3_level_0 rfl (lv_at hl 1 rfl) ?_
  refine lv_iconst (v := 0) hx hb dX3_level_1 (by decide) ?_
  refine lv_iconst (v := 1) hx hb dX3_level_2 (by decide) ?_
  refine cc_i (wc := []) (wr := [(x, .inr (3, [.ref cu, .ref pi, .ref sq, .ref fo, .ref bo, .int gl, .int td, .int le])), (cu, .inr (0, [.ref a0, .ref a1, .ref a2, .ref a3, .ref a4, .ref a5, .int bw, .int pts])), (a0, .inl (cI, 40, .inl fw)), (a1, .inl (cI, 2, .inl fl)), (a2, .inl (cI, 6, .inl fd)), (a3, .inl (cI, 6, .inl fh)), (a4, .inl (cI, 40, .inl fg)), (a5, .inl (cI, 40, .inl fs))]) (va_runS (As := [.int w, .int 0, .int 1]) (rest := []) ⟨hx, hb, hml, hown, hts⟩ (c_X3_isIn l D cI s.heap.size w 0 1 ) (va_cwS 3 hts gX3_level_X3_isIn rfl rfl rfl (by decide +kernel) ⟨Nat.le_of_ble_eq_true rfl, Nat.le_of_ble_eq_true rfl⟩) (preS (wc := []) hK hP hD hN [] rfl (by decide)) rfl rfl hl.1 rfl (lv_room (Nat.le_of_ble_eq_true rfl)) dX3_level_3 ⟨Nat.le_of_ble_eq_true rfl, Nat.le_of_ble_eq_true rfl⟩) hP hD hS hA [] [0, 1, 2, 3, 4, 5, 6, 7] rfl rfl (by decide) (by decide) (fun r_1 u H locs w_2 hP hD hS => ?_)
  have hP : va_P D vwCl [(x, .inr (3, [.ref cu, .ref pi, .ref sq, .ref fo, .ref bo, .int gl, .int td, .int le])), (cu, .inr (0, [.ref a0, .ref a1, .ref a2, .ref a3, .ref a4, .ref a5, .int bw, .int pts])), (a0, .inl (cI, 40, .inl fw)), (a1, .inl (cI, 2, .inl fl)), (a2, .inl (cI, 6, .inl fd)), (a3, .inl (cI, 6, .inl fh)), (a4, .inl (cI, 40, .inl fg)), (a5, .inl (cI, 40, .inl fs))] H := hP
  have hD : va_D A [(x, .inr (3, [.ref cu, .ref pi, .ref sq, .ref fo, .ref bo, .int gl, .int td, .int le])), (cu, .inr (0, [.ref a0, .ref a1, .ref a2, .ref a3, .ref a4, .ref a5, .int bw, .int pts])), (a0, .inl (cI, 40, .inl fw)), (a1, .inl (cI, 2, .inl fl)), (a2, .inl (cI, 6, .inl fd)), (a3, .inl (cI, 6, .inl fh)), (a4, .inl (cI, 40, .inl fg)), (a5, .inl (cI, 40, .inl fs))] := hD
  have w_2 : r_1 = bIn w (0 : Int32) (1 : Int32) := w_2
  refine lv_if_ne (tgt := 11) hx hb dX3_level_6 (by decide) (fun c_4 => ?_) (fun c_4 => ?_)
  · refine lv_iload_n hx hb dX3_level_11 rfl (lv_at hl 2 rfl) ?_
    refine lv_iconst (v := 0) hx hb dX3_level_12 (by decide) ?_
    refine lv_sipush (v := 1000) hx hb dX3_level_13 (by decide) ?_
    refine cc_i (wc := []) (wr := [(x, .inr (3, [.ref cu, .ref pi, .ref sq, .ref fo, .ref bo, .int gl, .int td, .int le])), (cu, .inr (0, [.ref a0, .ref a1, .ref a2, .ref a3, .ref a4, .ref a5, .int bw, .int pts])), (a0, .inl (cI, 40, .inl fw)), (a1, .inl (cI, 2, .inl fl)), (a2, .inl (cI, 6, .inl fd)), (a3, .inl (cI, 6, .inl fh)), (a4, .inl (cI, 40, .inl fg)), (a5, .inl (cI, 40, .inl fs))]) (va_runS (As := [.int v, .int 0, .int 1000]) (rest := []) ⟨hx, hb, hml, hown, hts⟩ (c_X3_isIn l D cI H.size v 0 1000 ) (va_cwS 3 hts gX3_level_X3_isIn rfl rfl rfl (by decide +kernel) ⟨Nat.le_of_ble_eq_true rfl, Nat.le_of_ble_eq_true rfl⟩) (preS (wc := []) hK hP hD hN [] rfl (by decide)) rfl rfl hl.1 rfl (lv_room (Nat.le_of_ble_eq_true rfl)) dX3_level_16 ⟨Nat.le_of_ble_eq_true rfl, Nat.le_of_ble_eq_true rfl⟩) hP hD hS hA [] [0, 1, 2, 3, 4, 5, 6, 7] rfl rfl (by decide) (by decide) (fun r_5 u H locs w_6 hP hD hS => ?_)
    have hP : va_P D vwCl [(x, .inr (3, [.ref cu, .ref pi, .ref sq, .ref fo, .ref bo, .int gl, .int td, .int le])), (cu, .inr (0, [.ref a0, .ref a1, .ref a2, .ref a3, .ref a4, .ref a5, .int bw, .int pts])), (a0, .inl (cI, 40, .inl fw)), (a1, .inl (cI, 2, .inl fl)), (a2, .inl (cI, 6, .inl fd)), (a3, .inl (cI, 6, .inl fh)), (a4, .inl (cI, 40, .inl fg)), (a5, .inl (cI, 40, .inl fs))] H := hP
    have hD : va_D A [(x, .inr (3, [.ref cu, .ref pi, .ref sq, .ref fo, .ref bo, .int gl, .int td, .int le])), (cu, .inr (0, [.ref a0, .ref a1, .ref a2, .ref a3, .ref a4, .ref a5, .int bw, .int pts])), (a0, .inl (cI, 40, .inl fw)), (a1, .inl (cI, 2, .inl fl)), (a2, .inl (cI, 6, .inl fd)), (a3, .inl (cI, 6, .inl fh)), (a4, .inl (cI, 40, .inl fg)), (a5, .inl (cI, 40, .inl fs))] := hD
    have w_6 : r_5 = bIn v (0 : Int32) (1000 : Int32) := w_6
    refine lv_if_ne (tgt := 25) hx hb dX3_level_19 (by decide) (fun c_8 => ?_) (fun c_8 => ?_)
    · refine lv_aload_n hx hb dX3_level_25 rfl (lv_at hl 0 rfl) ?_
      refine va_get (D := D) (ci := 3) (v := .ref cu) (C := RX3) (T := TX3) (N := 8) hx hb hts iw_X3_level_3 hown hK hP 0 rfl rfl 0 (by decide) (hts _ wd_X3_level_1) (fun _ h9 => h9) rfl dX3_level_26 ?_
      refine va_getN (D := D) (ci := 0) (v := .ref a1) (C := RX0) (T := TX0) (N := 8) hx hb hts iw_X3_level_0 hown hK hP 1 rfl rfl 1 (by decide) (va_Nw.use rfl (nwF_76 hN)) (fun _ h9 => h9) rfl dX3_level_29 ?_
      refine lv_iload_n hx hb dX3_level_32 rfl (lv_at hl 1 rfl) ?_
      refine va_iald hx hb hK hP 3 0 rfl rfl (pf_X3_level_1 fl w v r_1 r_5 hl0 hl1 w_2 c_4 w_6 c_8) dX3_level_33 ?_
      refine lv_topi (fun v_9 ev_9 => ?_)
      refine lv_istore_n (lv' := [(3, .int v_9), (0, .ref x), (1, .int w), (2, .int v)]) hx hb dX3_level_34 rfl hl (by decide) rfl (fun ls hl => ?_)
      refine lv_aload_n hx hb dX3_level_35 rfl (lv_at hl 1 rfl) ?_
      refine va_get (D := D) (ci := 3) (v := .ref cu) (C := RX3) (T := TX3) (N := 8) hx hb hts iw_X3_level_3 hown hK hP 0 rfl rfl 0 (by decide) (hts _ wd_X3_level_1) (fun _ h9 => h9) rfl dX3_level_36 ?_
      refine va_getN (D := D) (ci := 0) (v := .ref a1) (C := RX0) (T := TX0) (N := 8) hx hb hts iw_X3_level_0 hown hK hP 1 rfl rfl 1 (by decide) (va_Nw.use rfl (nwF_76 hN)) (fun _ h9 => h9) rfl dX3_level_39 ?_
      refine lv_iload_n hx hb dX3_level_42 rfl (lv_at hl 2 rfl) ?_
      refine lv_iload_n hx hb dX3_level_43 rfl (lv_at hl 3 rfl) ?_
      refine va_iast hx hb hK hP hD hS 3 0 rfl rfl (pf_X3_level_2 fl w v r_1 r_5 v_9 hl0 hl1 w_2 c_4 w_6 c_8 ev_9) dX3_level_44 (fun H locs hP hD hS => ?_)
      have hP : va_P D vwCl [(x, .inr (3, [.ref cu, .ref pi, .ref sq, .ref fo, .ref bo, .int gl, .int td, .int le])), (cu, .inr (0, [.ref a0, .ref a1, .ref a2, .ref a3, .ref a4, .ref a5, .int bw, .int pts])), (a0, .inl (cI, 40, .inl fw)), (a1, .inl (cI, 2, .inl (upd fl w.toNatClampNeg v))), (a2, .inl (cI, 6, .inl fd)), (a3, .inl (cI, 6, .inl fh)), (a4, .inl (cI, 40, .inl fg)), (a5, .inl (cI, 40, .inl fs))] H := hP
      have hD : va_D A [(x, .inr (3, [.ref cu, .ref pi, .ref sq, .ref fo, .ref bo, .int gl, .int td, .int le])), (cu, .inr (0, [.ref a0, .ref a1, .ref a2, .ref a3, .ref a4, .ref a5, .int bw, .int pts])), (a0, .inl (cI, 40, .inl fw)), (a1, .inl (cI, 2, .inl (upd fl w.toNatClampNeg v))), (a2, .inl (cI, 6, .inl fd)), (a3, .inl (cI, 6, .inl fh)), (a4, .inl (cI, 40, .inl fg)), (a5, .inl (cI, 40, .inl fs))] := hD
      refine lv_aload_n hx hb dX3_level_45 rfl (lv_at hl 1 rfl) ?_
      refine va_get (D := D) (ci := 3) (v := .ref cu) (C := RX3) (T := TX3) (N := 8) hx hb hts iw_X3_level_3 hown hK hP 0 rfl rfl 0 (by decide) (hts _ wd_X3_level_1) (fun _ h9 => h9) rfl dX3_level_46 ?_
      refine cc_v (wc := [(cu, .inr (0, [.ref a0, .ref a1, .ref a2, .ref a3, .ref a4, .ref a5, .int bw, .int pts])), (a0, .inl (cI, 40, .inl fw)), (a1, .inl (cI, 2, .inl (upd fl w.toNatClampNeg v))), (a2, .inl (cI, 6, .inl fd)), (a3, .inl (cI, 6, .inl fh)), (a4, .inl (cI, 40, .inl fg)), (a5, .inl (cI, 40, .inl fs))]) (wr := [(x, .inr (3, [.ref cu, .ref pi, .ref sq, .ref fo, .ref bo, .int gl, .int td, .int le]))]) (va_runVN (As := []) (rest := []) ⟨hx, hb, hml, hown, hts⟩ (c_X0_renew l D cI H.size cu a0 a1 a2 a3 a4 a5 bw pts fw (upd fl w.toNatClampNeg v) fd fh fg fs ) ⟨va_cnB 0 hts gX3_level_X0_renew_n79 rfl rfl rfl (nwM_79 hN) (hts _ wd_X3_level_7) (by decide +kernel) ⟨Nat.le_of_ble_eq_true rfl, Nat.le_of_ble_eq_true rfl⟩, (hts _ wd_X3_level_6), (hts _ wd_X3_level_8)⟩ (preV (wc := [(cu, .inr (0, [.ref a0, .ref a1, .ref a2, .ref a3, .ref a4, .ref a5, .int bw, .int pts])), (a0, .inl (cI, 40, .inl fw)), (a1, .inl (cI, 2, .inl (upd fl w.toNatClampNeg v))), (a2, .inl (cI, 6, .inl fd)), (a3, .inl (cI, 6, .inl fh)), (a4, .inl (cI, 40, .inl fg)), (a5, .inl (cI, 40, .inl fs))]) (ci := 0) (q0 := 1) hK hP hD hN [1, 2, 3, 4, 5, 6, 7] rfl (by decide) rfl rfl) rfl rfl hl.1 rfl (lv_room (Nat.le_of_ble_eq_true rfl)) dX3_level_49 ⟨Nat.le_of_ble_eq_true rfl, Nat.le_of_ble_eq_true rfl⟩) hP hD hS hA [1, 2, 3, 4, 5, 6, 7] [0] rfl rfl (by decide) (by decide) (fun u H locs w_11 hP hD hS => ?_)
      obtain ⟨fg2_12, fs2_13⟩ := u
      have hP : va_P D vwCl [(x, .inr (3, [.ref cu, .ref pi, .ref sq, .ref fo, .ref bo, .int gl, .int td, .int le])), (cu, .inr (0, [.ref a0, .ref a1, .ref a2, .ref a3, .ref a4, .ref a5, .int bw, .int pts])), (a0, .inl (cI, 40, .inl fw)), (a1, .inl (cI, 2, .inl (upd fl w.toNatClampNeg v))), (a2, .inl (cI, 6, .inl fd)), (a3, .inl (cI, 6, .inl fh)), (a4, .inl (cI, 40, .inl fg2_12)), (a5, .inl (cI, 40, .inl fs2_13))] H := hP
      have hD : va_D A [(x, .inr (3, [.ref cu, .ref pi, .ref sq, .ref fo, .ref bo, .int gl, .int td, .int le])), (cu, .inr (0, [.ref a0, .ref a1, .ref a2, .ref a3, .ref a4, .ref a5, .int bw, .int pts])), (a0, .inl (cI, 40, .inl fw)), (a1, .inl (cI, 2, .inl (upd fl w.toNatClampNeg v))), (a2, .inl (cI, 6, .inl fd)), (a3, .inl (cI, 6, .inl fh)), (a4, .inl (cI, 40, .inl fg2_12)), (a5, .inl (cI, 40, .inl fs2_13))] := hD
      refine lv_iload_n hx hb dX3_level_52 rfl (lv_at hl 0 rfl) ?_
      refine W.widen (k := 0) (n := 0) (Nat.le_of_ble_eq_true rfl) (Nat.le_of_ble_eq_true rfl) ?_
      exact fi_i (upd fl w.toNatClampNeg v, fg2_12, fs2_13) hx hb hr hlocks hK (hP.sub [0, 1, 2, 3, 4, 5, 6, 7] rfl) (hD.sub [0, 1, 2, 3, 4, 5, 6, 7] (by decide) rfl) hS (pf_X3_level_3 fl w v r_1 r_5 v_9 hl0 hl1 w_2 c_4 w_6 c_8 ev_9) dX3_level_53
    · refine lv_bipush (v := (-2)) hx hb dX3_level_22 (by decide) ?_
      refine W.widen (k := 0) (n := 0) (Nat.le_of_ble_eq_true rfl) (Nat.le_of_ble_eq_true rfl) ?_
      exact fi_i (fl, fg, fs) hx hb hr hlocks hK (hP.sub [0, 1, 2, 3, 4, 5, 6, 7] rfl) (hD.sub [0, 1, 2, 3, 4, 5, 6, 7] (by decide) rfl) hS (pf_X3_level_4 fl w v r_1 r_5 hl0 hl1 w_2 c_4 w_6 c_8) dX3_level_24
  · refine lv_iconst (v := (-1)) hx hb dX3_level_9 (by decide) ?_
    refine W.widen (k := 0) (n := 0) (Nat.le_of_ble_eq_true rfl) (Nat.le_of_ble_eq_true rfl) ?_
    exact fi_i (fl, fg, fs) hx hb hr hlocks hK (hP.sub [0, 1, 2, 3, 4, 5, 6, 7] rfl) (hD.sub [0, 1, 2, 3, 4, 5, 6, 7] (by decide) rfl) hS (pf_X3_level_5 fl w v r_1 hl0 hl1 w_2 c_4) dX3_level_10

theorem iw_X3_warm_0 : ∀ w ∈ wsX00, w ∈ wsX3_warm := fun w h => (List.mem_cons_of_mem _ (List.mem_append_right _ h))
theorem iw_X3_warm_3 : ∀ w ∈ wsX30, w ∈ wsX3_warm := fun w h => (List.mem_cons_of_mem _ (List.mem_append_left _ (List.mem_append_right _ h)))
theorem wd_X3_warm_1 : (.constant RX3 87 (-2147483648) : Cond) ∈ wsX3_warm := List.mem_of_getElem? (i := 1) rfl
theorem wd_X3_warm_2 : (.constant RX3 88 (-2147483647) : Cond) ∈ wsX3_warm := List.mem_of_getElem? (i := 2) rfl
theorem wd_X3_warm_3 : (.fieldLink RX3 14 "PourPlan" "curing" "LPourPlan$Curing;" : Cond) ∈ wsX3_warm := List.mem_of_getElem? (i := 3) rfl
theorem wd_X3_warm_11 : (.instanceMethod yX0_renew : Cond) ∈ wsX3_warm := List.mem_of_getElem? (i := 11) rfl
theorem wd_X3_warm_12 : (.initialized RX0 : Cond) ∈ wsX3_warm := List.mem_of_getElem? (i := 12) rfl
theorem wd_X3_warm_13 : (.selects RX0 yX0_renew yX0_renew : Cond) ∈ wsX3_warm := List.mem_of_getElem? (i := 13) rfl
set_option maxHeartbeats 1000000 in
theorem pf_X3_warm_1 (fw : Nat → Int32) (d : Int32) (w : Int32) (r_1 : Int32) (r_5 : Int32) (hw0 : ∀ j, j < 40 → fw j = 20) (w_2 : r_1 = bIn d 0 39) (c_4 : ¬ r_1 = 0) (w_6 : r_5 = bIn w (-30 : Int32) (50 : Int32)) (c_8 : ¬ r_5 = 0) : vp_in d 40 := by
  exact vi_in (M := 40) rfl (by grind [bIn, an_warm]) (by grind [bIn, an_warm])
set_option maxHeartbeats 1000000 in
theorem pf_X3_warm_2 (fw : Nat → Int32) (d : Int32) (w : Int32) (r_1 : Int32) (r_5 : Int32) (v_9 : Int32) (hw0 : ∀ j, j < 40 → fw j = 20) (w_2 : r_1 = bIn d 0 39) (c_4 : ¬ r_1 = 0) (w_6 : r_5 = bIn w (-30 : Int32) (50 : Int32)) (c_8 : ¬ r_5 = 0) (ev_9 : v_9 = fw d.toNatClampNeg) : vp_in d 40 := by
  exact vi_in (M := 40) rfl (by grind [bIn, an_warm]) (by grind [bIn, an_warm])
set_option maxHeartbeats 1000000 in
theorem pf_X3_warm_3 (fw : Nat → Int32) (d : Int32) (w : Int32) (r_1 : Int32) (r_5 : Int32) (v_9 : Int32) (hw0 : ∀ j, j < 40 → fw j = 20) (w_2 : r_1 = bIn d 0 39) (c_4 : ¬ r_1 = 0) (w_6 : r_5 = bIn w (-30 : Int32) (50 : Int32)) (c_8 : ¬ r_5 = 0) (ev_9 : v_9 = fw d.toNatClampNeg) : v_9 = an_warm d w := by
  have h3 : vp_in d 40 := by
    exact vi_in (M := 40) rfl (by grind [bIn]) (by grind [bIn])
  have h4 := hw0 _ (cl_lt h3)
  grind [bIn, an_warm]
set_option maxHeartbeats 1000000 in
theorem pf_X3_warm_4 (fw : Nat → Int32) (d : Int32) (w : Int32) (r_1 : Int32) (r_5 : Int32) (hw0 : ∀ j, j < 40 → fw j = 20) (w_2 : r_1 = bIn d 0 39) (c_4 : ¬ r_1 = 0) (w_6 : r_5 = bIn w (-30 : Int32) (50 : Int32)) (c_8 : r_5 = 0) : (-2147483647 : Int32) = an_warm d w := by
  grind [bIn, an_warm]
set_option maxHeartbeats 1000000 in
theorem pf_X3_warm_5 (fw : Nat → Int32) (d : Int32) (w : Int32) (r_1 : Int32) (hw0 : ∀ j, j < 40 → fw j = 20) (w_2 : r_1 = bIn d 0 39) (c_4 : r_1 = 0) : (-2147483648 : Int32) = an_warm d w := by
  grind [bIn, an_warm]
set_option maxHeartbeats 4000000 in
set_option maxRecDepth 100000 in
theorem c_X3_warm (l : Launch) (D : va_G) (cI : ClassId) (sz : Nat) (x : Nat) (cu : Nat) (a0 : Nat) (a1 : Nat) (a2 : Nat) (a3 : Nat) (a4 : Nat) (a5 : Nat) (pi : Nat) (sq : Nat) (fo : Nat) (bo : Nat) (gl : Int32) (td : Int32) (le : Int32) (bw : Int32) (pts : Int32) (fw : Nat → Int32) (fl : Nat → Int32) (fd : Nat → Int32) (fh : Nat → Int32) (fg : Nat → Int32) (fs : Nat → Int32) (d : Int32) (w : Int32) (hw0 : ∀ j, j < 40 → fw j = 20) : CtI l yX3_warm wsX3_warm 3 70 0 0 [.ref x, .int d, .int w] D [(cI, .int)] [(x, .inr (3, [.ref cu, .ref pi, .ref sq, .ref fo, .ref bo, .int gl, .int td, .int le])), (cu, .inr (0, [.ref a0, .ref a1, .ref a2, .ref a3, .ref a4, .ref a5, .int bw, .int pts])), (a0, .inl (cI, 40, .inl fw)), (a1, .inl (cI, 2, .inl fl)), (a2, .inl (cI, 6, .inl fd)), (a3, .inl (cI, 6, .inl fh)), (a4, .inl (cI, 40, .inl fg)), (a5, .inl (cI, 40, .inl fs))] sz (fun (r : Int32) (u : (Nat → Int32) × (Nat → Int32) × (Nat → Int32)) => r = an_warm d w) (fun (u : (Nat → Int32) × (Nat → Int32) × (Nat → Int32)) => [(x, .inr (3, [.ref cu, .ref pi, .ref sq, .ref fo, .ref bo, .int gl, .int td, .int le])), (cu, .inr (0, [.ref a0, .ref a1, .ref a2, .ref a3, .ref a4, .ref a5, .int bw, .int pts])), (a0, .inl (cI, 40, .inl u.1)), (a1, .inl (cI, 2, .inl fl)), (a2, .inl (cI, 6, .inl fd)), (a3, .inl (cI, 6, .inl fh)), (a4, .inl (cI, 40, .inl u.2.1)), (a5, .inl (cI, 40, .inl u.2.2))]) := by
  refine Met.ofW (cc := cX3_warm) (maxL := 4) (ret := (some .int)) (by decide) rfl ?_
  intro p e s m args below meth c s₁ B hml hv
  obtain ⟨rfl, hsz, hP, hK, hD0, hN⟩ := hv
  have hx := B.exec
  have hb := B.bytes
  have hr := B.returns
  have hts := atoms_spec (ws := wsX3_warm) B.pre
  have hown : s.vm.findClass RX3 = some m.cls := findClass_of_methodNamed B.named
  have hlocks := B.notSynchronized
  subst hsz
  have hD := hD0.self (sz := s.heap.size)
  generalize hAe : va_A [(x, .inr (3, [.ref cu, .ref pi, .ref sq, .ref fo, .ref bo, .int gl, .int td, .int le])), (cu, .inr (0, [.ref a0, .ref a1, .ref a2, .ref a3, .ref a4, .ref a5, .int bw, .int pts])), (a0, .inl (cI, 40, .inl fw)), (a1, .inl (cI, 2, .inl fl)), (a2, .inl (cI, 6, .inl fd)), (a3, .inl (cI, 6, .inl fh)), (a4, .inl (cI, 40, .inl fg)), (a5, .inl (cI, 40, .inl fs))] s.heap.size = A at hD ⊢
  have hA : ∀ q : Nat, s.heap.size ≤ q → A q := fun q h => by rw [← hAe]; exact Or.inr h
  have hS : va_S A s.heap s.heap [] := va_S.rf
  have hl := lv_entry ([.ref x, .int d, .int w]) (n := 4) (Nat.le_of_ble_eq_true rfl)
  rw [lg_entry_eq]
  generalize (lg_sl ([.ref x, .int d, .int w]) ++ List.replicate (4 - (lg_sl ([.ref x, .int d, .int w])).length) Slot.unset).toArray = ls at hl ⊢
  have hl : lv_has ls 4 [(0, .ref x), (1, .int d), (2, .int w)] := hl
  have hP0 := hP
  refine lv_iload_n hx hb dX3_warm_0 rfl (lv_at hl 1 rfl) ?_
  refine cc_i (wc := []) (wr := [(x, .inr (3, [.ref cu, .ref pi, .ref sq, .ref fo, .ref bo, .int gl, .int td, .int le])), (cu, .inr (0, [.ref a0, .ref a1, .ref a2, .ref a3, .ref a4, .ref a5, .int bw, .int pts])), (a0, .inl (cI, 40, .inl fw)), (a1, .inl (cI, 2, .inl fl)), (a2, .inl (cI, 6, .inl fd)), (a3, .inl (cI, 6, .inl fh)), (a4, .inl (cI, 40, .inl fg)), (a5, .inl (cI, 40, .inl fs))]) (va_runS (As := [.int d]) (rest := []) ⟨hx, hb, hml, hown, hts⟩ (c_X3_isDay l D cI s.heap.size d ) (va_cwS 1 hts gX3_warm_X3_isDay rfl rfl rfl (by decide +kernel) ⟨Nat.le_of_ble_eq_true rfl, Nat.le_of_ble_eq_true rfl⟩) (preS (wc := []) hK hP hD hN [] rfl (by decide)) rfl rfl hl.1 rfl (lv_room (Nat.le_of_ble_eq_true rfl)) dX3_warm_1 ⟨Nat.le_of_ble_eq_true rfl, Nat.le_of_ble_eq_true rfl⟩) hP hD hS hA [] [0, 1, 2, 3, 4, 5, 6, 7] rfl rfl (by decide) (by decide) (fun r_1 u H locs w_2 hP hD hS => ?_)
  have hP : va_P D vwCl [(x, .inr (3, [.ref cu, .ref pi, .ref sq, .ref fo, .ref bo, .int gl, .int td, .int le])), (cu, .inr (0, [.ref a0, .ref a1, .ref a2, .ref a3, .ref a4, .ref a5, .int bw, .int pts])), (a0, .inl (cI, 40, .inl fw)), (a1, .inl (cI, 2, .inl fl)), (a2, .inl (cI, 6, .inl fd)), (a3, .inl (cI, 6, .inl fh)), (a4, .inl (cI, 40, .inl fg)), (a5, .inl (cI, 40, .inl fs))] H := hP
  have hD : va_D A [(x, .inr (3, [.ref cu, .ref pi, .ref sq, .ref fo, .ref bo, .int gl, .int td, .int le])), (cu, .inr (0, [.ref a0, .ref a1, .ref a2, .ref a3, .ref a4, .ref a5, .int bw, .int pts])), (a0, .inl (cI, 40, .inl fw)), (a1, .inl (cI, 2, .inl fl)), (a2, .inl (cI, 6, .inl fd)), (a3, .inl (cI, 6, .inl fh)), (a4, .inl (cI, 40, .inl fg)), (a5, .inl (cI, 40, .inl fs))] := hD
  have w_2 : r_1 = bIn d 0 39 := w_2
  refine lv_if_ne (tgt := 10) hx hb dX3_warm_4 (by decide) (fun c_4 => ?_) (fun c_4 => ?_)
  · refine lv_iload_n hx hb dX3_warm_10 rfl (lv_at hl 2 rfl) ?_
    refine lv_bipush (v := (-30)) hx hb dX3_warm_11 (by decide) ?_
    refine lv_bipush (v := 50) hx hb dX3_warm_13 (by decide) ?_
    refine cc_i (wc := []) (wr := [(x, .inr (3, [.ref cu, .ref pi, .ref sq, .ref fo, .ref bo, .int gl, .int td, .int le])), (cu, .inr (0, [.ref a0, .ref a1, .ref a2, .ref a3, .ref a4, .ref a5, .int bw, .int pts])), (a0, .inl (cI, 40, .inl fw)), (a1, .inl (cI, 2, .inl fl)), (a2, .inl (cI, 6, .inl fd)), (a3, .inl (cI, 6, .inl fh)), (a4, .inl (cI, 40, .inl fg)), (a5, .inl (cI, 40, .inl fs))]) (va_runS (As := [.int w, .int (-30), .int 50]) (rest := []) ⟨hx, hb, hml, hown, hts⟩ (c_X3_isIn l D cI H.size w (-30) 50 ) (va_cwS 3 hts gX3_warm_X3_isIn rfl rfl rfl (by decide +kernel) ⟨Nat.le_of_ble_eq_true rfl, Nat.le_of_ble_eq_true rfl⟩) (preS (wc := []) hK hP hD hN [] rfl (by decide)) rfl rfl hl.1 rfl (lv_room (Nat.le_of_ble_eq_true rfl)) dX3_warm_15 ⟨Nat.le_of_ble_eq_true rfl, Nat.le_of_ble_eq_true rfl⟩) hP hD hS hA [] [0, 1, 2, 3, 4, 5, 6, 7] rfl rfl (by decide) (by decide) (fun r_5 u H locs w_6 hP hD hS => ?_)
    have hP : va_P D vwCl [(x, .inr (3, [.ref cu, .ref pi, .ref sq, .ref fo, .ref bo, .int gl, .int td, .int le])), (cu, .inr (0, [.ref a0, .ref a1, .ref a2, .ref a3, .ref a4, .ref a5, .int bw, .int pts])), (a0, .inl (cI, 40, .inl fw)), (a1, .inl (cI, 2, .inl fl)), (a2, .inl (cI, 6, .inl fd)), (a3, .inl (cI, 6, .inl fh)), (a4, .inl (cI, 40, .inl fg)), (a5, .inl (cI, 40, .inl fs))] H := hP
    have hD : va_D A [(x, .inr (3, [.ref cu, .ref pi, .ref sq, .ref fo, .ref bo, .int gl, .int td, .int le])), (cu, .inr (0, [.ref a0, .ref a1, .ref a2, .ref a3, .ref a4, .ref a5, .int bw, .int pts])), (a0, .inl (cI, 40, .inl fw)), (a1, .inl (cI, 2, .inl fl)), (a2, .inl (cI, 6, .inl fd)), (a3, .inl (cI, 6, .inl fh)), (a4, .inl (cI, 40, .inl fg)), (a5, .inl (cI, 40, .inl fs))] := hD
    have w_6 : r_5 = bIn w (-30 : Int32) (50 : Int32) := w_6
    refine lv_if_ne (tgt := 24) hx hb dX3_warm_18 (by decide) (fun c_8 => ?_) (fun c_8 => ?_)
    · refine lv_aload_n hx hb dX3_warm_24 rfl (lv_at hl 0 rfl) ?_
      refine va_get (D := D) (ci := 3) (v := .ref cu) (C := RX3) (T := TX3) (N := 8) hx hb hts iw_X3_warm_3 hown hK hP 0 rfl rfl 0 (by decide) (hts _ wd_X3_warm_3) (fun _ h9 => h9) rfl dX3_warm_25 ?_
      refine va_getN (D := D) (ci := 0) (v := .ref a0) (C := RX0) (T := TX0) (N := 8) hx hb hts iw_X3_warm_0 hown hK hP 1 rfl rfl 0 (by decide) (va_Nw.use rfl (nwF_89 hN)) (fun _ h9 => h9) rfl dX3_warm_28 ?_
      refine lv_iload_n hx hb dX3_warm_31 rfl (lv_at hl 1 rfl) ?_
      refine va_iald hx hb hK hP 2 0 rfl rfl (pf_X3_warm_1 fw d w r_1 r_5 hw0 w_2 c_4 w_6 c_8) dX3_warm_32 ?_
      refine lv_topi (fun v_9 ev_9 => ?_)
      refine lv_istore_n (lv' := [(3, .int v_9), (0, .ref x), (1, .int d), (2, .int w)]) hx hb dX3_warm_33 rfl hl (by decide) rfl (fun ls hl => ?_)
      refine lv_aload_n hx hb dX3_warm_34 rfl (lv_at hl 1 rfl) ?_
      refine va_get (D := D) (ci := 3) (v := .ref cu) (C := RX3) (T := TX3) (N := 8) hx hb hts iw_X3_warm_3 hown hK hP 0 rfl rfl 0 (by decide) (hts _ wd_X3_warm_3) (fun _ h9 => h9) rfl dX3_warm_35 ?_
      refine va_getN (D := D) (ci := 0) (v := .ref a0) (C := RX0) (T := TX0) (N := 8) hx hb hts iw_X3_warm_0 hown hK hP 1 rfl rfl 0 (by decide) (va_Nw.use rfl (nwF_89 hN)) (fun _ h9 => h9) rfl dX3_warm_38 ?_
      refine lv_iload_n hx hb dX3_warm_41 rfl (lv_at hl 2 rfl) ?_
      refine lv_iload_n hx hb dX3_warm_42 rfl (lv_at hl 3 rfl) ?_
      refine va_iast hx hb hK hP hD hS 2 0 rfl rfl (pf_X3_warm_2 fw d w r_1 r_5 v_9 hw0 w_2 c_4 w_6 c_8 ev_9) dX3_warm_43 (fun H locs hP hD hS => ?_)
      have hP : va_P D vwCl [(x, .inr (3, [.ref cu, .ref pi, .ref sq, .ref fo, .ref bo, .int gl, .int td, .int le])), (cu, .inr (0, [.ref a0, .ref a1, .ref a2, .ref a3, .ref a4, .ref a5, .int bw, .int pts])), (a0, .inl (cI, 40, .inl (upd fw d.toNatClampNeg w))), (a1, .inl (cI, 2, .inl fl)), (a2, .inl (cI, 6, .inl fd)), (a3, .inl (cI, 6, .inl fh)), (a4, .inl (cI, 40, .inl fg)), (a5, .inl (cI, 40, .inl fs))] H := hP
      have hD : va_D A [(x, .inr (3, [.ref cu, .ref pi, .ref sq, .ref fo, .ref bo, .int gl, .int td, .int le])), (cu, .inr (0, [.ref a0, .ref a1, .ref a2, .ref a3, .ref a4, .ref a5, .int bw, .int pts])), (a0, .inl (cI, 40, .inl (upd fw d.toNatClampNeg w))), (a1, .inl (cI, 2, .inl fl)), (a2, .inl (cI, 6, .inl fd)), (a3, .inl (cI, 6, .inl fh)), (a4, .inl (cI, 40, .inl fg)), (a5, .inl (cI, 40, .inl fs))] := hD
      refine lv_aload_n hx hb dX3_warm_44 rfl (lv_at hl 1 rfl) ?_
      refine va_get (D := D) (ci := 3) (v := .ref cu) (C := RX3) (T := TX3) (N := 8) hx hb hts iw_X3_warm_3 hown hK hP 0 rfl rfl 0 (by decide) (hts _ wd_X3_warm_3) (fun _ h9 => h9) rfl dX3_warm_45 ?_
      refine cc_v (wc := [(cu, .inr (0, [.ref a0, .ref a1, .ref a2, .ref a3, .ref a4, .ref a5, .int bw, .int pts])), (a0, .inl (cI, 40, .inl (upd fw d.toNatClampNeg w))), (a1, .inl (cI, 2, .inl fl)), (a2, .inl (cI, 6, .inl fd)), (a3, .inl (cI, 6, .inl fh)), (a4, .inl (cI, 40, .inl fg)), (a5, .inl (cI, 40, .inl fs))]) (wr := [(x, .inr (3, [.ref cu, .ref pi, .ref sq, .ref fo, .ref bo, .int gl, .int td, .int le]))]) (va_runVN (As := []) (rest := []) ⟨hx, hb, hml, hown, hts⟩ (c_X0_renew l D cI H.size cu a0 a1 a2 a3 a4 a5 bw pts (upd fw d.toNatClampNeg w) fl fd fh fg fs ) ⟨va_cnB 0 hts gX3_warm_X0_renew_n79 rfl rfl rfl (nwM_79 hN) (hts _ wd_X3_warm_12) (by decide +kernel) ⟨Nat.le_of_ble_eq_true rfl, Nat.le_of_ble_eq_true rfl⟩, (hts _ wd_X3_warm_11), (hts _ wd_X3_warm_13)⟩ (preV (wc := [(cu, .inr (0, [.ref a0, .ref a1, .ref a2, .ref a3, .ref a4, .ref a5, .int bw, .int pts])), (a0, .inl (cI, 40, .inl (upd fw d.toNatClampNeg w))), (a1, .inl (cI, 2, .inl fl)), (a2, .inl (cI, 6, .inl fd)), (a3, .inl (cI, 6, .inl fh)), (a4, .inl (cI, 40, .inl fg)), (a5, .inl (cI, 40, .inl fs))]) (ci := 0) (q0 := 1) hK hP hD hN [1, 2, 3, 4, 5, 6, 7] rfl (by decide) rfl rfl) rfl rfl hl.1 rfl (lv_room (Nat.le_of_ble_eq_true rfl)) dX3_warm_48 ⟨Nat.le_of_ble_eq_true rfl, Nat.le_of_ble_eq_true rfl⟩) hP hD hS hA [1, 2, 3, 4, 5, 6, 7] [0] rfl rfl (by decide) (by decide) (fun u H locs w_11 hP hD hS => ?_)
      obtain ⟨fg2_12, fs2_13⟩ := u
      have hP : va_P D vwCl [(x, .inr (3, [.ref cu, .ref pi, .ref sq, .ref fo, .ref bo, .int gl, .int td, .int le])), (cu, .inr (0, [.ref a0, .ref a1, .ref a2, .ref a3, .ref a4, .ref a5, .int bw, .int pts])), (a0, .inl (cI, 40, .inl (upd fw d.toNatClampNeg w))), (a1, .inl (cI, 2, .inl fl)), (a2, .inl (cI, 6, .inl fd)), (a3, .inl (cI, 6, .inl fh)), (a4, .inl (cI, 40, .inl fg2_12)), (a5, .inl (cI, 40, .inl fs2_13))] H := hP
      have hD : va_D A [(x, .inr (3, [.ref cu, .ref pi, .ref sq, .ref fo, .ref bo, .int gl, .int td, .int le])), (cu, .inr (0, [.ref a0, .ref a1, .ref a2, .ref a3, .ref a4, .ref a5, .int bw, .int pts])), (a0, .inl (cI, 40, .inl (upd fw d.toNatClampNeg w))), (a1, .inl (cI, 2, .inl fl)), (a2, .inl (cI, 6, .inl fd)), (a3, .inl (cI, 6, .inl fh)), (a4, .inl (cI, 40, .inl fg2_12)), (a5, .inl (cI, 40, .inl fs2_13))] := hD
      refine lv_iload_n hx hb dX3_warm_51 rfl (lv_at hl 0 rfl) ?_
      refine W.widen (k := 0) (n := 0) (Nat.le_of_ble_eq_true rfl) (Nat.le_of_ble_eq_true rfl) ?_
      exact fi_i (upd fw d.toNatClampNeg w, fg2_12, fs2_13) hx hb hr hlocks hK (hP.sub [0, 1, 2, 3, 4, 5, 6, 7] rfl) (hD.sub [0, 1, 2, 3, 4, 5, 6, 7] (by decide) rfl) hS (pf_X3_warm_3 fw d w r_1 r_5 v_9 hw0 w_2 c_4 w_6 c_8 ev_9) dX3_warm_52
    · refine lv_ldc hx hb hown (hts _ wd_X3_warm_2) dX3_warm_21 ?_
      refine W.widen (k := 0) (n := 0) (Nat.le_of_ble_eq_true rfl) (Nat.le_of_ble_eq_true rfl) ?_
      exact fi_i (fw, fg, fs) hx hb hr hlocks hK (hP.sub [0, 1, 2, 3, 4, 5, 6, 7] rfl) (hD.sub [0, 1, 2, 3, 4, 5, 6, 7] (by decide) rfl) hS (pf_X3_warm_4 fw d w r_1 r_5 hw0 w_2 c_4 w_6 c_8) dX3_warm_23
  · refine lv_ldc hx hb hown (hts _ wd_X3_warm_1) dX3_warm_7 ?_
    refine W.widen (k := 0) (n := 0) (Nat.le_of_ble_eq_true rfl) (Nat.le_of_ble_eq_true rfl) ?_
    exact fi_i (fw, fg, fs) hx hb hr hlocks hK (hP.sub [0, 1, 2, 3, 4, 5, 6, 7] rfl) (hD.sub [0, 1, 2, 3, 4, 5, 6, 7] (by decide) rfl) hS (pf_X3_warm_5 fw d w r_1 hw0 w_2 c_4) dX3_warm_9

theorem iw_X3_base_0 : ∀ w ∈ wsX00, w ∈ wsX3_base := fun w h => (List.mem_cons_of_mem _ (List.mem_append_right _ h))
theorem iw_X3_base_3 : ∀ w ∈ wsX30, w ∈ wsX3_base := fun w h => (List.mem_cons_of_mem _ (List.mem_append_left _ (List.mem_append_right _ h)))
theorem wd_X3_base_1 : (.fieldLink RX3 14 "PourPlan" "curing" "LPourPlan$Curing;" : Cond) ∈ wsX3_base := List.mem_of_getElem? (i := 1) rfl
theorem wd_X3_base_6 : (.instanceMethod yX0_renew : Cond) ∈ wsX3_base := List.mem_of_getElem? (i := 6) rfl
theorem wd_X3_base_7 : (.initialized RX0 : Cond) ∈ wsX3_base := List.mem_of_getElem? (i := 7) rfl
theorem wd_X3_base_8 : (.selects RX0 yX0_renew yX0_renew : Cond) ∈ wsX3_base := List.mem_of_getElem? (i := 8) rfl
set_option maxHeartbeats 1000000 in
theorem pf_X3_base_1 (bw : Int32) (b1 : Int32) (r_1 : Int32) (w_2 : r_1 = bIn b1 (0 : Int32) (20 : Int32)) (c_4 : ¬ r_1 = 0) : bw = if b1 < 0 ∨ 20 < b1 then -2 else bw := by
  grind [bIn]
set_option maxHeartbeats 1000000 in
theorem pf_X3_base_2 (bw : Int32) (b1 : Int32) (r_1 : Int32) (w_2 : r_1 = bIn b1 (0 : Int32) (20 : Int32)) (c_4 : r_1 = 0) : (-2 : Int32) = if b1 < 0 ∨ 20 < b1 then -2 else bw := by
  grind [bIn]
set_option maxHeartbeats 4000000 in
set_option maxRecDepth 100000 in
theorem c_X3_base (l : Launch) (D : va_G) (cI : ClassId) (sz : Nat) (x : Nat) (cu : Nat) (a0 : Nat) (a1 : Nat) (a2 : Nat) (a3 : Nat) (a4 : Nat) (a5 : Nat) (pi : Nat) (sq : Nat) (fo : Nat) (bo : Nat) (gl : Int32) (td : Int32) (le : Int32) (bw : Int32) (pts : Int32) (fw : Nat → Int32) (fl : Nat → Int32) (fd : Nat → Int32) (fh : Nat → Int32) (fg : Nat → Int32) (fs : Nat → Int32) (b1 : Int32) : CtI l yX3_base wsX3_base 3 70 0 0 [.ref x, .int b1] D [(cI, .int)] [(x, .inr (3, [.ref cu, .ref pi, .ref sq, .ref fo, .ref bo, .int gl, .int td, .int le])), (cu, .inr (0, [.ref a0, .ref a1, .ref a2, .ref a3, .ref a4, .ref a5, .int bw, .int pts])), (a0, .inl (cI, 40, .inl fw)), (a1, .inl (cI, 2, .inl fl)), (a2, .inl (cI, 6, .inl fd)), (a3, .inl (cI, 6, .inl fh)), (a4, .inl (cI, 40, .inl fg)), (a5, .inl (cI, 40, .inl fs))] sz (fun (r : Int32) (u : Int32 × (Nat → Int32) × (Nat → Int32)) => r = if b1 < 0 ∨ 20 < b1 then -2 else bw) (fun (u : Int32 × (Nat → Int32) × (Nat → Int32)) => [(x, .inr (3, [.ref cu, .ref pi, .ref sq, .ref fo, .ref bo, .int gl, .int td, .int le])), (cu, .inr (0, [.ref a0, .ref a1, .ref a2, .ref a3, .ref a4, .ref a5, .int u.1, .int pts])), (a0, .inl (cI, 40, .inl fw)), (a1, .inl (cI, 2, .inl fl)), (a2, .inl (cI, 6, .inl fd)), (a3, .inl (cI, 6, .inl fh)), (a4, .inl (cI, 40, .inl u.2.1)), (a5, .inl (cI, 40, .inl u.2.2))]) := by
  refine Met.ofW (cc := cX3_base) (maxL := 3) (ret := (some .int)) (by decide) rfl ?_
  intro p e s m args below meth c s₁ B hml hv
  obtain ⟨rfl, hsz, hP, hK, hD0, hN⟩ := hv
  have hx := B.exec
  have hb := B.bytes
  have hr := B.returns
  have hts := atoms_spec (ws := wsX3_base) B.pre
  have hown : s.vm.findClass RX3 = some m.cls := findClass_of_methodNamed B.named
  have hlocks := B.notSynchronized
  subst hsz
  have hD := hD0.self (sz := s.heap.size)
  generalize hAe : va_A [(x, .inr (3, [.ref cu, .ref pi, .ref sq, .ref fo, .ref bo, .int gl, .int td, .int le])), (cu, .inr (0, [.ref a0, .ref a1, .ref a2, .ref a3, .ref a4, .ref a5, .int bw, .int pts])), (a0, .inl (cI, 40, .inl fw)), (a1, .inl (cI, 2, .inl fl)), (a2, .inl (cI, 6, .inl fd)), (a3, .inl (cI, 6, .inl fh)), (a4, .inl (cI, 40, .inl fg)), (a5, .inl (cI, 40, .inl fs))] s.heap.size = A at hD ⊢
  have hA : ∀ q : Nat, s.heap.size ≤ q → A q := fun q h => by rw [← hAe]; exact Or.inr h
  have hS : va_S A s.heap s.heap [] := va_S.rf
  have hl := lv_entry ([.ref x, .int b1]) (n := 3) (Nat.le_of_ble_eq_true rfl)
  rw [lg_entry_eq]
  generalize (lg_sl ([.ref x, .int b1]) ++ List.replicate (3 - (lg_sl ([.ref x, .int b1])).length) Slot.unset).toArray = ls at hl ⊢
  have hl : lv_has ls 3 [(0, .ref x), (1, .int b1)] := hl
  have hP0 := hP
  refine lv_iload_n hx hb dX3_base_0 rfl (lv_at hl 1 rfl) ?_
  refine lv_iconst (v := 0) hx hb dX3_base_1 (by decide) ?_
  refine lv_bipush (v := 20) hx hb dX3_base_2 (by decide) ?_
  refine cc_i (wc := []) (wr := [(x, .inr (3, [.ref cu, .ref pi, .ref sq, .ref fo, .ref bo, .int gl, .int td, .int le])), (cu, .inr (0, [.ref a0, .ref a1, .ref a2, .ref a3, .ref a4, .ref a5, .int bw, .int pts])), (a0, .inl (cI, 40, .inl fw)), (a1, .inl (cI, 2, .inl fl)), (a2, .inl (cI, 6, .inl fd)), (a3, .inl (cI, 6, .inl fh)), (a4, .inl (cI, 40, .inl fg)), (a5, .inl (cI, 40, .inl fs))]) (va_runS (As := [.int b1, .int 0, .int 20]) (rest := []) ⟨hx, hb, hml, hown, hts⟩ (c_X3_isIn l D cI s.heap.size b1 0 20 ) (va_cwS 3 hts gX3_base_X3_isIn rfl rfl rfl (by decide +kernel) ⟨Nat.le_of_ble_eq_true rfl, Nat.le_of_ble_eq_true rfl⟩) (preS (wc := []) hK hP hD hN [] rfl (by decide)) rfl rfl hl.1 rfl (lv_room (Nat.le_of_ble_eq_true rfl)) dX3_base_4 ⟨Nat.le_of_ble_eq_true rfl, Nat.le_of_ble_eq_true rfl⟩) hP hD hS hA [] [0, 1, 2, 3, 4, 5, 6, 7] rfl rfl (by decide) (by decide) (fun r_1 u H locs w_2 hP hD hS => ?_)
  have hP : va_P D vwCl [(x, .inr (3, [.ref cu, .ref pi, .ref sq, .ref fo, .ref bo, .int gl, .int td, .int le])), (cu, .inr (0, [.ref a0, .ref a1, .ref a2, .ref a3, .ref a4, .ref a5, .int bw, .int pts])), (a0, .inl (cI, 40, .inl fw)), (a1, .inl (cI, 2, .inl fl)), (a2, .inl (cI, 6, .inl fd)), (a3, .inl (cI, 6, .inl fh)), (a4, .inl (cI, 40, .inl fg)), (a5, .inl (cI, 40, .inl fs))] H := hP
  have hD : va_D A [(x, .inr (3, [.ref cu, .ref pi, .ref sq, .ref fo, .ref bo, .int gl, .int td, .int le])), (cu, .inr (0, [.ref a0, .ref a1, .ref a2, .ref a3, .ref a4, .ref a5, .int bw, .int pts])), (a0, .inl (cI, 40, .inl fw)), (a1, .inl (cI, 2, .inl fl)), (a2, .inl (cI, 6, .inl fd)), (a3, .inl (cI, 6, .inl fh)), (a4, .inl (cI, 40, .inl fg)), (a5, .inl (cI, 40, .inl fs))] := hD
  have w_2 : r_1 = bIn b1 (0 : Int32) (20 : Int32) := w_2
  refine lv_if_ne (tgt := 13) hx hb dX3_base_7 (by decide) (fun c_4 => ?_) (fun c_4 => ?_)
  · refine lv_aload_n hx hb dX3_base_13 rfl (lv_at hl 0 rfl) ?_
    refine va_get (D := D) (ci := 3) (v := .ref cu) (C := RX3) (T := TX3) (N := 8) hx hb hts iw_X3_base_3 hown hK hP 0 rfl rfl 0 (by decide) (hts _ wd_X3_base_1) (fun _ h9 => h9) rfl dX3_base_14 ?_
    refine va_getN (D := D) (ci := 0) (v := .int bw) (C := RX0) (T := TX0) (N := 8) hx hb hts iw_X3_base_0 hown hK hP 1 rfl rfl 6 (by decide) (va_Nw.use rfl (nwF_92 hN)) (fun _ h9 => h9) rfl dX3_base_17 ?_
    refine lv_istore_n (lv' := [(2, .int bw), (0, .ref x), (1, .int b1)]) hx hb dX3_base_20 rfl hl (by decide) rfl (fun ls hl => ?_)
    refine lv_aload_n hx hb dX3_base_21 rfl (lv_at hl 1 rfl) ?_
    refine va_get (D := D) (ci := 3) (v := .ref cu) (C := RX3) (T := TX3) (N := 8) hx hb hts iw_X3_base_3 hown hK hP 0 rfl rfl 0 (by decide) (hts _ wd_X3_base_1) (fun _ h9 => h9) rfl dX3_base_22 ?_
    refine lv_iload_n hx hb dX3_base_25 rfl (lv_at hl 2 rfl) ?_
    refine va_putN (D := D) (ci := 0) (v := .int b1) (ty := .int) (C := RX0) (T := TX0) (N := 8) hx hb hts iw_X3_base_0 tyX0 tyX0_ok nmX0 hown hK hP hD hS 1 rfl rfl 6 (by decide) (va_Nw.use rfl (nwF_92 hN)) (fun _ h9 => h9) rfl (by decide +kernel) rfl rfl (Nat.le_of_ble_eq_true rfl) dX3_base_26 (fun H locs hP hD hS => ?_)
    have hP : va_P D vwCl [(x, .inr (3, [.ref cu, .ref pi, .ref sq, .ref fo, .ref bo, .int gl, .int td, .int le])), (cu, .inr (0, [.ref a0, .ref a1, .ref a2, .ref a3, .ref a4, .ref a5, .int b1, .int pts])), (a0, .inl (cI, 40, .inl fw)), (a1, .inl (cI, 2, .inl fl)), (a2, .inl (cI, 6, .inl fd)), (a3, .inl (cI, 6, .inl fh)), (a4, .inl (cI, 40, .inl fg)), (a5, .inl (cI, 40, .inl fs))] H := hP
    have hD : va_D A [(x, .inr (3, [.ref cu, .ref pi, .ref sq, .ref fo, .ref bo, .int gl, .int td, .int le])), (cu, .inr (0, [.ref a0, .ref a1, .ref a2, .ref a3, .ref a4, .ref a5, .int b1, .int pts])), (a0, .inl (cI, 40, .inl fw)), (a1, .inl (cI, 2, .inl fl)), (a2, .inl (cI, 6, .inl fd)), (a3, .inl (cI, 6, .inl fh)), (a4, .inl (cI, 40, .inl fg)), (a5, .inl (cI, 40, .inl fs))] := hD
    refine lv_aload_n hx hb dX3_base_29 rfl (lv_at hl 1 rfl) ?_
    refine va_get (D := D) (ci := 3) (v := .ref cu) (C := RX3) (T := TX3) (N := 8) hx hb hts iw_X3_base_3 hown hK hP 0 rfl rfl 0 (by decide) (hts _ wd_X3_base_1) (fun _ h9 => h9) rfl dX3_base_30 ?_
    refine cc_v (wc := [(cu, .inr (0, [.ref a0, .ref a1, .ref a2, .ref a3, .ref a4, .ref a5, .int b1, .int pts])), (a0, .inl (cI, 40, .inl fw)), (a1, .inl (cI, 2, .inl fl)), (a2, .inl (cI, 6, .inl fd)), (a3, .inl (cI, 6, .inl fh)), (a4, .inl (cI, 40, .inl fg)), (a5, .inl (cI, 40, .inl fs))]) (wr := [(x, .inr (3, [.ref cu, .ref pi, .ref sq, .ref fo, .ref bo, .int gl, .int td, .int le]))]) (va_runVN (As := []) (rest := []) ⟨hx, hb, hml, hown, hts⟩ (c_X0_renew l D cI H.size cu a0 a1 a2 a3 a4 a5 b1 pts fw fl fd fh fg fs ) ⟨va_cnB 0 hts gX3_base_X0_renew_n79 rfl rfl rfl (nwM_79 hN) (hts _ wd_X3_base_7) (by decide +kernel) ⟨Nat.le_of_ble_eq_true rfl, Nat.le_of_ble_eq_true rfl⟩, (hts _ wd_X3_base_6), (hts _ wd_X3_base_8)⟩ (preV (wc := [(cu, .inr (0, [.ref a0, .ref a1, .ref a2, .ref a3, .ref a4, .ref a5, .int b1, .int pts])), (a0, .inl (cI, 40, .inl fw)), (a1, .inl (cI, 2, .inl fl)), (a2, .inl (cI, 6, .inl fd)), (a3, .inl (cI, 6, .inl fh)), (a4, .inl (cI, 40, .inl fg)), (a5, .inl (cI, 40, .inl fs))]) (ci := 0) (q0 := 1) hK hP hD hN [1, 2, 3, 4, 5, 6, 7] rfl (by decide) rfl rfl) rfl rfl hl.1 rfl (lv_room (Nat.le_of_ble_eq_true rfl)) dX3_base_33 ⟨Nat.le_of_ble_eq_true rfl, Nat.le_of_ble_eq_true rfl⟩) hP hD hS hA [1, 2, 3, 4, 5, 6, 7] [0] rfl rfl (by decide) (by decide) (fun u H locs w_6 hP hD hS => ?_)
    obtain ⟨fg2_7, fs2_8⟩ := u
    have hP : va_P D vwCl [(x, .inr (3, [.ref cu, .ref pi, .ref sq, .ref fo, .ref bo, .int gl, .int td, .int le])), (cu, .inr (0, [.ref a0, .ref a1, .ref a2, .ref a3, .ref a4, .ref a5, .int b1, .int pts])), (a0, .inl (cI, 40, .inl fw)), (a1, .inl (cI, 2, .inl fl)), (a2, .inl (cI, 6, .inl fd)), (a3, .inl (cI, 6, .inl fh)), (a4, .inl (cI, 40, .inl fg2_7)), (a5, .inl (cI, 40, .inl fs2_8))] H := hP
    have hD : va_D A [(x, .inr (3, [.ref cu, .ref pi, .ref sq, .ref fo, .ref bo, .int gl, .int td, .int le])), (cu, .inr (0, [.ref a0, .ref a1, .ref a2, .ref a3, .ref a4, .ref a5, .int b1, .int pts])), (a0, .inl (cI, 40, .inl fw)), (a1, .inl (cI, 2, .inl fl)), (a2, .inl (cI, 6, .inl fd)), (a3, .inl (cI, 6, .inl fh)), (a4, .inl (cI, 40, .inl fg2_7)), (a5, .inl (cI, 40, .inl fs2_8))] := hD
    refine lv_iload_n hx hb dX3_base_36 rfl (lv_at hl 0 rfl) ?_
    refine W.widen (k := 0) (n := 0) (Nat.le_of_ble_eq_true rfl) (Nat.le_of_ble_eq_true rfl) ?_
    exact fi_i (b1, fg2_7, fs2_8) hx hb hr hlocks hK (hP.sub [0, 1, 2, 3, 4, 5, 6, 7] rfl) (hD.sub [0, 1, 2, 3, 4, 5, 6, 7] (by decide) rfl) hS (pf_X3_base_1 bw b1 r_1 w_2 c_4) dX3_base_37
  · refine lv_bipush (v := (-2)) hx hb dX3_base_10 (by decide) ?_
    refine W.widen (k := 0) (n := 0) (Nat.le_of_ble_eq_true rfl) (Nat.le_of_ble_eq_true rfl) ?_
    exact fi_i (bw, fg, fs) hx hb hr hlocks hK (hP.sub [0, 1, 2, 3, 4, 5, 6, 7] rfl) (hD.sub [0, 1, 2, 3, 4, 5, 6, 7] (by decide) rfl) hS (pf_X3_base_2 bw b1 r_1 w_2 c_4) dX3_base_12

theorem iw_X3_point_0 : ∀ w ∈ wsX00, w ∈ wsX3_point := fun w h => (List.mem_cons_of_mem _ (List.mem_append_right _ h))
theorem iw_X3_point_3 : ∀ w ∈ wsX30, w ∈ wsX3_point := fun w h => (List.mem_cons_of_mem _ (List.mem_append_left _ (List.mem_append_right _ h)))
theorem wd_X3_point_1 : (.fieldLink RX3 14 "PourPlan" "curing" "LPourPlan$Curing;" : Cond) ∈ wsX3_point := List.mem_of_getElem? (i := 1) rfl
theorem wd_X3_point_6 : (.instanceMethod yX0_goesOnWith : Cond) ∈ wsX3_point := List.mem_of_getElem? (i := 6) rfl
theorem wd_X3_point_7 : (.initialized RX0 : Cond) ∈ wsX3_point := List.mem_of_getElem? (i := 7) rfl
theorem wd_X3_point_8 : (.selects RX0 yX0_goesOnWith yX0_goesOnWith : Cond) ∈ wsX3_point := List.mem_of_getElem? (i := 8) rfl
theorem wd_X3_point_13 : (.instanceMethod yX0_addPoint : Cond) ∈ wsX3_point := List.mem_of_getElem? (i := 13) rfl
theorem wd_X3_point_14 : (.selects RX0 yX0_addPoint yX0_addPoint : Cond) ∈ wsX3_point := List.mem_of_getElem? (i := 14) rfl
theorem wd_X3_point_16 : (.instanceMethod yX0_renew : Cond) ∈ wsX3_point := List.mem_of_getElem? (i := 16) rfl
theorem wd_X3_point_17 : (.selects RX0 yX0_renew yX0_renew : Cond) ∈ wsX3_point := List.mem_of_getElem? (i := 17) rfl
set_option maxHeartbeats 1000000 in
theorem pf_X3_point_1 (pts : Int32) (d : Int32) (t : Int32) (r_1 : Int32) (hp0 : pts = 0) (w_2 : r_1 = bIn d (1 : Int32) (2000 : Int32)) (c_4 : r_1 = 0) : (-2 : Int32) = an_point d t := by
  grind [bIn, an_point]
set_option maxHeartbeats 1000000 in
theorem pf_X3_point_2 (pts : Int32) (d : Int32) (t : Int32) (r_1 : Int32) (r_5 : Int32) (hp0 : pts = 0) (w_2 : r_1 = bIn d (1 : Int32) (2000 : Int32)) (c_4 : ¬ r_1 = 0) (w_6 : r_5 = bIn t (0 : Int32) (1000 : Int32)) (c_8 : r_5 = 0) : (-2 : Int32) = an_point d t := by
  grind [bIn, an_point]
set_option maxHeartbeats 1000000 in
theorem pf_X3_point_3 (pts : Int32) (d : Int32) (t : Int32) (r_1 : Int32) (r_5 : Int32) (hp0 : pts = 0) (w_2 : r_1 = bIn d (1 : Int32) (2000 : Int32)) (c_4 : ¬ r_1 = 0) (w_6 : r_5 = bIn t (0 : Int32) (1000 : Int32)) (c_8 : ¬ r_5 = 0) : pts = 0 := by
  grind [bIn, an_point]
set_option maxHeartbeats 1000000 in
theorem pf_X3_point_4 (pts : Int32) (d : Int32) (t : Int32) (r_1 : Int32) (r_5 : Int32) (r_9 : Int32) (hp0 : pts = 0) (w_2 : r_1 = bIn d (1 : Int32) (2000 : Int32)) (c_4 : ¬ r_1 = 0) (w_6 : r_5 = bIn t (0 : Int32) (1000 : Int32)) (c_8 : ¬ r_5 = 0) (w_10 : r_9 = 1) (c_12 : ¬ r_9 = 0) (c_13 : pts < 6) : 0 ≤ pts := by
  grind [bIn, an_point]
set_option maxHeartbeats 1000000 in
theorem pf_X3_point_5 (pts : Int32) (d : Int32) (t : Int32) (r_1 : Int32) (r_5 : Int32) (r_9 : Int32) (pts2_16 : Int32) (hp0 : pts = 0) (w_2 : r_1 = bIn d (1 : Int32) (2000 : Int32)) (c_4 : ¬ r_1 = 0) (w_6 : r_5 = bIn t (0 : Int32) (1000 : Int32)) (c_8 : ¬ r_5 = 0) (w_10 : r_9 = 1) (c_12 : ¬ r_9 = 0) (c_13 : pts < 6) (w_15 : (pts < 6 → pts2_16 = pts + 1)) : pts2_16 = an_point d t := by
  grind [bIn, an_point]
set_option maxHeartbeats 1000000 in
theorem pf_X3_point_6 (pts : Int32) (d : Int32) (t : Int32) (r_1 : Int32) (r_5 : Int32) (r_9 : Int32) (hp0 : pts = 0) (w_2 : r_1 = bIn d (1 : Int32) (2000 : Int32)) (c_4 : ¬ r_1 = 0) (w_6 : r_5 = bIn t (0 : Int32) (1000 : Int32)) (c_8 : ¬ r_5 = 0) (w_10 : r_9 = 1) (c_12 : ¬ r_9 = 0) (c_13 : ¬ pts < 6) : (-4 : Int32) = an_point d t := by
  grind [bIn, an_point]
set_option maxHeartbeats 1000000 in
theorem pf_X3_point_7 (pts : Int32) (d : Int32) (t : Int32) (r_1 : Int32) (r_5 : Int32) (r_9 : Int32) (hp0 : pts = 0) (w_2 : r_1 = bIn d (1 : Int32) (2000 : Int32)) (c_4 : ¬ r_1 = 0) (w_6 : r_5 = bIn t (0 : Int32) (1000 : Int32)) (c_8 : ¬ r_5 = 0) (w_10 : r_9 = 1) (c_12 : r_9 = 0) : (-2 : Int32) = an_point d t := by
  grind [bIn, an_point]
set_option maxHeartbeats 4000000 in
set_option maxRecDepth 100000 in
theorem c_X3_point (l : Launch) (D : va_G) (cI : ClassId) (sz : Nat) (x : Nat) (cu : Nat) (a0 : Nat) (a1 : Nat) (a2 : Nat) (a3 : Nat) (a4 : Nat) (a5 : Nat) (pi : Nat) (sq : Nat) (fo : Nat) (bo : Nat) (gl : Int32) (td : Int32) (le : Int32) (bw : Int32) (pts : Int32) (fw : Nat → Int32) (fl : Nat → Int32) (fd : Nat → Int32) (fh : Nat → Int32) (fg : Nat → Int32) (fs : Nat → Int32) (d : Int32) (t : Int32) (hp0 : pts = 0) : CtI l yX3_point wsX3_point 3 70 0 0 [.ref x, .int d, .int t] D [(cI, .int)] [(x, .inr (3, [.ref cu, .ref pi, .ref sq, .ref fo, .ref bo, .int gl, .int td, .int le])), (cu, .inr (0, [.ref a0, .ref a1, .ref a2, .ref a3, .ref a4, .ref a5, .int bw, .int pts])), (a0, .inl (cI, 40, .inl fw)), (a1, .inl (cI, 2, .inl fl)), (a2, .inl (cI, 6, .inl fd)), (a3, .inl (cI, 6, .inl fh)), (a4, .inl (cI, 40, .inl fg)), (a5, .inl (cI, 40, .inl fs))] sz (fun (r : Int32) (u : Int32 × (Nat → Int32) × (Nat → Int32) × (Nat → Int32) × (Nat → Int32)) => r = an_point d t) (fun (u : Int32 × (Nat → Int32) × (Nat → Int32) × (Nat → Int32) × (Nat → Int32)) => [(x, .inr (3, [.ref cu, .ref pi, .ref sq, .ref fo, .ref bo, .int gl, .int td, .int le])), (cu, .inr (0, [.ref a0, .ref a1, .ref a2, .ref a3, .ref a4, .ref a5, .int bw, .int u.1])), (a0, .inl (cI, 40, .inl fw)), (a1, .inl (cI, 2, .inl fl)), (a2, .inl (cI, 6, .inl u.2.1)), (a3, .inl (cI, 6, .inl u.2.2.1)), (a4, .inl (cI, 40, .inl u.2.2.2.1)), (a5, .inl (cI, 40, .inl u.2.2.2.2))]) := by
  refine Met.ofW (cc := cX3_point) (maxL := 3) (ret := (some .int)) (by decide) rfl ?_
  intro p e s m args below meth c s₁ B hml hv
  obtain ⟨rfl, hsz, hP, hK, hD0, hN⟩ := hv
  have hx := B.exec
  have hb := B.bytes
  have hr := B.returns
  have hts := atoms_spec (ws := wsX3_point) B.pre
  have hown : s.vm.findClass RX3 = some m.cls := findClass_of_methodNamed B.named
  have hlocks := B.notSynchronized
  subst hsz
  have hD := hD0.self (sz := s.heap.size)
  generalize hAe : va_A [(x, .inr (3, [.ref cu, .ref pi, .ref sq, .ref fo, .ref bo, .int gl, .int td, .int le])), (cu, .inr (0, [.ref a0, .ref a1, .ref a2, .ref a3, .ref a4, .ref a5, .int bw, .int pts])), (a0, .inl (cI, 40, .inl fw)), (a1, .inl (cI, 2, .inl fl)), (a2, .inl (cI, 6, .inl fd)), (a3, .inl (cI, 6, .inl fh)), (a4, .inl (cI, 40, .inl fg)), (a5, .inl (cI, 40, .inl fs))] s.heap.size = A at hD ⊢
  have hA : ∀ q : Nat, s.heap.size ≤ q → A q := fun q h => by rw [← hAe]; exact Or.inr h
  have hS : va_S A s.heap s.heap [] := va_S.rf
  have hl := lv_entry ([.ref x, .int d, .int t]) (n := 3) (Nat.le_of_ble_eq_true rfl)
  rw [lg_entry_eq]
  generalize (lg_sl ([.ref x, .int d, .int t]) ++ List.replicate (3 - (lg_sl ([.ref x, .int d, .int t])).length) Slot.unset).toArray = ls at hl ⊢
  have hl : lv_has ls 3 [(0, .ref x), (1, .int d), (2, .int t)] := hl
  have hP0 := hP
  refine lv_iload_n hx hb dX3_point_0 rfl (lv_at hl 1 rfl) ?_
  refine lv_iconst (v := 1) hx hb dX3_point_1 (by decide) ?_
  refine lv_sipush (v := 2000) hx hb dX3_point_2 (by decide) ?_
  refine cc_i (wc := []) (wr := [(x, .inr (3, [.ref cu, .ref pi, .ref sq, .ref fo, .ref bo, .int gl, .int td, .int le])), (cu, .inr (0, [.ref a0, .ref a1, .ref a2, .ref a3, .ref a4, .ref a5, .int bw, .int pts])), (a0, .inl (cI, 40, .inl fw)), (a1, .inl (cI, 2, .inl fl)), (a2, .inl (cI, 6, .inl fd)), (a3, .inl (cI, 6, .inl fh)), (a4, .inl (cI, 40, .inl fg)), (a5, .inl (cI, 40, .inl fs))]) (va_runS (As := [.int d, .int 1, .int 2000]) (rest := []) ⟨hx, hb, hml, hown, hts⟩ (c_X3_isIn l D cI s.heap.size d 1 2000 ) (va_cwS 3 hts gX3_point_X3_isIn rfl rfl rfl (by decide +kernel) ⟨Nat.le_of_ble_eq_true rfl, Nat.le_of_ble_eq_true rfl⟩) (preS (wc := []) hK hP hD hN [] rfl (by decide)) rfl rfl hl.1 rfl (lv_room (Nat.le_of_ble_eq_true rfl)) dX3_point_5 ⟨Nat.le_of_ble_eq_true rfl, Nat.le_of_ble_eq_true rfl⟩) hP hD hS hA [] [0, 1, 2, 3, 4, 5, 6, 7] rfl rfl (by decide) (by decide) (fun r_1 u H locs w_2 hP hD hS => ?_)
  have hP : va_P D vwCl [(x, .inr (3, [.ref cu, .ref pi, .ref sq, .ref fo, .ref bo, .int gl, .int td, .int le])), (cu, .inr (0, [.ref a0, .ref a1, .ref a2, .ref a3, .ref a4, .ref a5, .int bw, .int pts])), (a0, .inl (cI, 40, .inl fw)), (a1, .inl (cI, 2, .inl fl)), (a2, .inl (cI, 6, .inl fd)), (a3, .inl (cI, 6, .inl fh)), (a4, .inl (cI, 40, .inl fg)), (a5, .inl (cI, 40, .inl fs))] H := hP
  have hD : va_D A [(x, .inr (3, [.ref cu, .ref pi, .ref sq, .ref fo, .ref bo, .int gl, .int td, .int le])), (cu, .inr (0, [.ref a0, .ref a1, .ref a2, .ref a3, .ref a4, .ref a5, .int bw, .int pts])), (a0, .inl (cI, 40, .inl fw)), (a1, .inl (cI, 2, .inl fl)), (a2, .inl (cI, 6, .inl fd)), (a3, .inl (cI, 6, .inl fh)), (a4, .inl (cI, 40, .inl fg)), (a5, .inl (cI, 40, .inl fs))] := hD
  have w_2 : r_1 = bIn d (1 : Int32) (2000 : Int32) := w_2
  refine lv_if_eq (tgt := 34) hx hb dX3_point_8 (by decide) (fun c_4 => ?_) (fun c_4 => ?_)
  · refine lv_bipush (v := (-2)) hx hb dX3_point_34 (by decide) ?_
    refine W.widen (k := 0) (n := 0) (Nat.le_of_ble_eq_true rfl) (Nat.le_of_ble_eq_true rfl) ?_
    exact fi_i (pts, fd, fh, fg, fs) hx hb hr hlocks hK (hP.sub [0, 1, 2, 3, 4, 5, 6, 7] rfl) (hD.sub [0, 1, 2, 3, 4, 5, 6, 7] (by decide) rfl) hS (pf_X3_point_1 pts d t r_1 hp0 w_2 c_4) dX3_point_36
  · refine lv_iload_n hx hb dX3_point_11 rfl (lv_at hl 2 rfl) ?_
    refine lv_iconst (v := 0) hx hb dX3_point_12 (by decide) ?_
    refine lv_sipush (v := 1000) hx hb dX3_point_13 (by decide) ?_
    refine cc_i (wc := []) (wr := [(x, .inr (3, [.ref cu, .ref pi, .ref sq, .ref fo, .ref bo, .int gl, .int td, .int le])), (cu, .inr (0, [.ref a0, .ref a1, .ref a2, .ref a3, .ref a4, .ref a5, .int bw, .int pts])), (a0, .inl (cI, 40, .inl fw)), (a1, .inl (cI, 2, .inl fl)), (a2, .inl (cI, 6, .inl fd)), (a3, .inl (cI, 6, .inl fh)), (a4, .inl (cI, 40, .inl fg)), (a5, .inl (cI, 40, .inl fs))]) (va_runS (As := [.int t, .int 0, .int 1000]) (rest := []) ⟨hx, hb, hml, hown, hts⟩ (c_X3_isIn l D cI H.size t 0 1000 ) (va_cwS 3 hts gX3_point_X3_isIn rfl rfl rfl (by decide +kernel) ⟨Nat.le_of_ble_eq_true rfl, Nat.le_of_ble_eq_true rfl⟩) (preS (wc := []) hK hP hD hN [] rfl (by decide)) rfl rfl hl.1 rfl (lv_room (Nat.le_of_ble_eq_true rfl)) dX3_point_16 ⟨Nat.le_of_ble_eq_true rfl, Nat.le_of_ble_eq_true rfl⟩) hP hD hS hA [] [0, 1, 2, 3, 4, 5, 6, 7] rfl rfl (by decide) (by decide) (fun r_5 u H locs w_6 hP hD hS => ?_)
    have hP : va_P D vwCl [(x, .inr (3, [.ref cu, .ref pi, .ref sq, .ref fo, .ref bo, .int gl, .int td, .int le])), (cu, .inr (0, [.ref a0, .ref a1, .ref a2, .ref a3, .ref a4, .ref a5, .int bw, .int pts])), (a0, .inl (cI, 40, .inl fw)), (a1, .inl (cI, 2, .inl fl)), (a2, .inl (cI, 6, .inl fd)), (a3, .inl (cI, 6, .inl fh)), (a4, .inl (cI, 40, .inl fg)), (a5, .inl (cI, 40, .inl fs))] H := hP
    have hD : va_D A [(x, .inr (3, [.ref cu, .ref pi, .ref sq, .ref fo, .ref bo, .int gl, .int td, .int le])), (cu, .inr (0, [.ref a0, .ref a1, .ref a2, .ref a3, .ref a4, .ref a5, .int bw, .int pts])), (a0, .inl (cI, 40, .inl fw)), (a1, .inl (cI, 2, .inl fl)), (a2, .inl (cI, 6, .inl fd)), (a3, .inl (cI, 6, .inl fh)), (a4, .inl (cI, 40, .inl fg)), (a5, .inl (cI, 40, .inl fs))] := hD
    have w_6 : r_5 = bIn t (0 : Int32) (1000 : Int32) := w_6
    refine lv_if_eq (tgt := 34) hx hb dX3_point_19 (by decide) (fun c_8 => ?_) (fun c_8 => ?_)
    · refine lv_bipush (v := (-2)) hx hb dX3_point_34 (by decide) ?_
      refine W.widen (k := 0) (n := 0) (Nat.le_of_ble_eq_true rfl) (Nat.le_of_ble_eq_true rfl) ?_
      exact fi_i (pts, fd, fh, fg, fs) hx hb hr hlocks hK (hP.sub [0, 1, 2, 3, 4, 5, 6, 7] rfl) (hD.sub [0, 1, 2, 3, 4, 5, 6, 7] (by decide) rfl) hS (pf_X3_point_2 pts d t r_1 r_5 hp0 w_2 c_4 w_6 c_8) dX3_point_36
    · refine lv_aload_n hx hb dX3_point_22 rfl (lv_at hl 0 rfl) ?_
      refine va_get (D := D) (ci := 3) (v := .ref cu) (C := RX3) (T := TX3) (N := 8) hx hb hts iw_X3_point_3 hown hK hP 0 rfl rfl 0 (by decide) (hts _ wd_X3_point_1) (fun _ h9 => h9) rfl dX3_point_23 ?_
      refine lv_iload_n hx hb dX3_point_26 rfl (lv_at hl 1 rfl) ?_
      refine lv_iload_n hx hb dX3_point_27 rfl (lv_at hl 2 rfl) ?_
      refine cc_i (wc := [(cu, .inr (0, [.ref a0, .ref a1, .ref a2, .ref a3, .ref a4, .ref a5, .int bw, .int pts])), (a2, .inl (cI, 6, .inl fd)), (a3, .inl (cI, 6, .inl fh))]) (wr := [(x, .inr (3, [.ref cu, .ref pi, .ref sq, .ref fo, .ref bo, .int gl, .int td, .int le])), (a0, .inl (cI, 40, .inl fw)), (a1, .inl (cI, 2, .inl fl)), (a4, .inl (cI, 40, .inl fg)), (a5, .inl (cI, 40, .inl fs))]) (va_runVN (As := [.int d, .int t]) (rest := []) ⟨hx, hb, hml, hown, hts⟩ (c_X0_goesOnWith l D cI H.size cu a2 a3 a0 a1 a4 a5 bw pts fd fh d t (pf_X3_point_3 pts d t r_1 r_5 hp0 w_2 c_4 w_6 c_8)) ⟨va_cnB 2 hts gX3_point_X0_goesOnWith_n95 rfl rfl rfl (nwM_95 hN) (hts _ wd_X3_point_7) (by decide +kernel) ⟨Nat.le_of_ble_eq_true rfl, Nat.le_of_ble_eq_true rfl⟩, (hts _ wd_X3_point_6), (hts _ wd_X3_point_8)⟩ (preV (wc := [(cu, .inr (0, [.ref a0, .ref a1, .ref a2, .ref a3, .ref a4, .ref a5, .int bw, .int pts])), (a2, .inl (cI, 6, .inl fd)), (a3, .inl (cI, 6, .inl fh))]) (ci := 0) (q0 := 1) hK hP hD hN [1, 4, 5] rfl (by decide) rfl rfl) rfl rfl hl.1 rfl (lv_room (Nat.le_of_ble_eq_true rfl)) dX3_point_28 ⟨Nat.le_of_ble_eq_true rfl, Nat.le_of_ble_eq_true rfl⟩) hP hD hS hA [1, 4, 5] [0, 2, 3, 6, 7] rfl rfl (by decide) (by decide) (fun r_9 u H locs w_10 hP hD hS => ?_)
      have hP : va_P D vwCl [(x, .inr (3, [.ref cu, .ref pi, .ref sq, .ref fo, .ref bo, .int gl, .int td, .int le])), (a0, .inl (cI, 40, .inl fw)), (a1, .inl (cI, 2, .inl fl)), (a4, .inl (cI, 40, .inl fg)), (a5, .inl (cI, 40, .inl fs)), (cu, .inr (0, [.ref a0, .ref a1, .ref a2, .ref a3, .ref a4, .ref a5, .int bw, .int pts])), (a2, .inl (cI, 6, .inl fd)), (a3, .inl (cI, 6, .inl fh))] H := hP
      have hD : va_D A [(x, .inr (3, [.ref cu, .ref pi, .ref sq, .ref fo, .ref bo, .int gl, .int td, .int le])), (a0, .inl (cI, 40, .inl fw)), (a1, .inl (cI, 2, .inl fl)), (a4, .inl (cI, 40, .inl fg)), (a5, .inl (cI, 40, .inl fs)), (cu, .inr (0, [.ref a0, .ref a1, .ref a2, .ref a3, .ref a4, .ref a5, .int bw, .int pts])), (a2, .inl (cI, 6, .inl fd)), (a3, .inl (cI, 6, .inl fh))] := hD
      have w_10 : r_9 = 1 := w_10
      refine lv_if_ne (tgt := 37) hx hb dX3_point_31 (by decide) (fun c_12 => ?_) (fun c_12 => ?_)
      · refine lv_aload_n hx hb dX3_point_37 rfl (lv_at hl 0 rfl) ?_
        refine va_get (D := D) (ci := 3) (v := .ref cu) (C := RX3) (T := TX3) (N := 8) hx hb hts iw_X3_point_3 hown hK hP 0 rfl rfl 0 (by decide) (hts _ wd_X3_point_1) (fun _ h9 => h9) rfl dX3_point_38 ?_
        refine va_getN (D := D) (ci := 0) (v := .int pts) (C := RX0) (T := TX0) (N := 8) hx hb hts iw_X3_point_0 hown hK hP 5 rfl rfl 7 (by decide) (va_Nw.use rfl (nwF_98 hN)) (fun _ h9 => h9) rfl dX3_point_41 ?_
        refine lv_bipush (v := 6) hx hb dX3_point_44 (by decide) ?_
        refine lv_icmp_lt (tgt := 52) hx hb dX3_point_46 (by decide) (fun c_13 => ?_) (fun c_13 => ?_)
        · refine lv_aload_n hx hb dX3_point_52 rfl (lv_at hl 0 rfl) ?_
          refine va_get (D := D) (ci := 3) (v := .ref cu) (C := RX3) (T := TX3) (N := 8) hx hb hts iw_X3_point_3 hown hK hP 0 rfl rfl 0 (by decide) (hts _ wd_X3_point_1) (fun _ h9 => h9) rfl dX3_point_53 ?_
          refine lv_iload_n hx hb dX3_point_56 rfl (lv_at hl 1 rfl) ?_
          refine lv_iload_n hx hb dX3_point_57 rfl (lv_at hl 2 rfl) ?_
          refine cc_v (wc := [(cu, .inr (0, [.ref a0, .ref a1, .ref a2, .ref a3, .ref a4, .ref a5, .int bw, .int pts])), (a2, .inl (cI, 6, .inl fd)), (a3, .inl (cI, 6, .inl fh))]) (wr := [(x, .inr (3, [.ref cu, .ref pi, .ref sq, .ref fo, .ref bo, .int gl, .int td, .int le])), (a0, .inl (cI, 40, .inl fw)), (a1, .inl (cI, 2, .inl fl)), (a4, .inl (cI, 40, .inl fg)), (a5, .inl (cI, 40, .inl fs))]) (va_runVN (As := [.int d, .int t]) (rest := []) ⟨hx, hb, hml, hown, hts⟩ (c_X0_addPoint l D cI H.size cu a2 a3 a0 a1 a4 a5 bw pts fd fh d t (pf_X3_point_4 pts d t r_1 r_5 r_9 hp0 w_2 c_4 w_6 c_8 w_10 c_12 c_13)) ⟨va_cnB 2 hts gX3_point_X0_addPoint_n101 rfl rfl rfl (nwM_101 hN) (hts _ wd_X3_point_7) (by decide +kernel) ⟨Nat.le_of_ble_eq_true rfl, Nat.le_of_ble_eq_true rfl⟩, (hts _ wd_X3_point_13), (hts _ wd_X3_point_14)⟩ (preV (wc := [(cu, .inr (0, [.ref a0, .ref a1, .ref a2, .ref a3, .ref a4, .ref a5, .int bw, .int pts])), (a2, .inl (cI, 6, .inl fd)), (a3, .inl (cI, 6, .inl fh))]) (ci := 0) (q0 := 5) hK hP hD hN [5, 6, 7] rfl (by decide) rfl rfl) rfl rfl hl.1 rfl (lv_room (Nat.le_of_ble_eq_true rfl)) dX3_point_58 ⟨Nat.le_of_ble_eq_true rfl, Nat.le_of_ble_eq_true rfl⟩) hP hD hS hA [5, 6, 7] [0, 1, 2, 3, 4] rfl rfl (by decide) (by decide) (fun u H locs w_15 hP hD hS => ?_)
          obtain ⟨pts2_16, fd2_17, fh2_18⟩ := u
          have hP : va_P D vwCl [(x, .inr (3, [.ref cu, .ref pi, .ref sq, .ref fo, .ref bo, .int gl, .int td, .int le])), (a0, .inl (cI, 40, .inl fw)), (a1, .inl (cI, 2, .inl fl)), (a4, .inl (cI, 40, .inl fg)), (a5, .inl (cI, 40, .inl fs)), (cu, .inr (0, [.ref a0, .ref a1, .ref a2, .ref a3, .ref a4, .ref a5, .int bw, .int pts2_16])), (a2, .inl (cI, 6, .inl fd2_17)), (a3, .inl (cI, 6, .inl fh2_18))] H := hP
          have hD : va_D A [(x, .inr (3, [.ref cu, .ref pi, .ref sq, .ref fo, .ref bo, .int gl, .int td, .int le])), (a0, .inl (cI, 40, .inl fw)), (a1, .inl (cI, 2, .inl fl)), (a4, .inl (cI, 40, .inl fg)), (a5, .inl (cI, 40, .inl fs)), (cu, .inr (0, [.ref a0, .ref a1, .ref a2, .ref a3, .ref a4, .ref a5, .int bw, .int pts2_16])), (a2, .inl (cI, 6, .inl fd2_17)), (a3, .inl (cI, 6, .inl fh2_18))] := hD
          have w_15 : (pts < 6 → pts2_16 = pts + 1) := w_15
          refine lv_aload_n hx hb dX3_point_61 rfl (lv_at hl 0 rfl) ?_
          refine va_get (D := D) (ci := 3) (v := .ref cu) (C := RX3) (T := TX3) (N := 8) hx hb hts iw_X3_point_3 hown hK hP 0 rfl rfl 0 (by decide) (hts _ wd_X3_point_1) (fun _ h9 => h9) rfl dX3_point_62 ?_
          refine cc_v (wc := [(cu, .inr (0, [.ref a0, .ref a1, .ref a2, .ref a3, .ref a4, .ref a5, .int bw, .int pts2_16])), (a0, .inl (cI, 40, .inl fw)), (a1, .inl (cI, 2, .inl fl)), (a2, .inl (cI, 6, .inl fd2_17)), (a3, .inl (cI, 6, .inl fh2_18)), (a4, .inl (cI, 40, .inl fg)), (a5, .inl (cI, 40, .inl fs))]) (wr := [(x, .inr (3, [.ref cu, .ref pi, .ref sq, .ref fo, .ref bo, .int gl, .int td, .int le]))]) (va_runVN (As := []) (rest := []) ⟨hx, hb, hml, hown, hts⟩ (c_X0_renew l D cI H.size cu a0 a1 a2 a3 a4 a5 bw pts2_16 fw fl fd2_17 fh2_18 fg fs ) ⟨va_cnB 0 hts gX3_point_X0_renew_n79 rfl rfl rfl (nwM_79 hN) (hts _ wd_X3_point_7) (by decide +kernel) ⟨Nat.le_of_ble_eq_true rfl, Nat.le_of_ble_eq_true rfl⟩, (hts _ wd_X3_point_16), (hts _ wd_X3_point_17)⟩ (preV (wc := [(cu, .inr (0, [.ref a0, .ref a1, .ref a2, .ref a3, .ref a4, .ref a5, .int bw, .int pts2_16])), (a0, .inl (cI, 40, .inl fw)), (a1, .inl (cI, 2, .inl fl)), (a2, .inl (cI, 6, .inl fd2_17)), (a3, .inl (cI, 6, .inl fh2_18)), (a4, .inl (cI, 40, .inl fg)), (a5, .inl (cI, 40, .inl fs))]) (ci := 0) (q0 := 5) hK hP hD hN [5, 1, 2, 6, 7, 3, 4] rfl (by decide) rfl rfl) rfl rfl hl.1 rfl (lv_room (Nat.le_of_ble_eq_true rfl)) dX3_point_65 ⟨Nat.le_of_ble_eq_true rfl, Nat.le_of_ble_eq_true rfl⟩) hP hD hS hA [5, 1, 2, 6, 7, 3, 4] [0] rfl rfl (by decide) (by decide) (fun u H locs w_21 hP hD hS => ?_)
          obtain ⟨fg2_22, fs2_23⟩ := u
          have hP : va_P D vwCl [(x, .inr (3, [.ref cu, .ref pi, .ref sq, .ref fo, .ref bo, .int gl, .int td, .int le])), (cu, .inr (0, [.ref a0, .ref a1, .ref a2, .ref a3, .ref a4, .ref a5, .int bw, .int pts2_16])), (a0, .inl (cI, 40, .inl fw)), (a1, .inl (cI, 2, .inl fl)), (a2, .inl (cI, 6, .inl fd2_17)), (a3, .inl (cI, 6, .inl fh2_18)), (a4, .inl (cI, 40, .inl fg2_22)), (a5, .inl (cI, 40, .inl fs2_23))] H := hP
          have hD : va_D A [(x, .inr (3, [.ref cu, .ref pi, .ref sq, .ref fo, .ref bo, .int gl, .int td, .int le])), (cu, .inr (0, [.ref a0, .ref a1, .ref a2, .ref a3, .ref a4, .ref a5, .int bw, .int pts2_16])), (a0, .inl (cI, 40, .inl fw)), (a1, .inl (cI, 2, .inl fl)), (a2, .inl (cI, 6, .inl fd2_17)), (a3, .inl (cI, 6, .inl fh2_18)), (a4, .inl (cI, 40, .inl fg2_22)), (a5, .inl (cI, 40, .inl fs2_23))] := hD
          refine lv_aload_n hx hb dX3_point_68 rfl (lv_at hl 0 rfl) ?_
          refine va_get (D := D) (ci := 3) (v := .ref cu) (C := RX3) (T := TX3) (N := 8) hx hb hts iw_X3_point_3 hown hK hP 0 rfl rfl 0 (by decide) (hts _ wd_X3_point_1) (fun _ h9 => h9) rfl dX3_point_69 ?_
          refine va_getN (D := D) (ci := 0) (v := .int pts2_16) (C := RX0) (T := TX0) (N := 8) hx hb hts iw_X3_point_0 hown hK hP 1 rfl rfl 7 (by decide) (va_Nw.use rfl (nwF_98 hN)) (fun _ h9 => h9) rfl dX3_point_72 ?_
          refine W.widen (k := 0) (n := 0) (Nat.le_of_ble_eq_true rfl) (Nat.le_of_ble_eq_true rfl) ?_
          exact fi_i (pts2_16, fd2_17, fh2_18, fg2_22, fs2_23) hx hb hr hlocks hK (hP.sub [0, 1, 2, 3, 4, 5, 6, 7] rfl) (hD.sub [0, 1, 2, 3, 4, 5, 6, 7] (by decide) rfl) hS (pf_X3_point_5 pts d t r_1 r_5 r_9 pts2_16 hp0 w_2 c_4 w_6 c_8 w_10 c_12 c_13 w_15) dX3_point_75
        · refine lv_bipush (v := (-4)) hx hb dX3_point_49 (by decide) ?_
          refine W.widen (k := 0) (n := 0) (Nat.le_of_ble_eq_true rfl) (Nat.le_of_ble_eq_true rfl) ?_
          exact fi_i (pts, fd, fh, fg, fs) hx hb hr hlocks hK (hP.sub [0, 5, 1, 2, 6, 7, 3, 4] rfl) (hD.sub [0, 5, 1, 2, 6, 7, 3, 4] (by decide) rfl) hS (pf_X3_point_6 pts d t r_1 r_5 r_9 hp0 w_2 c_4 w_6 c_8 w_10 c_12 c_13) dX3_point_51
      · refine lv_bipush (v := (-2)) hx hb dX3_point_34 (by decide) ?_
        refine W.widen (k := 0) (n := 0) (Nat.le_of_ble_eq_true rfl) (Nat.le_of_ble_eq_true rfl) ?_
        exact fi_i (pts, fd, fh, fg, fs) hx hb hr hlocks hK (hP.sub [0, 5, 1, 2, 6, 7, 3, 4] rfl) (hD.sub [0, 5, 1, 2, 6, 7, 3, 4] (by decide) rfl) hS (pf_X3_point_7 pts d t r_1 r_5 r_9 hp0 w_2 c_4 w_6 c_8 w_10 c_12) dX3_point_36

theorem iw_X3_unpoint_0 : ∀ w ∈ wsX00, w ∈ wsX3_unpoint := fun w h => (List.mem_cons_of_mem _ (List.mem_append_right _ h))
theorem iw_X3_unpoint_3 : ∀ w ∈ wsX30, w ∈ wsX3_unpoint := fun w h => (List.mem_cons_of_mem _ (List.mem_append_left _ (List.mem_append_right _ h)))
theorem wd_X3_unpoint_1 : (.fieldLink RX3 14 "PourPlan" "curing" "LPourPlan$Curing;" : Cond) ∈ wsX3_unpoint := List.mem_of_getElem? (i := 1) rfl
theorem wd_X3_unpoint_2 : (.instanceMethod yX0_renew : Cond) ∈ wsX3_unpoint := List.mem_of_getElem? (i := 2) rfl
theorem wd_X3_unpoint_3 : (.initialized RX0 : Cond) ∈ wsX3_unpoint := List.mem_of_getElem? (i := 3) rfl
theorem wd_X3_unpoint_4 : (.selects RX0 yX0_renew yX0_renew : Cond) ∈ wsX3_unpoint := List.mem_of_getElem? (i := 4) rfl
set_option maxHeartbeats 1000000 in
theorem pf_X3_unpoint_1 (pts : Int32)  : pts = pts := by
  grind
set_option maxHeartbeats 4000000 in
set_option maxRecDepth 100000 in
theorem c_X3_unpoint (l : Launch) (D : va_G) (cI : ClassId) (sz : Nat) (x : Nat) (cu : Nat) (a0 : Nat) (a1 : Nat) (a2 : Nat) (a3 : Nat) (a4 : Nat) (a5 : Nat) (pi : Nat) (sq : Nat) (fo : Nat) (bo : Nat) (gl : Int32) (td : Int32) (le : Int32) (bw : Int32) (pts : Int32) (fw : Nat → Int32) (fl : Nat → Int32) (fd : Nat → Int32) (fh : Nat → Int32) (fg : Nat → Int32) (fs : Nat → Int32) : CtI l yX3_unpoint wsX3_unpoint 3 70 0 0 [.ref x] D [(cI, .int)] [(x, .inr (3, [.ref cu, .ref pi, .ref sq, .ref fo, .ref bo, .int gl, .int td, .int le])), (cu, .inr (0, [.ref a0, .ref a1, .ref a2, .ref a3, .ref a4, .ref a5, .int bw, .int pts])), (a0, .inl (cI, 40, .inl fw)), (a1, .inl (cI, 2, .inl fl)), (a2, .inl (cI, 6, .inl fd)), (a3, .inl (cI, 6, .inl fh)), (a4, .inl (cI, 40, .inl fg)), (a5, .inl (cI, 40, .inl fs))] sz (fun (r : Int32) (u : (Nat → Int32) × (Nat → Int32)) => r = pts) (fun (u : (Nat → Int32) × (Nat → Int32)) => [(x, .inr (3, [.ref cu, .ref pi, .ref sq, .ref fo, .ref bo, .int gl, .int td, .int le])), (cu, .inr (0, [.ref a0, .ref a1, .ref a2, .ref a3, .ref a4, .ref a5, .int bw, .int 0])), (a0, .inl (cI, 40, .inl fw)), (a1, .inl (cI, 2, .inl fl)), (a2, .inl (cI, 6, .inl fd)), (a3, .inl (cI, 6, .inl fh)), (a4, .inl (cI, 40, .inl u.1)), (a5, .inl (cI, 40, .inl u.2))]) := by
  refine Met.ofW (cc := cX3_unpoint) (maxL := 2) (ret := (some .int)) (by decide) rfl ?_
  intro p e s m args below meth c s₁ B hml hv
  obtain ⟨rfl, hsz, hP, hK, hD0, hN⟩ := hv
  have hx := B.exec
  have hb := B.bytes
  have hr := B.returns
  have hts := atoms_spec (ws := wsX3_unpoint) B.pre
  have hown : s.vm.findClass RX3 = some m.cls := findClass_of_methodNamed B.named
  have hlocks := B.notSynchronized
  subst hsz
  have hD := hD0.self (sz := s.heap.size)
  generalize hAe : va_A [(x, .inr (3, [.ref cu, .ref pi, .ref sq, .ref fo, .ref bo, .int gl, .int td, .int le])), (cu, .inr (0, [.ref a0, .ref a1, .ref a2, .ref a3, .ref a4, .ref a5, .int bw, .int pts])), (a0, .inl (cI, 40, .inl fw)), (a1, .inl (cI, 2, .inl fl)), (a2, .inl (cI, 6, .inl fd)), (a3, .inl (cI, 6, .inl fh)), (a4, .inl (cI, 40, .inl fg)), (a5, .inl (cI, 40, .inl fs))] s.heap.size = A at hD ⊢
  have hA : ∀ q : Nat, s.heap.size ≤ q → A q := fun q h => by rw [← hAe]; exact Or.inr h
  have hS : va_S A s.heap s.heap [] := va_S.rf
  have hl := lv_entry ([.ref x]) (n := 2) (Nat.le_of_ble_eq_true rfl)
  rw [lg_entry_eq]
  generalize (lg_sl ([.ref x]) ++ List.replicate (2 - (lg_sl ([.ref x])).length) Slot.unset).toArray = ls at hl ⊢
  have hl : lv_has ls 2 [(0, .ref x)] := hl
  have hP0 := hP
  refine lv_aload_n hx hb dX3_unpoint_0 rfl (lv_at hl 0 rfl) ?_
  refine va_get (D := D) (ci := 3) (v := .ref cu) (C := RX3) (T := TX3) (N := 8) hx hb hts iw_X3_unpoint_3 hown hK hP 0 rfl rfl 0 (by decide) (hts _ wd_X3_unpoint_1) (fun _ h9 => h9) rfl dX3_unpoint_1 ?_
  refine va_getN (D := D) (ci := 0) (v := .int pts) (C := RX0) (T := TX0) (N := 8) hx hb hts iw_X3_unpoint_0 hown hK hP 1 rfl rfl 7 (by decide) (va_Nw.use rfl (nwF_98 hN)) (fun _ h9 => h9) rfl dX3_unpoint_4 ?_
  refine lv_istore_n (lv' := [(1, .int pts), (0, .ref x)]) hx hb dX3_unpoint_7 rfl hl (by decide) rfl (fun ls hl => ?_)
  refine lv_aload_n hx hb dX3_unpoint_8 rfl (lv_at hl 1 rfl) ?_
  refine va_get (D := D) (ci := 3) (v := .ref cu) (C := RX3) (T := TX3) (N := 8) hx hb hts iw_X3_unpoint_3 hown hK hP 0 rfl rfl 0 (by decide) (hts _ wd_X3_unpoint_1) (fun _ h9 => h9) rfl dX3_unpoint_9 ?_
  refine lv_iconst (v := 0) hx hb dX3_unpoint_12 (by decide) ?_
  refine va_putN (D := D) (ci := 0) (v := .int 0) (ty := .int) (C := RX0) (T := TX0) (N := 8) hx hb hts iw_X3_unpoint_0 tyX0 tyX0_ok nmX0 hown hK hP hD hS 1 rfl rfl 7 (by decide) (va_Nw.use rfl (nwF_98 hN)) (fun _ h9 => h9) rfl (by decide +kernel) rfl rfl (Nat.le_of_ble_eq_true rfl) dX3_unpoint_13 (fun H locs hP hD hS => ?_)
  have hP : va_P D vwCl [(x, .inr (3, [.ref cu, .ref pi, .ref sq, .ref fo, .ref bo, .int gl, .int td, .int le])), (cu, .inr (0, [.ref a0, .ref a1, .ref a2, .ref a3, .ref a4, .ref a5, .int bw, .int 0])), (a0, .inl (cI, 40, .inl fw)), (a1, .inl (cI, 2, .inl fl)), (a2, .inl (cI, 6, .inl fd)), (a3, .inl (cI, 6, .inl fh)), (a4, .inl (cI, 40, .inl fg)), (a5, .inl (cI, 40, .inl fs))] H := hP
  have hD : va_D A [(x, .inr (3, [.ref cu, .ref pi, .ref sq, .ref fo, .ref bo, .int gl, .int td, .int le])), (cu, .inr (0, [.ref a0, .ref a1, .ref a2, .ref a3, .ref a4, .ref a5, .int bw, .int 0])), (a0, .inl (cI, 40, .inl fw)), (a1, .inl (cI, 2, .inl fl)), (a2, .inl (cI, 6, .inl fd)), (a3, .inl (cI, 6, .inl fh)), (a4, .inl (cI, 40, .inl fg)), (a5, .inl (cI, 40, .inl fs))] := hD
  refine lv_aload_n hx hb dX3_unpoint_16 rfl (lv_at hl 1 rfl) ?_
  refine va_get (D := D) (ci := 3) (v := .ref cu) (C := RX3) (T := TX3) (N := 8) hx hb hts iw_X3_unpoint_3 hown hK hP 0 rfl rfl 0 (by decide) (hts _ wd_X3_unpoint_1) (fun _ h9 => h9) rfl dX3_unpoint_17 ?_
  refine cc_v (wc := [(cu, .inr (0, [.ref a0, .ref a1, .ref a2, .ref a3, .ref a4, .ref a5, .int bw, .int 0])), (a0, .inl (cI, 40, .inl fw)), (a1, .inl (cI, 2, .inl fl)), (a2, .inl (cI, 6, .inl fd)), (a3, .inl (cI, 6, .inl fh)), (a4, .inl (cI, 40, .inl fg)), (a5, .inl (cI, 40, .inl fs))]) (wr := [(x, .inr (3, [.ref cu, .ref pi, .ref sq, .ref fo, .ref bo, .int gl, .int td, .int le]))]) (va_runVN (As := []) (rest := []) ⟨hx, hb, hml, hown, hts⟩ (c_X0_renew l D cI H.size cu a0 a1 a2 a3 a4 a5 bw 0 fw fl fd fh fg fs ) ⟨va_cnB 0 hts gX3_unpoint_X0_renew_n79 rfl rfl rfl (nwM_79 hN) (hts _ wd_X3_unpoint_3) (by decide +kernel) ⟨Nat.le_of_ble_eq_true rfl, Nat.le_of_ble_eq_true rfl⟩, (hts _ wd_X3_unpoint_2), (hts _ wd_X3_unpoint_4)⟩ (preV (wc := [(cu, .inr (0, [.ref a0, .ref a1, .ref a2, .ref a3, .ref a4, .ref a5, .int bw, .int 0])), (a0, .inl (cI, 40, .inl fw)), (a1, .inl (cI, 2, .inl fl)), (a2, .inl (cI, 6, .inl fd)), (a3, .inl (cI, 6, .inl fh)), (a4, .inl (cI, 40, .inl fg)), (a5, .inl (cI, 40, .inl fs))]) (ci := 0) (q0 := 1) hK hP hD hN [1, 2, 3, 4, 5, 6, 7] rfl (by decide) rfl rfl) rfl rfl hl.1 rfl (lv_room (Nat.le_of_ble_eq_true rfl)) dX3_unpoint_20 ⟨Nat.le_of_ble_eq_true rfl, Nat.le_of_ble_eq_true rfl⟩) hP hD hS hA [1, 2, 3, 4, 5, 6, 7] [0] rfl rfl (by decide) (by decide) (fun u H locs w_2 hP hD hS => ?_)
  obtain ⟨fg2_3, fs2_4⟩ := u
  have hP : va_P D vwCl [(x, .inr (3, [.ref cu, .ref pi, .ref sq, .ref fo, .ref bo, .int gl, .int td, .int le])), (cu, .inr (0, [.ref a0, .ref a1, .ref a2, .ref a3, .ref a4, .ref a5, .int bw, .int 0])), (a0, .inl (cI, 40, .inl fw)), (a1, .inl (cI, 2, .inl fl)), (a2, .inl (cI, 6, .inl fd)), (a3, .inl (cI, 6, .inl fh)), (a4, .inl (cI, 40, .inl fg2_3)), (a5, .inl (cI, 40, .inl fs2_4))] H := hP
  have hD : va_D A [(x, .inr (3, [.ref cu, .ref pi, .ref sq, .ref fo, .ref bo, .int gl, .int td, .int le])), (cu, .inr (0, [.ref a0, .ref a1, .ref a2, .ref a3, .ref a4, .ref a5, .int bw, .int 0])), (a0, .inl (cI, 40, .inl fw)), (a1, .inl (cI, 2, .inl fl)), (a2, .inl (cI, 6, .inl fd)), (a3, .inl (cI, 6, .inl fh)), (a4, .inl (cI, 40, .inl fg2_3)), (a5, .inl (cI, 40, .inl fs2_4))] := hD
  refine lv_iload_n hx hb dX3_unpoint_23 rfl (lv_at hl 0 rfl) ?_
  refine W.widen (k := 0) (n := 0) (Nat.le_of_ble_eq_true rfl) (Nat.le_of_ble_eq_true rfl) ?_
  exact fi_i (fg2_3, fs2_4) hx hb hr hlocks hK (hP.sub [0, 1, 2, 3, 4, 5, 6, 7] rfl) (hD.sub [0, 1, 2, 3, 4, 5, 6, 7] (by decide) rfl) hS (pf_X3_unpoint_1 pts) dX3_unpoint_24

theorem iw_X3_table_3 : ∀ w ∈ wsX30, w ∈ wsX3_table := fun w h => (List.mem_cons_of_mem _ (List.mem_append_left _ (List.mem_append_right _ h)))
theorem wd_X3_table_1 : (.fieldLink RX3 14 "PourPlan" "curing" "LPourPlan$Curing;" : Cond) ∈ wsX3_table := List.mem_of_getElem? (i := 1) rfl
theorem wd_X3_table_2 : (.instanceMethod yX0_hardnessOf : Cond) ∈ wsX3_table := List.mem_of_getElem? (i := 2) rfl
theorem wd_X3_table_3 : (.initialized RX0 : Cond) ∈ wsX3_table := List.mem_of_getElem? (i := 3) rfl
theorem wd_X3_table_4 : (.selects RX0 yX0_hardnessOf yX0_hardnessOf : Cond) ∈ wsX3_table := List.mem_of_getElem? (i := 4) rfl
set_option maxHeartbeats 1000000 in
theorem pf_X3_table_1 (pts : Int32) (fd : Nat → Int32) (fh : Nat → Int32) (d : Int32) (r_2 : Int32) (hp0 : pts = 0) (c_1 : 0 ≤ d) (w_3 : r_2 = hof fd fh pts d 7 0 0 0) : r_2 = an_table d := by
  first
  | (grind [an_table])
  | (subst hp0
     have := hof_0 fd fh d
     grind [an_table])
set_option maxHeartbeats 1000000 in
theorem pf_X3_table_2 (pts : Int32) (d : Int32) (hp0 : pts = 0) (c_1 : ¬ 0 ≤ d) : (-2 : Int32) = an_table d := by
  first
  | (grind [an_table])
  | (subst hp0
     have := hof_0 fd fh d
     grind [an_table])
set_option maxHeartbeats 4000000 in
set_option maxRecDepth 100000 in
theorem c_X3_table (l : Launch) (D : va_G) (cI : ClassId) (sz : Nat) (x : Nat) (cu : Nat) (a2 : Nat) (a3 : Nat) (pi : Nat) (sq : Nat) (fo : Nat) (bo : Nat) (gl : Int32) (td : Int32) (le : Int32) (a0 : Nat) (a1 : Nat) (a4 : Nat) (a5 : Nat) (bw : Int32) (pts : Int32) (fd : Nat → Int32) (fh : Nat → Int32) (d : Int32) (hp0 : pts = 0) : CtI l yX3_table wsX3_table 1 26 0 0 [.ref x, .int d] D [(cI, .int)] [(x, .inr (3, [.ref cu, .ref pi, .ref sq, .ref fo, .ref bo, .int gl, .int td, .int le])), (cu, .inr (0, [.ref a0, .ref a1, .ref a2, .ref a3, .ref a4, .ref a5, .int bw, .int pts])), (a2, .inl (cI, 6, .inl fd)), (a3, .inl (cI, 6, .inl fh))] sz (fun (r : Int32) (u : Unit) => r = an_table d) (fun (u : Unit) => [(x, .inr (3, [.ref cu, .ref pi, .ref sq, .ref fo, .ref bo, .int gl, .int td, .int le])), (cu, .inr (0, [.ref a0, .ref a1, .ref a2, .ref a3, .ref a4, .ref a5, .int bw, .int pts])), (a2, .inl (cI, 6, .inl fd)), (a3, .inl (cI, 6, .inl fh))]) := by
  refine Met.ofW (cc := cX3_table) (maxL := 2) (ret := (some .int)) (by decide) rfl ?_
  intro p e s m args below meth c s₁ B hml hv
  obtain ⟨rfl, hsz, hP, hK, hD0, hN⟩ := hv
  have hx := B.exec
  have hb := B.bytes
  have hr := B.returns
  have hts := atoms_spec (ws := wsX3_table) B.pre
  have hown : s.vm.findClass RX3 = some m.cls := findClass_of_methodNamed B.named
  have hlocks := B.notSynchronized
  subst hsz
  have hD := hD0.self (sz := s.heap.size)
  generalize hAe : va_A [(x, .inr (3, [.ref cu, .ref pi, .ref sq, .ref fo, .ref bo, .int gl, .int td, .int le])), (cu, .inr (0, [.ref a0, .ref a1, .ref a2, .ref a3, .ref a4, .ref a5, .int bw, .int pts])), (a2, .inl (cI, 6, .inl fd)), (a3, .inl (cI, 6, .inl fh))] s.heap.size = A at hD ⊢
  have hA : ∀ q : Nat, s.heap.size ≤ q → A q := fun q h => by rw [← hAe]; exact Or.inr h
  have hS : va_S A s.heap s.heap [] := va_S.rf
  have hl := lv_entry ([.ref x, .int d]) (n := 2) (Nat.le_of_ble_eq_true rfl)
  rw [lg_entry_eq]
  generalize (lg_sl ([.ref x, .int d]) ++ List.replicate (2 - (lg_sl ([.ref x, .int d])).length) Slot.unset).toArray = ls at hl ⊢
  have hl : lv_has ls 2 [(0, .ref x), (1, .int d)] := hl
  have hP0 := hP
  refine lv_iload_n hx hb dX3_table_0 rfl (lv_at hl 1 rfl) ?_
  refine lv_if_ge (tgt := 9) hx hb dX3_table_1 (by decide) (fun c_1 => ?_) (fun c_1 => ?_)
  · refine lv_aload_n hx hb dX3_table_9 rfl (lv_at hl 0 rfl) ?_
    refine va_get (D := D) (ci := 3) (v := .ref cu) (C := RX3) (T := TX3) (N := 8) hx hb hts iw_X3_table_3 hown hK hP 0 rfl rfl 0 (by decide) (hts _ wd_X3_table_1) (fun _ h9 => h9) rfl dX3_table_10 ?_
    refine lv_iload_n hx hb dX3_table_13 rfl (lv_at hl 1 rfl) ?_
    refine cc_i (wc := [(cu, .inr (0, [.ref a0, .ref a1, .ref a2, .ref a3, .ref a4, .ref a5, .int bw, .int pts])), (a2, .inl (cI, 6, .inl fd)), (a3, .inl (cI, 6, .inl fh))]) (wr := [(x, .inr (3, [.ref cu, .ref pi, .ref sq, .ref fo, .ref bo, .int gl, .int td, .int le]))]) (va_runVN (As := [.int d]) (rest := []) ⟨hx, hb, hml, hown, hts⟩ (c_X0_hardnessOf l D cI s.heap.size cu a2 a3 a0 a1 a4 a5 bw pts fd fh d ) ⟨va_cnB 1 hts gX3_table_X0_hardnessOf_n105 rfl rfl rfl (nwM_105 hN) (hts _ wd_X3_table_3) (by decide +kernel) ⟨Nat.le_of_ble_eq_true rfl, Nat.le_of_ble_eq_true rfl⟩, (hts _ wd_X3_table_2), (hts _ wd_X3_table_4)⟩ (preV (wc := [(cu, .inr (0, [.ref a0, .ref a1, .ref a2, .ref a3, .ref a4, .ref a5, .int bw, .int pts])), (a2, .inl (cI, 6, .inl fd)), (a3, .inl (cI, 6, .inl fh))]) (ci := 0) (q0 := 1) hK hP hD hN [1, 2, 3] rfl (by decide) rfl rfl) rfl rfl hl.1 rfl (lv_room (Nat.le_of_ble_eq_true rfl)) dX3_table_14 ⟨Nat.le_of_ble_eq_true rfl, Nat.le_of_ble_eq_true rfl⟩) hP hD hS hA [1, 2, 3] [0] rfl rfl (by decide) (by decide) (fun r_2 u H locs w_3 hP hD hS => ?_)
    have hP : va_P D vwCl [(x, .inr (3, [.ref cu, .ref pi, .ref sq, .ref fo, .ref bo, .int gl, .int td, .int le])), (cu, .inr (0, [.ref a0, .ref a1, .ref a2, .ref a3, .ref a4, .ref a5, .int bw, .int pts])), (a2, .inl (cI, 6, .inl fd)), (a3, .inl (cI, 6, .inl fh))] H := hP
    have hD : va_D A [(x, .inr (3, [.ref cu, .ref pi, .ref sq, .ref fo, .ref bo, .int gl, .int td, .int le])), (cu, .inr (0, [.ref a0, .ref a1, .ref a2, .ref a3, .ref a4, .ref a5, .int bw, .int pts])), (a2, .inl (cI, 6, .inl fd)), (a3, .inl (cI, 6, .inl fh))] := hD
    have w_3 : r_2 = hof fd fh pts d 7 0 0 0 := w_3
    refine W.widen (k := 0) (n := 0) (Nat.le_of_ble_eq_true rfl) (Nat.le_of_ble_eq_true rfl) ?_
    exact fi_i () hx hb hr hlocks hK (hP.sub [0, 1, 2, 3] rfl) (hD.sub [0, 1, 2, 3] (by decide) rfl) hS (pf_X3_table_1 pts fd fh d r_2 hp0 c_1 w_3) dX3_table_17
  · refine lv_bipush (v := (-2)) hx hb dX3_table_4 (by decide) ?_
    refine lv_goto (tgt := 17) hx hb dX3_table_6 (by decide) ?_
    refine W.widen (k := 0) (n := 0) (Nat.le_of_ble_eq_true rfl) (Nat.le_of_ble_eq_true rfl) ?_
    exact fi_i () hx hb hr hlocks hK (hP.sub [0, 1, 2, 3] rfl) (hD.sub [0, 1, 2, 3] (by decide) rfl) hS (pf_X3_table_2 pts d hp0 c_1) dX3_table_17

theorem iw_X3_endOfAll_0_1 : ∀ w ∈ wsX10, w ∈ wsX3_endOfAll := fun w h => (List.mem_cons_of_mem _ (List.mem_append_left _ (List.mem_append_right _ h)))
theorem iw_X3_endOfAll_0_3 : ∀ w ∈ wsX30, w ∈ wsX3_endOfAll := fun w h => (List.mem_cons_of_mem _ (List.mem_append_left _ (List.mem_append_left _ (List.mem_append_right _ h))))
theorem wd_X3_endOfAll_0_1 : (.fieldLink RX3 21 "PourPlan" "pieces" "LPourPlan$Pieces;" : Cond) ∈ wsX3_endOfAll := List.mem_of_getElem? (i := 1) rfl
set_option maxHeartbeats 1000000 in
theorem pf_X3_endOfAll_0_1   : (0 : Int32) = 0 := by
  grind
set_option maxHeartbeats 4000000 in
set_option maxRecDepth 100000 in
theorem c_X3_endOfAll_0 (l : Launch) (D : va_G) (cI : ClassId) (sz : Nat) (x : Nat) (pi : Nat) (cu : Nat) (sq : Nat) (fo : Nat) (bo : Nat) (gl : Int32) (td : Int32) (le : Int32) (k0 : Nat) (k1 : Nat) (k2 : Nat) (k3 : Nat) (k4 : Nat) (k5 : Nat) (k6 : Nat) (k7 : Nat) : CtI l yX3_endOfAll wsX3_endOfAll 0 0 0 0 [.ref x] D [(cI, .int)] [(x, .inr (3, [.ref cu, .ref pi, .ref sq, .ref fo, .ref bo, .int gl, .int td, .int le])), (pi, .inr (1, [.ref k0, .ref k1, .ref k2, .ref k3, .ref k4, .ref k5, .ref k6, .ref k7, .int 0]))] sz (fun (r : Int32) (u : Unit) => r = 0) (fun (u : Unit) => [(x, .inr (3, [.ref cu, .ref pi, .ref sq, .ref fo, .ref bo, .int gl, .int td, .int le])), (pi, .inr (1, [.ref k0, .ref k1, .ref k2, .ref k3, .ref k4, .ref k5, .ref k6, .ref k7, .int 0]))]) := by
  refine Met.ofW (cc := cX3_endOfAll) (maxL := 3) (ret := (some .int)) (by decide) rfl ?_
  intro p e s m args below meth c s₁ B hml hv
  obtain ⟨rfl, hsz, hP, hK, hD0, hN⟩ := hv
  have hx := B.exec
  have hb := B.bytes
  have hr := B.returns
  have hts := atoms_spec (ws := wsX3_endOfAll) B.pre
  have hown : s.vm.findClass RX3 = some m.cls := findClass_of_methodNamed B.named
  have hlocks := B.notSynchronized
  subst hsz
  have hD := hD0.self (sz := s.heap.size)
  generalize hAe : va_A [(x, .inr (3, [.ref cu, .ref pi, .ref sq, .ref fo, .ref bo, .int gl, .int td, .int le])), (pi, .inr (1, [.ref k0, .ref k1, .ref k2, .ref k3, .ref k4, .ref k5, .ref k6, .ref k7, .int 0]))] s.heap.size = A at hD ⊢
  have hA : ∀ q : Nat, s.heap.size ≤ q → A q := fun q h => by rw [← hAe]; exact Or.inr h
  have hS : va_S A s.heap s.heap [] := va_S.rf
  have hl := lv_entry ([.ref x]) (n := 3) (Nat.le_of_ble_eq_true rfl)
  rw [lg_entry_eq]
  generalize (lg_sl ([.ref x]) ++ List.replicate (3 - (lg_sl ([.ref x])).length) Slot.unset).toArray = ls at hl ⊢
  have hl : lv_has ls 3 [(0, .ref x)] := hl
  have hP0 := hP
  refine lv_iconst (v := 0) hx hb dX3_endOfAll_0 (by decide) ?_
  refine lv_istore_n (lv' := [(1, .int 0), (0, .ref x)]) hx hb dX3_endOfAll_1 rfl hl (by decide) rfl (fun ls hl => ?_)
  refine lv_iconst (v := 0) hx hb dX3_endOfAll_2 (by decide) ?_
  refine lv_istore_n (lv' := [(2, .int 0), (1, .int 0), (0, .ref x)]) hx hb dX3_endOfAll_3 rfl hl (by decide) rfl (fun ls hl => ?_)
  refine lv_iload_n hx hb dX3_endOfAll_4 rfl (lv_at hl 0 rfl) ?_
  refine lv_aload_n hx hb dX3_endOfAll_5 rfl (lv_at hl 2 rfl) ?_
  refine va_get (D := D) (ci := 3) (v := .ref pi) (C := RX3) (T := TX3) (N := 8) hx hb hts iw_X3_endOfAll_0_3 hown hK hP 0 rfl rfl 1 (by decide) (hts _ wd_X3_endOfAll_0_1) (fun _ h9 => h9) rfl dX3_endOfAll_6 ?_
  refine va_getN (D := D) (ci := 1) (v := .int 0) (C := RX1) (T := TX1) (N := 9) hx hb hts iw_X3_endOfAll_0_1 hown hK hP 1 rfl rfl 8 (by decide) (va_Nw.use rfl (nwF_53 hN)) (fun _ h9 => h9) rfl dX3_endOfAll_9 ?_
  refine lv_icmp_ge (tgt := 42) hx hb dX3_endOfAll_12 (by decide) (fun _ => ?_) (fun h => absurd (by decide) h)
  refine lv_iload_n hx hb dX3_endOfAll_42 rfl (lv_at hl 1 rfl) ?_
  refine W.widen (k := 0) (n := 0) (Nat.le_of_ble_eq_true rfl) (Nat.le_of_ble_eq_true rfl) ?_
  exact fi_i () hx hb hr hlocks hK (hP.sub [0, 1] rfl) (hD.sub [0, 1] (by decide) rfl) hS (pf_X3_endOfAll_0_1) dX3_endOfAll_43

theorem iw_X3_pourAnew_0_1 : ∀ w ∈ wsX10, w ∈ wsX3_pourAnew := fun w h => (List.mem_cons_of_mem _ (List.mem_append_left _ (List.mem_append_left _ (List.mem_append_right _ h))))
theorem iw_X3_pourAnew_0_3 : ∀ w ∈ wsX30, w ∈ wsX3_pourAnew := fun w h => (List.mem_cons_of_mem _ (List.mem_append_left _ (List.mem_append_left _ (List.mem_append_left _ (List.mem_append_right _ h)))))
theorem wd_X3_pourAnew_0_1 : (.fieldLink RX3 21 "PourPlan" "pieces" "LPourPlan$Pieces;" : Cond) ∈ wsX3_pourAnew := List.mem_of_getElem? (i := 1) rfl
theorem wd_X3_pourAnew_0_2 : (.fieldLink RX3 43 "PourPlan" "today" "I" : Cond) ∈ wsX3_pourAnew := List.mem_of_getElem? (i := 2) rfl
theorem wd_X3_pourAnew_0_4 : (.instanceMethod yX1_unpourFrom : Cond) ∈ wsX3_pourAnew := List.mem_of_getElem? (i := 4) rfl
theorem wd_X3_pourAnew_0_5 : (.initialized RX1 : Cond) ∈ wsX3_pourAnew := List.mem_of_getElem? (i := 5) rfl
theorem wd_X3_pourAnew_0_6 : (.selects RX1 yX1_unpourFrom yX1_unpourFrom : Cond) ∈ wsX3_pourAnew := List.mem_of_getElem? (i := 6) rfl
theorem wd_X3_pourAnew_0_10 : (.instanceMethod yX1_howManyPoured : Cond) ∈ wsX3_pourAnew := List.mem_of_getElem? (i := 10) rfl
theorem wd_X3_pourAnew_0_11 : (.selects RX1 yX1_howManyPoured yX1_howManyPoured : Cond) ∈ wsX3_pourAnew := List.mem_of_getElem? (i := 11) rfl
set_option maxHeartbeats 1000000 in
theorem pf_X3_pourAnew_0_1 (td : Int32) (r_1 : Int32) (r_4 : Int32) (v_7 : Int32) (r_9 : Int32) (w_2 : r_1 = 0) (w_5 : r_4 = 0) (ev_7 : v_7 = 0 - r_4) (c_8 : 40 ≤ td) (w_10 : r_9 = 0) : r_9 = 0 := by
  grind
set_option maxHeartbeats 1000000 in
theorem pf_X3_pourAnew_0_2 (td : Int32) (r_1 : Int32) (r_4 : Int32) (v_7 : Int32) (w_2 : r_1 = 0) (w_5 : r_4 = 0) (ev_7 : v_7 = 0 - r_4) (c_8 : ¬ 40 ≤ td) (c_12 : ¬ v_7 ≤ 0) : False := by
  grind
set_option maxHeartbeats 1000000 in
theorem pf_X3_pourAnew_0_3 (td : Int32) (r_1 : Int32) (r_4 : Int32) (v_7 : Int32) (r_13 : Int32) (w_2 : r_1 = 0) (w_5 : r_4 = 0) (ev_7 : v_7 = 0 - r_4) (c_8 : ¬ 40 ≤ td) (c_12 : v_7 ≤ 0) (w_14 : r_13 = 0) : r_13 = 0 := by
  grind
set_option maxHeartbeats 4000000 in
set_option maxRecDepth 100000 in
theorem c_X3_pourAnew_0 (l : Launch) (D : va_G) (cI : ClassId) (sz : Nat) (x : Nat) (pi : Nat) (cu : Nat) (sq : Nat) (fo : Nat) (bo : Nat) (gl : Int32) (td : Int32) (le : Int32) (k0 : Nat) (k1 : Nat) (k2 : Nat) (k3 : Nat) (k4 : Nat) (k5 : Nat) (k6 : Nat) (k7 : Nat) : CtI l yX3_pourAnew wsX3_pourAnew 1 23 0 0 [.ref x] D [(cI, .int)] [(x, .inr (3, [.ref cu, .ref pi, .ref sq, .ref fo, .ref bo, .int gl, .int td, .int le])), (pi, .inr (1, [.ref k0, .ref k1, .ref k2, .ref k3, .ref k4, .ref k5, .ref k6, .ref k7, .int 0]))] sz (fun (r : Int32) (u : Unit) => r = 0) (fun (u : Unit) => [(x, .inr (3, [.ref cu, .ref pi, .ref sq, .ref fo, .ref bo, .int gl, .int td, .int le])), (pi, .inr (1, [.ref k0, .ref k1, .ref k2, .ref k3, .ref k4, .ref k5, .ref k6, .ref k7, .int 0]))]) := by
  refine Met.ofW (cc := cX3_pourAnew) (maxL := 5) (ret := (some .int)) (by decide) rfl ?_
  intro p e s m args below meth c s₁ B hml hv
  obtain ⟨rfl, hsz, hP, hK, hD0, hN⟩ := hv
  have hx := B.exec
  have hb := B.bytes
  have hr := B.returns
  have hts := atoms_spec (ws := wsX3_pourAnew) B.pre
  have hown : s.vm.findClass RX3 = some m.cls := findClass_of_methodNamed B.named
  have hlocks := B.notSynchronized
  subst hsz
  have hD := hD0.self (sz := s.heap.size)
  generalize hAe : va_A [(x, .inr (3, [.ref cu, .ref pi, .ref sq, .ref fo, .ref bo, .int gl, .int td, .int le])), (pi, .inr (1, [.ref k0, .ref k1, .ref k2, .ref k3, .ref k4, .ref k5, .ref k6, .ref k7, .int 0]))] s.heap.size = A at hD ⊢
  have hA : ∀ q : Nat, s.heap.size ≤ q → A q := fun q h => by rw [← hAe]; exact Or.inr h
  have hS : va_S A s.heap s.heap [] := va_S.rf
  have hl := lv_entry ([.ref x]) (n := 5) (Nat.le_of_ble_eq_true rfl)
  rw [lg_entry_eq]
  generalize (lg_sl ([.ref x]) ++ List.replicate (5 - (lg_sl ([.ref x])).length) Slot.unset).toArray = ls at hl ⊢
  have hl : lv_has ls 5 [(0, .ref x)] := hl
  have hP0 := hP
  refine lv_aload_n hx hb dX3_pourAnew_0 rfl (lv_at hl 0 rfl) ?_
  refine va_get (D := D) (ci := 3) (v := .ref pi) (C := RX3) (T := TX3) (N := 8) hx hb hts iw_X3_pourAnew_0_3 hown hK hP 0 rfl rfl 1 (by decide) (hts _ wd_X3_pourAnew_0_1) (fun _ h9 => h9) rfl dX3_pourAnew_1 ?_
  refine lv_aload_n hx hb dX3_pourAnew_4 rfl (lv_at hl 0 rfl) ?_
  refine va_get (D := D) (ci := 3) (v := .int td) (C := RX3) (T := TX3) (N := 8) hx hb hts iw_X3_pourAnew_0_3 hown hK hP 0 rfl rfl 6 (by decide) (hts _ wd_X3_pourAnew_0_2) (fun _ h9 => h9) rfl dX3_pourAnew_5 ?_
  refine cc_i (wc := [(pi, .inr (1, [.ref k0, .ref k1, .ref k2, .ref k3, .ref k4, .ref k5, .ref k6, .ref k7, .int 0]))]) (wr := [(x, .inr (3, [.ref cu, .ref pi, .ref sq, .ref fo, .ref bo, .int gl, .int td, .int le]))]) (va_runVN (As := [.int td]) (rest := []) ⟨hx, hb, hml, hown, hts⟩ (c_X1_unpourFrom_0 l D cI s.heap.size pi k0 k1 k2 k3 k4 k5 k6 k7 td ) ⟨va_cnB 1 hts gX3_pourAnew_X1_unpourFrom_n141 rfl rfl rfl (nwM_141 hN) (hts _ wd_X3_pourAnew_0_5) (by decide +kernel) ⟨Nat.le_of_ble_eq_true rfl, Nat.le_of_ble_eq_true rfl⟩, (hts _ wd_X3_pourAnew_0_4), (hts _ wd_X3_pourAnew_0_6)⟩ (preV (wc := [(pi, .inr (1, [.ref k0, .ref k1, .ref k2, .ref k3, .ref k4, .ref k5, .ref k6, .ref k7, .int 0]))]) (ci := 1) (q0 := 1) hK hP hD hN [1] rfl (by decide) rfl rfl) rfl rfl hl.1 rfl (lv_room (Nat.le_of_ble_eq_true rfl)) dX3_pourAnew_8 ⟨Nat.le_of_ble_eq_true rfl, Nat.le_of_ble_eq_true rfl⟩) hP hD hS hA [1] [0] rfl rfl (by decide) (by decide) (fun r_1 u H locs w_2 hP hD hS => ?_)
  have hP : va_P D vwCl [(x, .inr (3, [.ref cu, .ref pi, .ref sq, .ref fo, .ref bo, .int gl, .int td, .int le])), (pi, .inr (1, [.ref k0, .ref k1, .ref k2, .ref k3, .ref k4, .ref k5, .ref k6, .ref k7, .int 0]))] H := hP
  have hD : va_D A [(x, .inr (3, [.ref cu, .ref pi, .ref sq, .ref fo, .ref bo, .int gl, .int td, .int le])), (pi, .inr (1, [.ref k0, .ref k1, .ref k2, .ref k3, .ref k4, .ref k5, .ref k6, .ref k7, .int 0]))] := hD
  have w_2 : r_1 = 0 := w_2
  refine lv_pop hx hb dX3_pourAnew_11 rfl ?_
  refine lv_aload_n hx hb dX3_pourAnew_12 rfl (lv_at hl 0 rfl) ?_
  refine va_get (D := D) (ci := 3) (v := .ref pi) (C := RX3) (T := TX3) (N := 8) hx hb hts iw_X3_pourAnew_0_3 hown hK hP 0 rfl rfl 1 (by decide) (hts _ wd_X3_pourAnew_0_1) (fun _ h9 => h9) rfl dX3_pourAnew_13 ?_
  refine va_getN (D := D) (ci := 1) (v := .int 0) (C := RX1) (T := TX1) (N := 9) hx hb hts iw_X3_pourAnew_0_1 hown hK hP 1 rfl rfl 8 (by decide) (va_Nw.use rfl (nwF_53 hN)) (fun _ h9 => h9) rfl dX3_pourAnew_16 ?_
  refine lv_aload_n hx hb dX3_pourAnew_19 rfl (lv_at hl 0 rfl) ?_
  refine va_get (D := D) (ci := 3) (v := .ref pi) (C := RX3) (T := TX3) (N := 8) hx hb hts iw_X3_pourAnew_0_3 hown hK hP 0 rfl rfl 1 (by decide) (hts _ wd_X3_pourAnew_0_1) (fun _ h9 => h9) rfl dX3_pourAnew_20 ?_
  refine cc_i (wc := [(pi, .inr (1, [.ref k0, .ref k1, .ref k2, .ref k3, .ref k4, .ref k5, .ref k6, .ref k7, .int 0]))]) (wr := [(x, .inr (3, [.ref cu, .ref pi, .ref sq, .ref fo, .ref bo, .int gl, .int td, .int le]))]) (va_runVN (As := []) (rest := [.int 0]) ⟨hx, hb, hml, hown, hts⟩ (c_X1_howManyPoured_0 l D cI H.size pi k0 k1 k2 k3 k4 k5 k6 k7 ) ⟨va_cnB 0 hts gX3_pourAnew_X1_howManyPoured_n198 rfl rfl rfl (nwM_198 hN) (hts _ wd_X3_pourAnew_0_5) (by decide +kernel) ⟨Nat.le_of_ble_eq_true rfl, Nat.le_of_ble_eq_true rfl⟩, (hts _ wd_X3_pourAnew_0_10), (hts _ wd_X3_pourAnew_0_11)⟩ (preV (wc := [(pi, .inr (1, [.ref k0, .ref k1, .ref k2, .ref k3, .ref k4, .ref k5, .ref k6, .ref k7, .int 0]))]) (ci := 1) (q0 := 1) hK hP hD hN [1] rfl (by decide) rfl rfl) rfl rfl hl.1 rfl (lv_room (Nat.le_of_ble_eq_true rfl)) dX3_pourAnew_23 ⟨Nat.le_of_ble_eq_true rfl, Nat.le_of_ble_eq_true rfl⟩) hP hD hS hA [1] [0] rfl rfl (by decide) (by decide) (fun r_4 u H locs w_5 hP hD hS => ?_)
  have hP : va_P D vwCl [(x, .inr (3, [.ref cu, .ref pi, .ref sq, .ref fo, .ref bo, .int gl, .int td, .int le])), (pi, .inr (1, [.ref k0, .ref k1, .ref k2, .ref k3, .ref k4, .ref k5, .ref k6, .ref k7, .int 0]))] H := hP
  have hD : va_D A [(x, .inr (3, [.ref cu, .ref pi, .ref sq, .ref fo, .ref bo, .int gl, .int td, .int le])), (pi, .inr (1, [.ref k0, .ref k1, .ref k2, .ref k3, .ref k4, .ref k5, .ref k6, .ref k7, .int 0]))] := hD
  have w_5 : r_4 = 0 := w_5
  refine lv_isub hx hb dX3_pourAnew_26 ?_
  refine lv_topi (fun v_7 ev_7 => ?_)
  refine lv_istore_n (lv' := [(1, .int v_7), (0, .ref x)]) hx hb dX3_pourAnew_27 rfl hl (by decide) rfl (fun ls hl => ?_)
  refine lv_aload_n hx hb dX3_pourAnew_28 rfl (lv_at hl 1 rfl) ?_
  refine va_get (D := D) (ci := 3) (v := .int td) (C := RX3) (T := TX3) (N := 8) hx hb hts iw_X3_pourAnew_0_3 hown hK hP 0 rfl rfl 6 (by decide) (hts _ wd_X3_pourAnew_0_2) (fun _ h9 => h9) rfl dX3_pourAnew_29 ?_
  refine lv_istore_n (lv' := [(2, .int td), (1, .int v_7), (0, .ref x)]) hx hb dX3_pourAnew_32 rfl hl (by decide) rfl (fun ls hl => ?_)
  refine lv_iload_n hx hb dX3_pourAnew_33 rfl (lv_at hl 0 rfl) ?_
  refine lv_bipush (v := 40) hx hb dX3_pourAnew_34 (by decide) ?_
  refine lv_icmp_ge (tgt := 117) hx hb dX3_pourAnew_36 (by decide) (fun c_8 => ?_) (fun c_8 => ?_)
  · refine lv_aload_n hx hb dX3_pourAnew_117 rfl (lv_at hl 2 rfl) ?_
    refine cc_i (wc := [(x, .inr (3, [.ref cu, .ref pi, .ref sq, .ref fo, .ref bo, .int gl, .int td, .int le])), (pi, .inr (1, [.ref k0, .ref k1, .ref k2, .ref k3, .ref k4, .ref k5, .ref k6, .ref k7, .int 0]))]) (wr := []) (va_runV (As := []) (rest := []) ⟨hx, hb, hml, hown, hts⟩ (c_X3_endOfAll_0 l D cI H.size x pi cu sq fo bo gl td le k0 k1 k2 k3 k4 k5 k6 k7 ) (cwV 0 hts gX3_pourAnew_X3_endOfAll rfl rfl rfl (by decide +kernel) ⟨Nat.le_of_ble_eq_true rfl, Nat.le_of_ble_eq_true rfl⟩) (preV (wc := [(x, .inr (3, [.ref cu, .ref pi, .ref sq, .ref fo, .ref bo, .int gl, .int td, .int le])), (pi, .inr (1, [.ref k0, .ref k1, .ref k2, .ref k3, .ref k4, .ref k5, .ref k6, .ref k7, .int 0]))]) (ci := 3) (q0 := 0) hK hP hD hN [0, 1] rfl (by decide) rfl rfl) rfl rfl hl.1 rfl (lv_room (Nat.le_of_ble_eq_true rfl)) dX3_pourAnew_118 ⟨Nat.le_of_ble_eq_true rfl, Nat.le_of_ble_eq_true rfl⟩) hP hD hS hA [0, 1] [] rfl rfl (by decide) (by decide) (fun r_9 u H locs w_10 hP hD hS => ?_)
    have hP : va_P D vwCl [(x, .inr (3, [.ref cu, .ref pi, .ref sq, .ref fo, .ref bo, .int gl, .int td, .int le])), (pi, .inr (1, [.ref k0, .ref k1, .ref k2, .ref k3, .ref k4, .ref k5, .ref k6, .ref k7, .int 0]))] H := hP
    have hD : va_D A [(x, .inr (3, [.ref cu, .ref pi, .ref sq, .ref fo, .ref bo, .int gl, .int td, .int le])), (pi, .inr (1, [.ref k0, .ref k1, .ref k2, .ref k3, .ref k4, .ref k5, .ref k6, .ref k7, .int 0]))] := hD
    have w_10 : r_9 = 0 := w_10
    refine W.widen (k := 0) (n := 0) (Nat.le_of_ble_eq_true rfl) (Nat.le_of_ble_eq_true rfl) ?_
    exact fi_i () hx hb hr hlocks hK (hP.sub [0, 1] rfl) (hD.sub [0, 1] (by decide) rfl) hS (pf_X3_pourAnew_0_1 td r_1 r_4 v_7 r_9 w_2 w_5 ev_7 c_8 w_10) dX3_pourAnew_121
  · refine lv_iload_n hx hb dX3_pourAnew_39 rfl (lv_at hl 1 rfl) ?_
    refine lv_if_le (tgt := 117) hx hb dX3_pourAnew_40 (by decide) (fun c_12 => ?_) (fun c_12 => absurd (pf_X3_pourAnew_0_2 td r_1 r_4 v_7 w_2 w_5 ev_7 c_8 c_12) id)
    refine lv_aload_n hx hb dX3_pourAnew_117 rfl (lv_at hl 2 rfl) ?_
    refine cc_i (wc := [(x, .inr (3, [.ref cu, .ref pi, .ref sq, .ref fo, .ref bo, .int gl, .int td, .int le])), (pi, .inr (1, [.ref k0, .ref k1, .ref k2, .ref k3, .ref k4, .ref k5, .ref k6, .ref k7, .int 0]))]) (wr := []) (va_runV (As := []) (rest := []) ⟨hx, hb, hml, hown, hts⟩ (c_X3_endOfAll_0 l D cI H.size x pi cu sq fo bo gl td le k0 k1 k2 k3 k4 k5 k6 k7 ) (cwV 0 hts gX3_pourAnew_X3_endOfAll rfl rfl rfl (by decide +kernel) ⟨Nat.le_of_ble_eq_true rfl, Nat.le_of_ble_eq_true rfl⟩) (preV (wc := [(x, .inr (3, [.ref cu, .ref pi, .ref sq, .ref fo, .ref bo, .int gl, .int td, .int le])), (pi, .inr (1, [.ref k0, .ref k1, .ref k2, .ref k3, .ref k4, .ref k5, .ref k6, .ref k7, .int 0]))]) (ci := 3) (q0 := 0) hK hP hD hN [0, 1] rfl (by decide) rfl rfl) rfl rfl hl.1 rfl (lv_room (Nat.le_of_ble_eq_true rfl)) dX3_pourAnew_118 ⟨Nat.le_of_ble_eq_true rfl, Nat.le_of_ble_eq_true rfl⟩) hP hD hS hA [0, 1] [] rfl rfl (by decide) (by decide) (fun r_13 u H locs w_14 hP hD hS => ?_)
    have hP : va_P D vwCl [(x, .inr (3, [.ref cu, .ref pi, .ref sq, .ref fo, .ref bo, .int gl, .int td, .int le])), (pi, .inr (1, [.ref k0, .ref k1, .ref k2, .ref k3, .ref k4, .ref k5, .ref k6, .ref k7, .int 0]))] H := hP
    have hD : va_D A [(x, .inr (3, [.ref cu, .ref pi, .ref sq, .ref fo, .ref bo, .int gl, .int td, .int le])), (pi, .inr (1, [.ref k0, .ref k1, .ref k2, .ref k3, .ref k4, .ref k5, .ref k6, .ref k7, .int 0]))] := hD
    have w_14 : r_13 = 0 := w_14
    refine W.widen (k := 0) (n := 0) (Nat.le_of_ble_eq_true rfl) (Nat.le_of_ble_eq_true rfl) ?_
    exact fi_i () hx hb hr hlocks hK (hP.sub [0, 1] rfl) (hD.sub [0, 1] (by decide) rfl) hS (pf_X3_pourAnew_0_3 td r_1 r_4 v_7 r_13 w_2 w_5 ev_7 c_8 c_12 w_14) dX3_pourAnew_121

theorem iw_X3_endOfFirstGoodChange_0_1 : ∀ w ∈ wsX10, w ∈ wsX3_endOfFirstGoodChange := fun w h => (List.mem_cons_of_mem _ (List.mem_append_left _ (List.mem_append_left _ (List.mem_append_right _ h))))
theorem iw_X3_endOfFirstGoodChange_0_3 : ∀ w ∈ wsX30, w ∈ wsX3_endOfFirstGoodChange := fun w h => (List.mem_cons_of_mem _ (List.mem_append_left _ (List.mem_append_left _ (List.mem_append_left _ (List.mem_append_right _ h)))))
theorem wd_X3_endOfFirstGoodChange_0_1 : (.fieldLink RX3 21 "PourPlan" "pieces" "LPourPlan$Pieces;" : Cond) ∈ wsX3_endOfFirstGoodChange := List.mem_of_getElem? (i := 1) rfl
set_option maxHeartbeats 1000000 in
theorem pf_X3_endOfFirstGoodChange_0_1 (v_1 : Int32) (ev_1 : v_1 = 0 + 1) (c_2 : ¬ 0 ≤ v_1) : False := by
  grind
set_option maxHeartbeats 1000000 in
theorem pf_X3_endOfFirstGoodChange_0_2 (en : Int32) (v_1 : Int32) (ev_1 : v_1 = 0 + 1) (c_2 : 0 ≤ v_1) : en = en := by
  grind
set_option maxHeartbeats 4000000 in
set_option maxRecDepth 100000 in
theorem c_X3_endOfFirstGoodChange_0 (l : Launch) (D : va_G) (cI : ClassId) (sz : Nat) (x : Nat) (pi : Nat) (cu : Nat) (sq : Nat) (fo : Nat) (bo : Nat) (gl : Int32) (td : Int32) (le : Int32) (k0 : Nat) (k1 : Nat) (k2 : Nat) (k3 : Nat) (k4 : Nat) (k5 : Nat) (k6 : Nat) (k7 : Nat) (en : Int32) : CtI l yX3_endOfFirstGoodChange wsX3_endOfFirstGoodChange 0 0 0 0 [.ref x, .int en] D [(cI, .int)] [(x, .inr (3, [.ref cu, .ref pi, .ref sq, .ref fo, .ref bo, .int gl, .int td, .int le])), (pi, .inr (1, [.ref k0, .ref k1, .ref k2, .ref k3, .ref k4, .ref k5, .ref k6, .ref k7, .int 0]))] sz (fun (r : Int32) (u : Unit) => r = en) (fun (u : Unit) => [(x, .inr (3, [.ref cu, .ref pi, .ref sq, .ref fo, .ref bo, .int gl, .int td, .int le])), (pi, .inr (1, [.ref k0, .ref k1, .ref k2, .ref k3, .ref k4, .ref k5, .ref k6, .ref k7, .int 0]))]) := by
  refine Met.ofW (cc := cX3_endOfFirstGoodChange) (maxL := 4) (ret := (some .int)) (by decide) rfl ?_
  intro p e s m args below meth c s₁ B hml hv
  obtain ⟨rfl, hsz, hP, hK, hD0, hN⟩ := hv
  have hx := B.exec
  have hb := B.bytes
  have hr := B.returns
  have hts := atoms_spec (ws := wsX3_endOfFirstGoodChange) B.pre
  have hown : s.vm.findClass RX3 = some m.cls := findClass_of_methodNamed B.named
  have hlocks := B.notSynchronized
  subst hsz
  have hD := hD0.self (sz := s.heap.size)
  generalize hAe : va_A [(x, .inr (3, [.ref cu, .ref pi, .ref sq, .ref fo, .ref bo, .int gl, .int td, .int le])), (pi, .inr (1, [.ref k0, .ref k1, .ref k2, .ref k3, .ref k4, .ref k5, .ref k6, .ref k7, .int 0]))] s.heap.size = A at hD ⊢
  have hA : ∀ q : Nat, s.heap.size ≤ q → A q := fun q h => by rw [← hAe]; exact Or.inr h
  have hS : va_S A s.heap s.heap [] := va_S.rf
  have hl := lv_entry ([.ref x, .int en]) (n := 4) (Nat.le_of_ble_eq_true rfl)
  rw [lg_entry_eq]
  generalize (lg_sl ([.ref x, .int en]) ++ List.replicate (4 - (lg_sl ([.ref x, .int en])).length) Slot.unset).toArray = ls at hl ⊢
  have hl : lv_has ls 4 [(0, .ref x), (1, .int en)] := hl
  have hP0 := hP
  refine lv_iconst (v := 0) hx hb dX3_endOfFirstGoodChange_0 (by decide) ?_
  refine lv_istore_n (lv' := [(2, .int 0), (0, .ref x), (1, .int en)]) hx hb dX3_endOfFirstGoodChange_1 rfl hl (by decide) rfl (fun ls hl => ?_)
  refine lv_iload_n hx hb dX3_endOfFirstGoodChange_2 rfl (lv_at hl 0 rfl) ?_
  refine lv_iconst (v := 1) hx hb dX3_endOfFirstGoodChange_3 (by decide) ?_
  refine lv_iadd hx hb dX3_endOfFirstGoodChange_4 ?_
  refine lv_topi (fun v_1 ev_1 => ?_)
  refine lv_aload_n hx hb dX3_endOfFirstGoodChange_5 rfl (lv_at hl 1 rfl) ?_
  refine va_get (D := D) (ci := 3) (v := .ref pi) (C := RX3) (T := TX3) (N := 8) hx hb hts iw_X3_endOfFirstGoodChange_0_3 hown hK hP 0 rfl rfl 1 (by decide) (hts _ wd_X3_endOfFirstGoodChange_0_1) (fun _ h9 => h9) rfl dX3_endOfFirstGoodChange_6 ?_
  refine va_getN (D := D) (ci := 1) (v := .int 0) (C := RX1) (T := TX1) (N := 9) hx hb hts iw_X3_endOfFirstGoodChange_0_1 hown hK hP 1 rfl rfl 8 (by decide) (va_Nw.use rfl (nwF_53 hN)) (fun _ h9 => h9) rfl dX3_endOfFirstGoodChange_9 ?_
  refine lv_icmp_ge (tgt := 55) hx hb dX3_endOfFirstGoodChange_12 (by decide) (fun c_2 => ?_) (fun c_2 => absurd (pf_X3_endOfFirstGoodChange_0_1 v_1 ev_1 c_2) id)
  refine lv_iload_n hx hb dX3_endOfFirstGoodChange_55 rfl (lv_at hl 2 rfl) ?_
  refine W.widen (k := 0) (n := 0) (Nat.le_of_ble_eq_true rfl) (Nat.le_of_ble_eq_true rfl) ?_
  exact fi_i () hx hb hr hlocks hK (hP.sub [0, 1] rfl) (hD.sub [0, 1] (by decide) rfl) hS (pf_X3_endOfFirstGoodChange_0_2 en v_1 ev_1 c_2) dX3_endOfFirstGoodChange_56

theorem iw_X3_plan_3 : ∀ w ∈ wsX30, w ∈ wsX3_plan := fun w h => (List.mem_cons_of_mem _ (List.mem_append_left _ (List.mem_append_left _ (List.mem_append_left _ (List.mem_append_right _ h)))))
theorem wd_X3_plan_1 : (.fieldLink RX3 46 "PourPlan" "latestEnd" "I" : Cond) ∈ wsX3_plan := List.mem_of_getElem? (i := 1) rfl
set_option maxHeartbeats 1000000 in
theorem pf_X3_plan_1 (r_1 : Int32) (w_2 : r_1 = 0) : r_1 = 0 := by
  grind
set_option maxHeartbeats 4000000 in
set_option maxRecDepth 100000 in
theorem c_X3_plan (l : Launch) (D : va_G) (cI : ClassId) (sz : Nat) (x : Nat) (pi : Nat) (cu : Nat) (sq : Nat) (fo : Nat) (bo : Nat) (gl : Int32) (td : Int32) (le : Int32) (k0 : Nat) (k1 : Nat) (k2 : Nat) (k3 : Nat) (k4 : Nat) (k5 : Nat) (k6 : Nat) (k7 : Nat) : CtI l yX3_plan wsX3_plan 2 47 0 0 [.ref x] D [(cI, .int)] [(x, .inr (3, [.ref cu, .ref pi, .ref sq, .ref fo, .ref bo, .int gl, .int td, .int le])), (pi, .inr (1, [.ref k0, .ref k1, .ref k2, .ref k3, .ref k4, .ref k5, .ref k6, .ref k7, .int 0]))] sz (fun (r : Int32) (u : Int32) => r = 0) (fun (u : Int32) => [(x, .inr (3, [.ref cu, .ref pi, .ref sq, .ref fo, .ref bo, .int gl, .int td, .int u])), (pi, .inr (1, [.ref k0, .ref k1, .ref k2, .ref k3, .ref k4, .ref k5, .ref k6, .ref k7, .int 0]))]) := by
  refine Met.ofW (cc := cX3_plan) (maxL := 1) (ret := (some .int)) (by decide) rfl ?_
  intro p e s m args below meth c s₁ B hml hv
  obtain ⟨rfl, hsz, hP, hK, hD0, hN⟩ := hv
  have hx := B.exec
  have hb := B.bytes
  have hr := B.returns
  have hts := atoms_spec (ws := wsX3_plan) B.pre
  have hown : s.vm.findClass RX3 = some m.cls := findClass_of_methodNamed B.named
  have hlocks := B.notSynchronized
  subst hsz
  have hD := hD0.self (sz := s.heap.size)
  generalize hAe : va_A [(x, .inr (3, [.ref cu, .ref pi, .ref sq, .ref fo, .ref bo, .int gl, .int td, .int le])), (pi, .inr (1, [.ref k0, .ref k1, .ref k2, .ref k3, .ref k4, .ref k5, .ref k6, .ref k7, .int 0]))] s.heap.size = A at hD ⊢
  have hA : ∀ q : Nat, s.heap.size ≤ q → A q := fun q h => by rw [← hAe]; exact Or.inr h
  have hS : va_S A s.heap s.heap [] := va_S.rf
  have hl := lv_entry ([.ref x]) (n := 1) (Nat.le_of_ble_eq_true rfl)
  rw [lg_entry_eq]
  generalize (lg_sl ([.ref x]) ++ List.replicate (1 - (lg_sl ([.ref x])).length) Slot.unset).toArray = ls at hl ⊢
  have hl : lv_has ls 1 [(0, .ref x)] := hl
  have hP0 := hP
  refine lv_aload_n hx hb dX3_plan_0 rfl (lv_at hl 0 rfl) ?_
  refine lv_aload_n hx hb dX3_plan_1 rfl (lv_at hl 0 rfl) ?_
  refine cc_i (wc := [(x, .inr (3, [.ref cu, .ref pi, .ref sq, .ref fo, .ref bo, .int gl, .int td, .int le])), (pi, .inr (1, [.ref k0, .ref k1, .ref k2, .ref k3, .ref k4, .ref k5, .ref k6, .ref k7, .int 0]))]) (wr := []) (va_runV (As := []) (rest := [.ref x]) ⟨hx, hb, hml, hown, hts⟩ (c_X3_pourAnew_0 l D cI s.heap.size x pi cu sq fo bo gl td le k0 k1 k2 k3 k4 k5 k6 k7 ) (cwV 0 hts gX3_plan_X3_pourAnew rfl rfl rfl (by decide +kernel) ⟨Nat.le_of_ble_eq_true rfl, Nat.le_of_ble_eq_true rfl⟩) (preV (wc := [(x, .inr (3, [.ref cu, .ref pi, .ref sq, .ref fo, .ref bo, .int gl, .int td, .int le])), (pi, .inr (1, [.ref k0, .ref k1, .ref k2, .ref k3, .ref k4, .ref k5, .ref k6, .ref k7, .int 0]))]) (ci := 3) (q0 := 0) hK hP hD hN [0, 1] rfl (by decide) rfl rfl) rfl rfl hl.1 rfl (lv_room (Nat.le_of_ble_eq_true rfl)) dX3_plan_2 ⟨Nat.le_of_ble_eq_true rfl, Nat.le_of_ble_eq_true rfl⟩) hP hD hS hA [0, 1] [] rfl rfl (by decide) (by decide) (fun r_1 u H locs w_2 hP hD hS => ?_)
  have hP : va_P D vwCl [(x, .inr (3, [.ref cu, .ref pi, .ref sq, .ref fo, .ref bo, .int gl, .int td, .int le])), (pi, .inr (1, [.ref k0, .ref k1, .ref k2, .ref k3, .ref k4, .ref k5, .ref k6, .ref k7, .int 0]))] H := hP
  have hD : va_D A [(x, .inr (3, [.ref cu, .ref pi, .ref sq, .ref fo, .ref bo, .int gl, .int td, .int le])), (pi, .inr (1, [.ref k0, .ref k1, .ref k2, .ref k3, .ref k4, .ref k5, .ref k6, .ref k7, .int 0]))] := hD
  have w_2 : r_1 = 0 := w_2
  refine va_put (D := D) (ci := 3) (v := .int r_1) (ty := .int) (C := RX3) (T := TX3) (N := 8) hx hb hts iw_X3_plan_3 tyX3 tyX3_ok nmX3 hown hK hP hD hS 0 rfl rfl 7 (by decide) (hts _ wd_X3_plan_1) (fun _ h9 => h9) rfl (by decide +kernel) rfl rfl (Nat.le_of_ble_eq_true rfl) dX3_plan_5 (fun H locs hP hD hS => ?_)
  have hP : va_P D vwCl [(x, .inr (3, [.ref cu, .ref pi, .ref sq, .ref fo, .ref bo, .int gl, .int td, .int r_1])), (pi, .inr (1, [.ref k0, .ref k1, .ref k2, .ref k3, .ref k4, .ref k5, .ref k6, .ref k7, .int 0]))] H := hP
  have hD : va_D A [(x, .inr (3, [.ref cu, .ref pi, .ref sq, .ref fo, .ref bo, .int gl, .int td, .int r_1])), (pi, .inr (1, [.ref k0, .ref k1, .ref k2, .ref k3, .ref k4, .ref k5, .ref k6, .ref k7, .int 0]))] := hD
  refine lv_aload_n hx hb dX3_plan_8 rfl (lv_at hl 0 rfl) ?_
  refine va_get (D := D) (ci := 3) (v := .int r_1) (C := RX3) (T := TX3) (N := 8) hx hb hts iw_X3_plan_3 hown hK hP 0 rfl rfl 7 (by decide) (hts _ wd_X3_plan_1) (fun _ h9 => h9) rfl dX3_plan_9 ?_
  refine W.widen (k := 0) (n := 0) (Nat.le_of_ble_eq_true rfl) (Nat.le_of_ble_eq_true rfl) ?_
  exact fi_i r_1 hx hb hr hlocks hK (hP.sub [0, 1] rfl) (hD.sub [0, 1] (by decide) rfl) hS (pf_X3_plan_1 r_1 w_2) dX3_plan_12

theorem iw_X3_better_3 : ∀ w ∈ wsX30, w ∈ wsX3_better := fun w h => (List.mem_cons_of_mem _ (List.mem_append_left _ (List.mem_append_left _ (List.mem_append_left _ (List.mem_append_right _ h)))))
theorem wd_X3_better_1 : (.fieldLink RX3 46 "PourPlan" "latestEnd" "I" : Cond) ∈ wsX3_better := List.mem_of_getElem? (i := 1) rfl
set_option maxHeartbeats 1000000 in
theorem pf_X3_better_1 (r_1 : Int32) (r_5 : Int32) (w_2 : r_1 = 0) (w_6 : r_5 = r_1) (c_8 : r_5 < r_1) : False := by
  grind
set_option maxHeartbeats 1000000 in
theorem pf_X3_better_2 (r_1 : Int32) (r_5 : Int32) (r_9 : Int32) (w_2 : r_1 = 0) (w_6 : r_5 = r_1) (c_8 : ¬ r_5 < r_1) (w_10 : r_9 = 0) : (0 : Int32) = 0 := by
  grind
set_option maxHeartbeats 4000000 in
set_option maxRecDepth 100000 in
theorem c_X3_better (l : Launch) (D : va_G) (cI : ClassId) (sz : Nat) (x : Nat) (pi : Nat) (cu : Nat) (sq : Nat) (fo : Nat) (bo : Nat) (gl : Int32) (td : Int32) (le : Int32) (k0 : Nat) (k1 : Nat) (k2 : Nat) (k3 : Nat) (k4 : Nat) (k5 : Nat) (k6 : Nat) (k7 : Nat) : CtI l yX3_better wsX3_better 2 47 0 0 [.ref x] D [(cI, .int)] [(x, .inr (3, [.ref cu, .ref pi, .ref sq, .ref fo, .ref bo, .int gl, .int td, .int le])), (pi, .inr (1, [.ref k0, .ref k1, .ref k2, .ref k3, .ref k4, .ref k5, .ref k6, .ref k7, .int 0]))] sz (fun (r : Int32) (u : Int32) => r = 0) (fun (u : Int32) => [(x, .inr (3, [.ref cu, .ref pi, .ref sq, .ref fo, .ref bo, .int gl, .int td, .int u])), (pi, .inr (1, [.ref k0, .ref k1, .ref k2, .ref k3, .ref k4, .ref k5, .ref k6, .ref k7, .int 0]))]) := by
  refine Met.ofW (cc := cX3_better) (maxL := 5) (ret := (some .int)) (by decide) rfl ?_
  intro p e s m args below meth c s₁ B hml hv
  obtain ⟨rfl, hsz, hP, hK, hD0, hN⟩ := hv
  have hx := B.exec
  have hb := B.bytes
  have hr := B.returns
  have hts := atoms_spec (ws := wsX3_better) B.pre
  have hown : s.vm.findClass RX3 = some m.cls := findClass_of_methodNamed B.named
  have hlocks := B.notSynchronized
  subst hsz
  have hD := hD0.self (sz := s.heap.size)
  generalize hAe : va_A [(x, .inr (3, [.ref cu, .ref pi, .ref sq, .ref fo, .ref bo, .int gl, .int td, .int le])), (pi, .inr (1, [.ref k0, .ref k1, .ref k2, .ref k3, .ref k4, .ref k5, .ref k6, .ref k7, .int 0]))] s.heap.size = A at hD ⊢
  have hA : ∀ q : Nat, s.heap.size ≤ q → A q := fun q h => by rw [← hAe]; exact Or.inr h
  have hS : va_S A s.heap s.heap [] := va_S.rf
  have hl := lv_entry ([.ref x]) (n := 5) (Nat.le_of_ble_eq_true rfl)
  rw [lg_entry_eq]
  generalize (lg_sl ([.ref x]) ++ List.replicate (5 - (lg_sl ([.ref x])).length) Slot.unset).toArray = ls at hl ⊢
  have hl : lv_has ls 5 [(0, .ref x)] := hl
  have hP0 := hP
  refine lv_iconst (v := 0) hx hb dX3_better_0 (by decide) ?_
  refine lv_istore_n (lv' := [(1, .int 0), (0, .ref x)]) hx hb dX3_better_1 rfl hl (by decide) rfl (fun ls hl => ?_)
  refine lv_aload_n hx hb dX3_better_2 rfl (lv_at hl 1 rfl) ?_
  refine cc_i (wc := [(x, .inr (3, [.ref cu, .ref pi, .ref sq, .ref fo, .ref bo, .int gl, .int td, .int le])), (pi, .inr (1, [.ref k0, .ref k1, .ref k2, .ref k3, .ref k4, .ref k5, .ref k6, .ref k7, .int 0]))]) (wr := []) (va_runV (As := []) (rest := []) ⟨hx, hb, hml, hown, hts⟩ (c_X3_pourAnew_0 l D cI s.heap.size x pi cu sq fo bo gl td le k0 k1 k2 k3 k4 k5 k6 k7 ) (cwV 0 hts gX3_better_X3_pourAnew rfl rfl rfl (by decide +kernel) ⟨Nat.le_of_ble_eq_true rfl, Nat.le_of_ble_eq_true rfl⟩) (preV (wc := [(x, .inr (3, [.ref cu, .ref pi, .ref sq, .ref fo, .ref bo, .int gl, .int td, .int le])), (pi, .inr (1, [.ref k0, .ref k1, .ref k2, .ref k3, .ref k4, .ref k5, .ref k6, .ref k7, .int 0]))]) (ci := 3) (q0 := 0) hK hP hD hN [0, 1] rfl (by decide) rfl rfl) rfl rfl hl.1 rfl (lv_room (Nat.le_of_ble_eq_true rfl)) dX3_better_3 ⟨Nat.le_of_ble_eq_true rfl, Nat.le_of_ble_eq_true rfl⟩) hP hD hS hA [0, 1] [] rfl rfl (by decide) (by decide) (fun r_1 u H locs w_2 hP hD hS => ?_)
  have hP : va_P D vwCl [(x, .inr (3, [.ref cu, .ref pi, .ref sq, .ref fo, .ref bo, .int gl, .int td, .int le])), (pi, .inr (1, [.ref k0, .ref k1, .ref k2, .ref k3, .ref k4, .ref k5, .ref k6, .ref k7, .int 0]))] H := hP
  have hD : va_D A [(x, .inr (3, [.ref cu, .ref pi, .ref sq, .ref fo, .ref bo, .int gl, .int td, .int le])), (pi, .inr (1, [.ref k0, .ref k1, .ref k2, .ref k3, .ref k4, .ref k5, .ref k6, .ref k7, .int 0]))] := hD
  have w_2 : r_1 = 0 := w_2
  refine lv_istore_n (lv' := [(2, .int r_1), (1, .int 0), (0, .ref x)]) hx hb dX3_better_6 rfl hl (by decide) rfl (fun ls hl => ?_)
  refine lv_iconst (v := 0) hx hb dX3_better_7 (by decide) ?_
  refine lv_istore_n (lv' := [(3, .int 0), (2, .int r_1), (1, .int 0), (0, .ref x)]) hx hb dX3_better_8 rfl hl (by decide) rfl (fun ls hl => ?_)
  refine lv_iload_n hx hb dX3_better_9 rfl (lv_at hl 0 rfl) ?_
  refine lv_bipush (v := 10) hx hb dX3_better_10 (by decide) ?_
  refine lv_icmp_ge (tgt := 43) hx hb dX3_better_12 (by decide) (fun h => absurd h (by decide)) (fun _ => ?_)
  refine lv_aload_n hx hb dX3_better_15 rfl (lv_at hl 3 rfl) ?_
  refine lv_iload_n hx hb dX3_better_16 rfl (lv_at hl 1 rfl) ?_
  refine cc_i (wc := [(x, .inr (3, [.ref cu, .ref pi, .ref sq, .ref fo, .ref bo, .int gl, .int td, .int le])), (pi, .inr (1, [.ref k0, .ref k1, .ref k2, .ref k3, .ref k4, .ref k5, .ref k6, .ref k7, .int 0]))]) (wr := []) (va_runV (As := [.int r_1]) (rest := []) ⟨hx, hb, hml, hown, hts⟩ (c_X3_endOfFirstGoodChange_0 l D cI H.size x pi cu sq fo bo gl td le k0 k1 k2 k3 k4 k5 k6 k7 r_1 ) (cwV 1 hts gX3_better_X3_endOfFirstGoodChange rfl rfl rfl (by decide +kernel) ⟨Nat.le_of_ble_eq_true rfl, Nat.le_of_ble_eq_true rfl⟩) (preV (wc := [(x, .inr (3, [.ref cu, .ref pi, .ref sq, .ref fo, .ref bo, .int gl, .int td, .int le])), (pi, .inr (1, [.ref k0, .ref k1, .ref k2, .ref k3, .ref k4, .ref k5, .ref k6, .ref k7, .int 0]))]) (ci := 3) (q0 := 0) hK hP hD hN [0, 1] rfl (by decide) rfl rfl) rfl rfl hl.1 rfl (lv_room (Nat.le_of_ble_eq_true rfl)) dX3_better_17 ⟨Nat.le_of_ble_eq_true rfl, Nat.le_of_ble_eq_true rfl⟩) hP hD hS hA [0, 1] [] rfl rfl (by decide) (by decide) (fun r_5 u H locs w_6 hP hD hS => ?_)
  have hP : va_P D vwCl [(x, .inr (3, [.ref cu, .ref pi, .ref sq, .ref fo, .ref bo, .int gl, .int td, .int le])), (pi, .inr (1, [.ref k0, .ref k1, .ref k2, .ref k3, .ref k4, .ref k5, .ref k6, .ref k7, .int 0]))] H := hP
  have hD : va_D A [(x, .inr (3, [.ref cu, .ref pi, .ref sq, .ref fo, .ref bo, .int gl, .int td, .int le])), (pi, .inr (1, [.ref k0, .ref k1, .ref k2, .ref k3, .ref k4, .ref k5, .ref k6, .ref k7, .int 0]))] := hD
  have w_6 : r_5 = r_1 := w_6
  refine lv_istore (lv' := [(4, .int r_5), (3, .int 0), (2, .int r_1), (1, .int 0), (0, .ref x)]) hx hb dX3_better_20 hl (by decide) rfl (fun ls hl => ?_)
  refine lv_iload hx hb dX3_better_22 (lv_at hl 0 rfl) ?_
  refine lv_iload_n hx hb dX3_better_24 rfl (lv_at hl 2 rfl) ?_
  refine lv_icmp_lt (tgt := 31) hx hb dX3_better_25 (by decide) (fun c_8 => absurd (pf_X3_better_1 r_1 r_5 w_2 w_6 c_8) id) (fun c_8 => ?_)
  refine lv_goto (tgt := 43) hx hb dX3_better_28 (by decide) ?_
  refine lv_aload_n hx hb dX3_better_43 rfl (lv_at hl 4 rfl) ?_
  refine lv_aload_n hx hb dX3_better_44 rfl (lv_at hl 4 rfl) ?_
  refine cc_i (wc := [(x, .inr (3, [.ref cu, .ref pi, .ref sq, .ref fo, .ref bo, .int gl, .int td, .int le])), (pi, .inr (1, [.ref k0, .ref k1, .ref k2, .ref k3, .ref k4, .ref k5, .ref k6, .ref k7, .int 0]))]) (wr := []) (va_runV (As := []) (rest := [.ref x]) ⟨hx, hb, hml, hown, hts⟩ (c_X3_pourAnew_0 l D cI H.size x pi cu sq fo bo gl td le k0 k1 k2 k3 k4 k5 k6 k7 ) (cwV 0 hts gX3_better_X3_pourAnew rfl rfl rfl (by decide +kernel) ⟨Nat.le_of_ble_eq_true rfl, Nat.le_of_ble_eq_true rfl⟩) (preV (wc := [(x, .inr (3, [.ref cu, .ref pi, .ref sq, .ref fo, .ref bo, .int gl, .int td, .int le])), (pi, .inr (1, [.ref k0, .ref k1, .ref k2, .ref k3, .ref k4, .ref k5, .ref k6, .ref k7, .int 0]))]) (ci := 3) (q0 := 0) hK hP hD hN [0, 1] rfl (by decide) rfl rfl) rfl rfl hl.1 rfl (lv_room (Nat.le_of_ble_eq_true rfl)) dX3_better_45 ⟨Nat.le_of_ble_eq_true rfl, Nat.le_of_ble_eq_true rfl⟩) hP hD hS hA [0, 1] [] rfl rfl (by decide) (by decide) (fun r_9 u H locs w_10 hP hD hS => ?_)
  have hP : va_P D vwCl [(x, .inr (3, [.ref cu, .ref pi, .ref sq, .ref fo, .ref bo, .int gl, .int td, .int le])), (pi, .inr (1, [.ref k0, .ref k1, .ref k2, .ref k3, .ref k4, .ref k5, .ref k6, .ref k7, .int 0]))] H := hP
  have hD : va_D A [(x, .inr (3, [.ref cu, .ref pi, .ref sq, .ref fo, .ref bo, .int gl, .int td, .int le])), (pi, .inr (1, [.ref k0, .ref k1, .ref k2, .ref k3, .ref k4, .ref k5, .ref k6, .ref k7, .int 0]))] := hD
  have w_10 : r_9 = 0 := w_10
  refine va_put (D := D) (ci := 3) (v := .int r_9) (ty := .int) (C := RX3) (T := TX3) (N := 8) hx hb hts iw_X3_better_3 tyX3 tyX3_ok nmX3 hown hK hP hD hS 0 rfl rfl 7 (by decide) (hts _ wd_X3_better_1) (fun _ h9 => h9) rfl (by decide +kernel) rfl rfl (Nat.le_of_ble_eq_true rfl) dX3_better_48 (fun H locs hP hD hS => ?_)
  have hP : va_P D vwCl [(x, .inr (3, [.ref cu, .ref pi, .ref sq, .ref fo, .ref bo, .int gl, .int td, .int r_9])), (pi, .inr (1, [.ref k0, .ref k1, .ref k2, .ref k3, .ref k4, .ref k5, .ref k6, .ref k7, .int 0]))] H := hP
  have hD : va_D A [(x, .inr (3, [.ref cu, .ref pi, .ref sq, .ref fo, .ref bo, .int gl, .int td, .int r_9])), (pi, .inr (1, [.ref k0, .ref k1, .ref k2, .ref k3, .ref k4, .ref k5, .ref k6, .ref k7, .int 0]))] := hD
  refine lv_iload_n hx hb dX3_better_51 rfl (lv_at hl 3 rfl) ?_
  refine W.widen (k := 0) (n := 0) (Nat.le_of_ble_eq_true rfl) (Nat.le_of_ble_eq_true rfl) ?_
  exact fi_i r_9 hx hb hr hlocks hK (hP.sub [0, 1] rfl) (hD.sub [0, 1] (by decide) rfl) hS (pf_X3_better_2 r_1 r_5 r_9 w_2 w_6 c_8 w_10) dX3_better_52

theorem iw_X3_best_1 : ∀ w ∈ wsX10, w ∈ wsX3_best := fun w h => (List.mem_cons_of_mem _ (List.mem_append_left _ (List.mem_append_left _ (List.mem_append_right _ h))))
theorem iw_X3_best_3 : ∀ w ∈ wsX30, w ∈ wsX3_best := fun w h => (List.mem_cons_of_mem _ (List.mem_append_left _ (List.mem_append_left _ (List.mem_append_left _ (List.mem_append_right _ h)))))
theorem wd_X3_best_1 : (.fieldLink RX3 21 "PourPlan" "pieces" "LPourPlan$Pieces;" : Cond) ∈ wsX3_best := List.mem_of_getElem? (i := 1) rfl
set_option maxHeartbeats 1000000 in
theorem pf_X3_best_1   : (-3 : Int32) = -3 := by
  grind
set_option maxHeartbeats 4000000 in
set_option maxRecDepth 100000 in
theorem c_X3_best (l : Launch) (D : va_G) (cI : ClassId) (sz : Nat) (x : Nat) (pi : Nat) (cu : Nat) (sq : Nat) (fo : Nat) (bo : Nat) (gl : Int32) (td : Int32) (le : Int32) (k0 : Nat) (k1 : Nat) (k2 : Nat) (k3 : Nat) (k4 : Nat) (k5 : Nat) (k6 : Nat) (k7 : Nat) : CtI l yX3_best wsX3_best 0 0 0 0 [.ref x] D [(cI, .int)] [(x, .inr (3, [.ref cu, .ref pi, .ref sq, .ref fo, .ref bo, .int gl, .int td, .int le])), (pi, .inr (1, [.ref k0, .ref k1, .ref k2, .ref k3, .ref k4, .ref k5, .ref k6, .ref k7, .int 0]))] sz (fun (r : Int32) (u : Unit) => r = -3) (fun (u : Unit) => [(x, .inr (3, [.ref cu, .ref pi, .ref sq, .ref fo, .ref bo, .int gl, .int td, .int le])), (pi, .inr (1, [.ref k0, .ref k1, .ref k2, .ref k3, .ref k4, .ref k5, .ref k6, .ref k7, .int 0]))]) := by
  refine Met.ofW (cc := cX3_best) (maxL := 5) (ret := (some .int)) (by decide) rfl ?_
  intro p e s m args below meth c s₁ B hml hv
  obtain ⟨rfl, hsz, hP, hK, hD0, hN⟩ := hv
  have hx := B.exec
  have hb := B.bytes
  have hr := B.returns
  have hts := atoms_spec (ws := wsX3_best) B.pre
  have hown : s.vm.findClass RX3 = some m.cls := findClass_of_methodNamed B.named
  have hlocks := B.notSynchronized
  subst hsz
  have hD := hD0.self (sz := s.heap.size)
  generalize hAe : va_A [(x, .inr (3, [.ref cu, .ref pi, .ref sq, .ref fo, .ref bo, .int gl, .int td, .int le])), (pi, .inr (1, [.ref k0, .ref k1, .ref k2, .ref k3, .ref k4, .ref k5, .ref k6, .ref k7, .int 0]))] s.heap.size = A at hD ⊢
  have hA : ∀ q : Nat, s.heap.size ≤ q → A q := fun q h => by rw [← hAe]; exact Or.inr h
  have hS : va_S A s.heap s.heap [] := va_S.rf
  have hl := lv_entry ([.ref x]) (n := 5) (Nat.le_of_ble_eq_true rfl)
  rw [lg_entry_eq]
  generalize (lg_sl ([.ref x]) ++ List.replicate (5 - (lg_sl ([.ref x])).length) Slot.unset).toArray = ls at hl ⊢
  have hl : lv_has ls 5 [(0, .ref x)] := hl
  have hP0 := hP
  refine lv_aload_n hx hb dX3_best_0 rfl (lv_at hl 0 rfl) ?_
  refine va_get (D := D) (ci := 3) (v := .ref pi) (C := RX3) (T := TX3) (N := 8) hx hb hts iw_X3_best_3 hown hK hP 0 rfl rfl 1 (by decide) (hts _ wd_X3_best_1) (fun _ h9 => h9) rfl dX3_best_1 ?_
  refine va_getN (D := D) (ci := 1) (v := .int 0) (C := RX1) (T := TX1) (N := 9) hx hb hts iw_X3_best_1 hown hK hP 1 rfl rfl 8 (by decide) (va_Nw.use rfl (nwF_53 hN)) (fun _ h9 => h9) rfl dX3_best_4 ?_
  refine lv_istore_n (lv' := [(1, .int 0), (0, .ref x)]) hx hb dX3_best_7 rfl hl (by decide) rfl (fun ls hl => ?_)
  refine lv_iload_n hx hb dX3_best_8 rfl (lv_at hl 0 rfl) ?_
  refine lv_iconst (v := 1) hx hb dX3_best_9 (by decide) ?_
  refine lv_icmp_lt (tgt := 18) hx hb dX3_best_10 (by decide) (fun _ => ?_) (fun h => absurd (by decide) h)
  refine lv_bipush (v := (-3)) hx hb dX3_best_18 (by decide) ?_
  refine W.widen (k := 0) (n := 0) (Nat.le_of_ble_eq_true rfl) (Nat.le_of_ble_eq_true rfl) ?_
  exact fi_i () hx hb hr hlocks hK (hP.sub [0, 1] rfl) (hD.sub [0, 1] (by decide) rfl) hS (pf_X3_best_1) dX3_best_20

theorem iw_X3_bound_1 : ∀ w ∈ wsX10, w ∈ wsX3_bound := fun w h => (List.mem_cons_of_mem _ (List.mem_append_right _ h))
theorem iw_X3_bound_3 : ∀ w ∈ wsX30, w ∈ wsX3_bound := fun w h => (List.mem_cons_of_mem _ (List.mem_append_left _ (List.mem_append_right _ h)))
theorem wd_X3_bound_1 : (.fieldLink RX3 21 "PourPlan" "pieces" "LPourPlan$Pieces;" : Cond) ∈ wsX3_bound := List.mem_of_getElem? (i := 1) rfl
set_option maxHeartbeats 1000000 in
theorem pf_X3_bound_1   : (0 : Int32) = 0 := by
  grind
set_option maxHeartbeats 4000000 in
set_option maxRecDepth 100000 in
theorem c_X3_bound (l : Launch) (D : va_G) (cI : ClassId) (sz : Nat) (x : Nat) (pi : Nat) (cu : Nat) (sq : Nat) (fo : Nat) (bo : Nat) (gl : Int32) (td : Int32) (le : Int32) (k0 : Nat) (k1 : Nat) (k2 : Nat) (k3 : Nat) (k4 : Nat) (k5 : Nat) (k6 : Nat) (k7 : Nat) : CtI l yX3_bound wsX3_bound 0 0 0 0 [.ref x] D [(cI, .int)] [(x, .inr (3, [.ref cu, .ref pi, .ref sq, .ref fo, .ref bo, .int gl, .int td, .int le])), (pi, .inr (1, [.ref k0, .ref k1, .ref k2, .ref k3, .ref k4, .ref k5, .ref k6, .ref k7, .int 0]))] sz (fun (r : Int32) (u : Unit) => r = 0) (fun (u : Unit) => [(x, .inr (3, [.ref cu, .ref pi, .ref sq, .ref fo, .ref bo, .int gl, .int td, .int le])), (pi, .inr (1, [.ref k0, .ref k1, .ref k2, .ref k3, .ref k4, .ref k5, .ref k6, .ref k7, .int 0]))]) := by
  refine Met.ofW (cc := cX3_bound) (maxL := 1) (ret := (some .int)) (by decide) rfl ?_
  intro p e s m args below meth c s₁ B hml hv
  obtain ⟨rfl, hsz, hP, hK, hD0, hN⟩ := hv
  have hx := B.exec
  have hb := B.bytes
  have hr := B.returns
  have hts := atoms_spec (ws := wsX3_bound) B.pre
  have hown : s.vm.findClass RX3 = some m.cls := findClass_of_methodNamed B.named
  have hlocks := B.notSynchronized
  subst hsz
  have hD := hD0.self (sz := s.heap.size)
  generalize hAe : va_A [(x, .inr (3, [.ref cu, .ref pi, .ref sq, .ref fo, .ref bo, .int gl, .int td, .int le])), (pi, .inr (1, [.ref k0, .ref k1, .ref k2, .ref k3, .ref k4, .ref k5, .ref k6, .ref k7, .int 0]))] s.heap.size = A at hD ⊢
  have hA : ∀ q : Nat, s.heap.size ≤ q → A q := fun q h => by rw [← hAe]; exact Or.inr h
  have hS : va_S A s.heap s.heap [] := va_S.rf
  have hl := lv_entry ([.ref x]) (n := 1) (Nat.le_of_ble_eq_true rfl)
  rw [lg_entry_eq]
  generalize (lg_sl ([.ref x]) ++ List.replicate (1 - (lg_sl ([.ref x])).length) Slot.unset).toArray = ls at hl ⊢
  have hl : lv_has ls 1 [(0, .ref x)] := hl
  have hP0 := hP
  refine lv_aload_n hx hb dX3_bound_0 rfl (lv_at hl 0 rfl) ?_
  refine va_get (D := D) (ci := 3) (v := .ref pi) (C := RX3) (T := TX3) (N := 8) hx hb hts iw_X3_bound_3 hown hK hP 0 rfl rfl 1 (by decide) (hts _ wd_X3_bound_1) (fun _ h9 => h9) rfl dX3_bound_1 ?_
  refine va_getN (D := D) (ci := 1) (v := .int 0) (C := RX1) (T := TX1) (N := 9) hx hb hts iw_X3_bound_1 hown hK hP 1 rfl rfl 8 (by decide) (va_Nw.use rfl (nwF_53 hN)) (fun _ h9 => h9) rfl dX3_bound_4 ?_
  refine lv_if_ne (tgt := 14) hx hb dX3_bound_7 (by decide) (fun h => absurd (by decide) h) (fun _ => ?_)
  refine lv_iconst (v := 0) hx hb dX3_bound_10 (by decide) ?_
  refine lv_goto (tgt := 23) hx hb dX3_bound_11 (by decide) ?_
  refine W.widen (k := 0) (n := 0) (Nat.le_of_ble_eq_true rfl) (Nat.le_of_ble_eq_true rfl) ?_
  exact fi_i () hx hb hr hlocks hK (hP.sub [0, 1] rfl) (hD.sub [0, 1] (by decide) rfl) hS (pf_X3_bound_1) dX3_bound_23

theorem iw_X3_now_3 : ∀ w ∈ wsX30, w ∈ wsX3_now := fun w h => (List.mem_cons_of_mem _ (List.mem_append_left _ (List.mem_append_right _ h)))
theorem wd_X3_now_1 : (.fieldLink RX3 43 "PourPlan" "today" "I" : Cond) ∈ wsX3_now := List.mem_of_getElem? (i := 1) rfl
theorem wd_X3_now_2 : (.fieldLink RX3 21 "PourPlan" "pieces" "LPourPlan$Pieces;" : Cond) ∈ wsX3_now := List.mem_of_getElem? (i := 2) rfl
theorem wd_X3_now_10 : (.instanceMethod yX1_unpourFrom : Cond) ∈ wsX3_now := List.mem_of_getElem? (i := 10) rfl
theorem wd_X3_now_11 : (.initialized RX1 : Cond) ∈ wsX3_now := List.mem_of_getElem? (i := 11) rfl
theorem wd_X3_now_12 : (.selects RX1 yX1_unpourFrom yX1_unpourFrom : Cond) ∈ wsX3_now := List.mem_of_getElem? (i := 12) rfl
set_option maxHeartbeats 1000000 in
theorem pf_X3_now_1 (d : Int32) (r_1 : Int32) (r_6 : Int32) (w_2 : r_1 = bIn d 0 39) (c_4 : ¬ r_1 = 0) (c_5 : 0 ≤ d) (w_7 : r_6 = 0) : r_6 = an_now d := by
  grind [bIn, an_now]
set_option maxHeartbeats 1000000 in
theorem pf_X3_now_2 (d : Int32) (r_1 : Int32) (w_2 : r_1 = bIn d 0 39) (c_4 : ¬ r_1 = 0) (c_5 : ¬ 0 ≤ d) : (-2 : Int32) = an_now d := by
  grind [bIn, an_now]
set_option maxHeartbeats 1000000 in
theorem pf_X3_now_3 (d : Int32) (r_1 : Int32) (w_2 : r_1 = bIn d 0 39) (c_4 : r_1 = 0) : (-1 : Int32) = an_now d := by
  grind [bIn, an_now]
set_option maxHeartbeats 4000000 in
set_option maxRecDepth 100000 in
theorem c_X3_now (l : Launch) (D : va_G) (cI : ClassId) (sz : Nat) (x : Nat) (pi : Nat) (cu : Nat) (sq : Nat) (fo : Nat) (bo : Nat) (gl : Int32) (le : Int32) (k0 : Nat) (k1 : Nat) (k2 : Nat) (k3 : Nat) (k4 : Nat) (k5 : Nat) (k6 : Nat) (k7 : Nat) (d : Int32) : CtI l yX3_now wsX3_now 2 42 0 0 [.ref x, .int d] D [(cI, .int)] [(x, .inr (3, [.ref cu, .ref pi, .ref sq, .ref fo, .ref bo, .int gl, .int 0, .int le])), (pi, .inr (1, [.ref k0, .ref k1, .ref k2, .ref k3, .ref k4, .ref k5, .ref k6, .ref k7, .int 0]))] sz (fun (r : Int32) (u : Int32) => r = an_now d) (fun (u : Int32) => [(x, .inr (3, [.ref cu, .ref pi, .ref sq, .ref fo, .ref bo, .int gl, .int u, .int le])), (pi, .inr (1, [.ref k0, .ref k1, .ref k2, .ref k3, .ref k4, .ref k5, .ref k6, .ref k7, .int 0]))]) := by
  refine Met.ofW (cc := cX3_now) (maxL := 2) (ret := (some .int)) (by decide) rfl ?_
  intro p e s m args below meth c s₁ B hml hv
  obtain ⟨rfl, hsz, hP, hK, hD0, hN⟩ := hv
  have hx := B.exec
  have hb := B.bytes
  have hr := B.returns
  have hts := atoms_spec (ws := wsX3_now) B.pre
  have hown : s.vm.findClass RX3 = some m.cls := findClass_of_methodNamed B.named
  have hlocks := B.notSynchronized
  subst hsz
  have hD := hD0.self (sz := s.heap.size)
  generalize hAe : va_A [(x, .inr (3, [.ref cu, .ref pi, .ref sq, .ref fo, .ref bo, .int gl, .int 0, .int le])), (pi, .inr (1, [.ref k0, .ref k1, .ref k2, .ref k3, .ref k4, .ref k5, .ref k6, .ref k7, .int 0]))] s.heap.size = A at hD ⊢
  have hA : ∀ q : Nat, s.heap.size ≤ q → A q := fun q h => by rw [← hAe]; exact Or.inr h
  have hS : va_S A s.heap s.heap [] := va_S.rf
  have hl := lv_entry ([.ref x, .int d]) (n := 2) (Nat.le_of_ble_eq_true rfl)
  rw [lg_entry_eq]
  generalize (lg_sl ([.ref x, .int d]) ++ List.replicate (2 - (lg_sl ([.ref x, .int d])).length) Slot.unset).toArray = ls at hl ⊢
  have hl : lv_has ls 2 [(0, .ref x), (1, .int d)] := hl
  have hP0 := hP
  refine lv_iload_n hx hb dX3_now_0 rfl (lv_at hl 1 rfl) ?_
  refine cc_i (wc := []) (wr := [(x, .inr (3, [.ref cu, .ref pi, .ref sq, .ref fo, .ref bo, .int gl, .int 0, .int le])), (pi, .inr (1, [.ref k0, .ref k1, .ref k2, .ref k3, .ref k4, .ref k5, .ref k6, .ref k7, .int 0]))]) (va_runS (As := [.int d]) (rest := []) ⟨hx, hb, hml, hown, hts⟩ (c_X3_isDay l D cI s.heap.size d ) (va_cwS 1 hts gX3_now_X3_isDay rfl rfl rfl (by decide +kernel) ⟨Nat.le_of_ble_eq_true rfl, Nat.le_of_ble_eq_true rfl⟩) (preS (wc := []) hK hP hD hN [] rfl (by decide)) rfl rfl hl.1 rfl (lv_room (Nat.le_of_ble_eq_true rfl)) dX3_now_1 ⟨Nat.le_of_ble_eq_true rfl, Nat.le_of_ble_eq_true rfl⟩) hP hD hS hA [] [0, 1] rfl rfl (by decide) (by decide) (fun r_1 u H locs w_2 hP hD hS => ?_)
  have hP : va_P D vwCl [(x, .inr (3, [.ref cu, .ref pi, .ref sq, .ref fo, .ref bo, .int gl, .int 0, .int le])), (pi, .inr (1, [.ref k0, .ref k1, .ref k2, .ref k3, .ref k4, .ref k5, .ref k6, .ref k7, .int 0]))] H := hP
  have hD : va_D A [(x, .inr (3, [.ref cu, .ref pi, .ref sq, .ref fo, .ref bo, .int gl, .int 0, .int le])), (pi, .inr (1, [.ref k0, .ref k1, .ref k2, .ref k3, .ref k4, .ref k5, .ref k6, .ref k7, .int 0]))] := hD
  have w_2 : r_1 = bIn d 0 39 := w_2
  refine lv_if_ne (tgt := 9) hx hb dX3_now_4 (by decide) (fun c_4 => ?_) (fun c_4 => ?_)
  · refine lv_iload_n hx hb dX3_now_9 rfl (lv_at hl 1 rfl) ?_
    refine lv_aload_n hx hb dX3_now_10 rfl (lv_at hl 0 rfl) ?_
    refine va_get (D := D) (ci := 3) (v := .int 0) (C := RX3) (T := TX3) (N := 8) hx hb hts iw_X3_now_3 hown hK hP 0 rfl rfl 6 (by decide) (hts _ wd_X3_now_1) (fun _ h9 => h9) rfl dX3_now_11 ?_
    refine lv_icmp_ge (tgt := 20) hx hb dX3_now_14 (by decide) (fun c_5 => ?_) (fun c_5 => ?_)
    · refine lv_aload_n hx hb dX3_now_20 rfl (lv_at hl 0 rfl) ?_
      refine lv_iload_n hx hb dX3_now_21 rfl (lv_at hl 1 rfl) ?_
      refine va_put (D := D) (ci := 3) (v := .int d) (ty := .int) (C := RX3) (T := TX3) (N := 8) hx hb hts iw_X3_now_3 tyX3 tyX3_ok nmX3 hown hK hP hD hS 0 rfl rfl 6 (by decide) (hts _ wd_X3_now_1) (fun _ h9 => h9) rfl (by decide +kernel) rfl rfl (Nat.le_of_ble_eq_true rfl) dX3_now_22 (fun H locs hP hD hS => ?_)
      have hP : va_P D vwCl [(x, .inr (3, [.ref cu, .ref pi, .ref sq, .ref fo, .ref bo, .int gl, .int d, .int le])), (pi, .inr (1, [.ref k0, .ref k1, .ref k2, .ref k3, .ref k4, .ref k5, .ref k6, .ref k7, .int 0]))] H := hP
      have hD : va_D A [(x, .inr (3, [.ref cu, .ref pi, .ref sq, .ref fo, .ref bo, .int gl, .int d, .int le])), (pi, .inr (1, [.ref k0, .ref k1, .ref k2, .ref k3, .ref k4, .ref k5, .ref k6, .ref k7, .int 0]))] := hD
      refine lv_aload_n hx hb dX3_now_25 rfl (lv_at hl 0 rfl) ?_
      refine va_get (D := D) (ci := 3) (v := .ref pi) (C := RX3) (T := TX3) (N := 8) hx hb hts iw_X3_now_3 hown hK hP 0 rfl rfl 1 (by decide) (hts _ wd_X3_now_2) (fun _ h9 => h9) rfl dX3_now_26 ?_
      refine lv_iload_n hx hb dX3_now_29 rfl (lv_at hl 1 rfl) ?_
      refine cc_i (wc := [(pi, .inr (1, [.ref k0, .ref k1, .ref k2, .ref k3, .ref k4, .ref k5, .ref k6, .ref k7, .int 0]))]) (wr := [(x, .inr (3, [.ref cu, .ref pi, .ref sq, .ref fo, .ref bo, .int gl, .int d, .int le]))]) (va_runVN (As := [.int d]) (rest := []) ⟨hx, hb, hml, hown, hts⟩ (c_X1_unpourFrom_0 l D cI H.size pi k0 k1 k2 k3 k4 k5 k6 k7 d ) ⟨va_cnB 1 hts gX3_now_X1_unpourFrom_n141 rfl rfl rfl (nwM_141 hN) (hts _ wd_X3_now_11) (by decide +kernel) ⟨Nat.le_of_ble_eq_true rfl, Nat.le_of_ble_eq_true rfl⟩, (hts _ wd_X3_now_10), (hts _ wd_X3_now_12)⟩ (preV (wc := [(pi, .inr (1, [.ref k0, .ref k1, .ref k2, .ref k3, .ref k4, .ref k5, .ref k6, .ref k7, .int 0]))]) (ci := 1) (q0 := 1) hK hP hD hN [1] rfl (by decide) rfl rfl) rfl rfl hl.1 rfl (lv_room (Nat.le_of_ble_eq_true rfl)) dX3_now_30 ⟨Nat.le_of_ble_eq_true rfl, Nat.le_of_ble_eq_true rfl⟩) hP hD hS hA [1] [0] rfl rfl (by decide) (by decide) (fun r_6 u H locs w_7 hP hD hS => ?_)
      have hP : va_P D vwCl [(x, .inr (3, [.ref cu, .ref pi, .ref sq, .ref fo, .ref bo, .int gl, .int d, .int le])), (pi, .inr (1, [.ref k0, .ref k1, .ref k2, .ref k3, .ref k4, .ref k5, .ref k6, .ref k7, .int 0]))] H := hP
      have hD : va_D A [(x, .inr (3, [.ref cu, .ref pi, .ref sq, .ref fo, .ref bo, .int gl, .int d, .int le])), (pi, .inr (1, [.ref k0, .ref k1, .ref k2, .ref k3, .ref k4, .ref k5, .ref k6, .ref k7, .int 0]))] := hD
      have w_7 : r_6 = 0 := w_7
      refine W.widen (k := 0) (n := 0) (Nat.le_of_ble_eq_true rfl) (Nat.le_of_ble_eq_true rfl) ?_
      exact fi_i d hx hb hr hlocks hK (hP.sub [0, 1] rfl) (hD.sub [0, 1] (by decide) rfl) hS (pf_X3_now_1 d r_1 r_6 w_2 c_4 c_5 w_7) dX3_now_33
    · refine lv_bipush (v := (-2)) hx hb dX3_now_17 (by decide) ?_
      refine W.widen (k := 0) (n := 0) (Nat.le_of_ble_eq_true rfl) (Nat.le_of_ble_eq_true rfl) ?_
      exact fi_i 0 hx hb hr hlocks hK (hP.sub [0, 1] rfl) (hD.sub [0, 1] (by decide) rfl) hS (pf_X3_now_2 d r_1 w_2 c_4 c_5) dX3_now_19
  · refine lv_iconst (v := (-1)) hx hb dX3_now_7 (by decide) ?_
    refine W.widen (k := 0) (n := 0) (Nat.le_of_ble_eq_true rfl) (Nat.le_of_ble_eq_true rfl) ?_
    exact fi_i 0 hx hb hr hlocks hK (hP.sub [0, 1] rfl) (hD.sub [0, 1] (by decide) rfl) hS (pf_X3_now_3 d r_1 w_2 c_4) dX3_now_8

theorem iw_X3_ahead_3 : ∀ w ∈ wsX30, w ∈ wsX3_ahead := fun w h => (List.mem_cons_of_mem _ (List.mem_append_left _ (List.mem_append_right _ h)))
theorem wd_X3_ahead_1 : (.fieldLink RX3 21 "PourPlan" "pieces" "LPourPlan$Pieces;" : Cond) ∈ wsX3_ahead := List.mem_of_getElem? (i := 1) rfl
theorem wd_X3_ahead_2 : (.instanceMethod yX1_has : Cond) ∈ wsX3_ahead := List.mem_of_getElem? (i := 2) rfl
theorem wd_X3_ahead_3 : (.initialized RX1 : Cond) ∈ wsX3_ahead := List.mem_of_getElem? (i := 3) rfl
theorem wd_X3_ahead_4 : (.selects RX1 yX1_has yX1_has : Cond) ∈ wsX3_ahead := List.mem_of_getElem? (i := 4) rfl
set_option maxHeartbeats 1000000 in
theorem pf_X3_ahead_1 (a : Int32) (r_1 : Int32) (w_2 : r_1 = bHas a (0 : Int32)) (c_4 : ¬ r_1 = 0) : False := by
  grind [bHas]
set_option maxHeartbeats 1000000 in
theorem pf_X3_ahead_2 (a : Int32) (r_1 : Int32) (w_2 : r_1 = bHas a (0 : Int32)) (c_4 : r_1 = 0) : (-1 : Int32) = -1 := by
  grind [bHas]
set_option maxHeartbeats 4000000 in
set_option maxRecDepth 100000 in
theorem c_X3_ahead (l : Launch) (D : va_G) (cI : ClassId) (sz : Nat) (x : Nat) (pi : Nat) (cu : Nat) (sq : Nat) (fo : Nat) (bo : Nat) (gl : Int32) (td : Int32) (le : Int32) (k0 : Nat) (k1 : Nat) (k2 : Nat) (k3 : Nat) (k4 : Nat) (k5 : Nat) (k6 : Nat) (k7 : Nat) (a : Int32) (b1 : Int32) (dy : Int32) : CtI l yX3_ahead wsX3_ahead 1 21 0 0 [.ref x, .int a, .int b1, .int dy] D [(cI, .int)] [(x, .inr (3, [.ref cu, .ref pi, .ref sq, .ref fo, .ref bo, .int gl, .int td, .int le])), (pi, .inr (1, [.ref k0, .ref k1, .ref k2, .ref k3, .ref k4, .ref k5, .ref k6, .ref k7, .int 0]))] sz (fun (r : Int32) (u : Unit) => r = -1) (fun (u : Unit) => [(x, .inr (3, [.ref cu, .ref pi, .ref sq, .ref fo, .ref bo, .int gl, .int td, .int le])), (pi, .inr (1, [.ref k0, .ref k1, .ref k2, .ref k3, .ref k4, .ref k5, .ref k6, .ref k7, .int 0]))]) := by
  refine Met.ofW (cc := cX3_ahead) (maxL := 5) (ret := (some .int)) (by decide) rfl ?_
  intro p e s m args below meth c s₁ B hml hv
  obtain ⟨rfl, hsz, hP, hK, hD0, hN⟩ := hv
  have hx := B.exec
  have hb := B.bytes
  have hr := B.returns
  have hts := atoms_spec (ws := wsX3_ahead) B.pre
  have hown : s.vm.findClass RX3 = some m.cls := findClass_of_methodNamed B.named
  have hlocks := B.notSynchronized
  subst hsz
  have hD := hD0.self (sz := s.heap.size)
  generalize hAe : va_A [(x, .inr (3, [.ref cu, .ref pi, .ref sq, .ref fo, .ref bo, .int gl, .int td, .int le])), (pi, .inr (1, [.ref k0, .ref k1, .ref k2, .ref k3, .ref k4, .ref k5, .ref k6, .ref k7, .int 0]))] s.heap.size = A at hD ⊢
  have hA : ∀ q : Nat, s.heap.size ≤ q → A q := fun q h => by rw [← hAe]; exact Or.inr h
  have hS : va_S A s.heap s.heap [] := va_S.rf
  have hl := lv_entry ([.ref x, .int a, .int b1, .int dy]) (n := 5) (Nat.le_of_ble_eq_true rfl)
  rw [lg_entry_eq]
  generalize (lg_sl ([.ref x, .int a, .int b1, .int dy]) ++ List.replicate (5 - (lg_sl ([.ref x, .int a, .int b1, .int dy])).length) Slot.unset).toArray = ls at hl ⊢
  have hl : lv_has ls 5 [(0, .ref x), (1, .int a), (2, .int b1), (3, .int dy)] := hl
  have hP0 := hP
  refine lv_aload_n hx hb dX3_ahead_0 rfl (lv_at hl 0 rfl) ?_
  refine va_get (D := D) (ci := 3) (v := .ref pi) (C := RX3) (T := TX3) (N := 8) hx hb hts iw_X3_ahead_3 hown hK hP 0 rfl rfl 1 (by decide) (hts _ wd_X3_ahead_1) (fun _ h9 => h9) rfl dX3_ahead_1 ?_
  refine lv_iload_n hx hb dX3_ahead_4 rfl (lv_at hl 1 rfl) ?_
  refine cc_i (wc := [(pi, .inr (1, [.ref k0, .ref k1, .ref k2, .ref k3, .ref k4, .ref k5, .ref k6, .ref k7, .int 0]))]) (wr := [(x, .inr (3, [.ref cu, .ref pi, .ref sq, .ref fo, .ref bo, .int gl, .int td, .int le]))]) (va_runVN (As := [.int a]) (rest := []) ⟨hx, hb, hml, hown, hts⟩ (c_X1_has l D cI s.heap.size pi k0 k1 k2 k3 k4 k5 k6 k7 0 a ) ⟨va_cnB 1 hts gX3_ahead_X1_has_n64 rfl rfl rfl (nwM_64 hN) (hts _ wd_X3_ahead_3) (by decide +kernel) ⟨Nat.le_of_ble_eq_true rfl, Nat.le_of_ble_eq_true rfl⟩, (hts _ wd_X3_ahead_2), (hts _ wd_X3_ahead_4)⟩ (preV (wc := [(pi, .inr (1, [.ref k0, .ref k1, .ref k2, .ref k3, .ref k4, .ref k5, .ref k6, .ref k7, .int 0]))]) (ci := 1) (q0 := 1) hK hP hD hN [1] rfl (by decide) rfl rfl) rfl rfl hl.1 rfl (lv_room (Nat.le_of_ble_eq_true rfl)) dX3_ahead_5 ⟨Nat.le_of_ble_eq_true rfl, Nat.le_of_ble_eq_true rfl⟩) hP hD hS hA [1] [0] rfl rfl (by decide) (by decide) (fun r_1 u H locs w_2 hP hD hS => ?_)
  have hP : va_P D vwCl [(x, .inr (3, [.ref cu, .ref pi, .ref sq, .ref fo, .ref bo, .int gl, .int td, .int le])), (pi, .inr (1, [.ref k0, .ref k1, .ref k2, .ref k3, .ref k4, .ref k5, .ref k6, .ref k7, .int 0]))] H := hP
  have hD : va_D A [(x, .inr (3, [.ref cu, .ref pi, .ref sq, .ref fo, .ref bo, .int gl, .int td, .int le])), (pi, .inr (1, [.ref k0, .ref k1, .ref k2, .ref k3, .ref k4, .ref k5, .ref k6, .ref k7, .int 0]))] := hD
  have w_2 : r_1 = bHas a (0 : Int32) := w_2
  refine lv_if_eq (tgt := 22) hx hb dX3_ahead_8 (by decide) (fun c_4 => ?_) (fun c_4 => absurd (pf_X3_ahead_1 a r_1 w_2 c_4) id)
  refine lv_iconst (v := (-1)) hx hb dX3_ahead_22 (by decide) ?_
  refine W.widen (k := 0) (n := 0) (Nat.le_of_ble_eq_true rfl) (Nat.le_of_ble_eq_true rfl) ?_
  exact fi_i () hx hb hr hlocks hK (hP.sub [0, 1] rfl) (hD.sub [0, 1] (by decide) rfl) hS (pf_X3_ahead_2 a r_1 w_2 c_4) dX3_ahead_23

theorem iw_X3_order_3 : ∀ w ∈ wsX30, w ∈ wsX3_order := fun w h => (List.mem_cons_of_mem _ (List.mem_append_left _ (List.mem_append_left _ (List.mem_append_right _ h))))
theorem wd_X3_order_1 : (.fieldLink RX3 21 "PourPlan" "pieces" "LPourPlan$Pieces;" : Cond) ∈ wsX3_order := List.mem_of_getElem? (i := 1) rfl
theorem wd_X3_order_3 : (.instanceMethod yX1_has : Cond) ∈ wsX3_order := List.mem_of_getElem? (i := 3) rfl
theorem wd_X3_order_4 : (.initialized RX1 : Cond) ∈ wsX3_order := List.mem_of_getElem? (i := 4) rfl
theorem wd_X3_order_5 : (.selects RX1 yX1_has yX1_has : Cond) ∈ wsX3_order := List.mem_of_getElem? (i := 5) rfl
set_option maxHeartbeats 1000000 in
theorem pf_X3_order_1 (a : Int32) (r_1 : Int32) (w_2 : r_1 = bHas a (0 : Int32)) (c_4 : ¬ r_1 = 0) : False := by
  grind [bHas]
set_option maxHeartbeats 1000000 in
theorem pf_X3_order_2 (a : Int32) (r_1 : Int32) (w_2 : r_1 = bHas a (0 : Int32)) (c_4 : r_1 = 0) : (-1 : Int32) = -1 := by
  grind [bHas]
set_option maxHeartbeats 4000000 in
set_option maxRecDepth 100000 in
theorem c_X3_order (l : Launch) (D : va_G) (cI : ClassId) (sz : Nat) (x : Nat) (pi : Nat) (cu : Nat) (sq : Nat) (fo : Nat) (bo : Nat) (gl : Int32) (td : Int32) (le : Int32) (k0 : Nat) (k1 : Nat) (k2 : Nat) (k3 : Nat) (k4 : Nat) (k5 : Nat) (k6 : Nat) (k7 : Nat) (a : Int32) (i1 : Int32) : CtI l yX3_order wsX3_order 1 21 0 0 [.ref x, .int a, .int i1] D [(cI, .int)] [(x, .inr (3, [.ref cu, .ref pi, .ref sq, .ref fo, .ref bo, .int gl, .int td, .int le])), (pi, .inr (1, [.ref k0, .ref k1, .ref k2, .ref k3, .ref k4, .ref k5, .ref k6, .ref k7, .int 0]))] sz (fun (r : Int32) (u : Unit) => r = -1) (fun (u : Unit) => [(x, .inr (3, [.ref cu, .ref pi, .ref sq, .ref fo, .ref bo, .int gl, .int td, .int le])), (pi, .inr (1, [.ref k0, .ref k1, .ref k2, .ref k3, .ref k4, .ref k5, .ref k6, .ref k7, .int 0]))]) := by
  refine Met.ofW (cc := cX3_order) (maxL := 4) (ret := (some .int)) (by decide) rfl ?_
  intro p e s m args below meth c s₁ B hml hv
  obtain ⟨rfl, hsz, hP, hK, hD0, hN⟩ := hv
  have hx := B.exec
  have hb := B.bytes
  have hr := B.returns
  have hts := atoms_spec (ws := wsX3_order) B.pre
  have hown : s.vm.findClass RX3 = some m.cls := findClass_of_methodNamed B.named
  have hlocks := B.notSynchronized
  subst hsz
  have hD := hD0.self (sz := s.heap.size)
  generalize hAe : va_A [(x, .inr (3, [.ref cu, .ref pi, .ref sq, .ref fo, .ref bo, .int gl, .int td, .int le])), (pi, .inr (1, [.ref k0, .ref k1, .ref k2, .ref k3, .ref k4, .ref k5, .ref k6, .ref k7, .int 0]))] s.heap.size = A at hD ⊢
  have hA : ∀ q : Nat, s.heap.size ≤ q → A q := fun q h => by rw [← hAe]; exact Or.inr h
  have hS : va_S A s.heap s.heap [] := va_S.rf
  have hl := lv_entry ([.ref x, .int a, .int i1]) (n := 4) (Nat.le_of_ble_eq_true rfl)
  rw [lg_entry_eq]
  generalize (lg_sl ([.ref x, .int a, .int i1]) ++ List.replicate (4 - (lg_sl ([.ref x, .int a, .int i1])).length) Slot.unset).toArray = ls at hl ⊢
  have hl : lv_has ls 4 [(0, .ref x), (1, .int a), (2, .int i1)] := hl
  have hP0 := hP
  refine lv_aload_n hx hb dX3_order_0 rfl (lv_at hl 0 rfl) ?_
  refine va_get (D := D) (ci := 3) (v := .ref pi) (C := RX3) (T := TX3) (N := 8) hx hb hts iw_X3_order_3 hown hK hP 0 rfl rfl 1 (by decide) (hts _ wd_X3_order_1) (fun _ h9 => h9) rfl dX3_order_1 ?_
  refine lv_iload_n hx hb dX3_order_4 rfl (lv_at hl 1 rfl) ?_
  refine cc_i (wc := [(pi, .inr (1, [.ref k0, .ref k1, .ref k2, .ref k3, .ref k4, .ref k5, .ref k6, .ref k7, .int 0]))]) (wr := [(x, .inr (3, [.ref cu, .ref pi, .ref sq, .ref fo, .ref bo, .int gl, .int td, .int le]))]) (va_runVN (As := [.int a]) (rest := []) ⟨hx, hb, hml, hown, hts⟩ (c_X1_has l D cI s.heap.size pi k0 k1 k2 k3 k4 k5 k6 k7 0 a ) ⟨va_cnB 1 hts gX3_order_X1_has_n64 rfl rfl rfl (nwM_64 hN) (hts _ wd_X3_order_4) (by decide +kernel) ⟨Nat.le_of_ble_eq_true rfl, Nat.le_of_ble_eq_true rfl⟩, (hts _ wd_X3_order_3), (hts _ wd_X3_order_5)⟩ (preV (wc := [(pi, .inr (1, [.ref k0, .ref k1, .ref k2, .ref k3, .ref k4, .ref k5, .ref k6, .ref k7, .int 0]))]) (ci := 1) (q0 := 1) hK hP hD hN [1] rfl (by decide) rfl rfl) rfl rfl hl.1 rfl (lv_room (Nat.le_of_ble_eq_true rfl)) dX3_order_5 ⟨Nat.le_of_ble_eq_true rfl, Nat.le_of_ble_eq_true rfl⟩) hP hD hS hA [1] [0] rfl rfl (by decide) (by decide) (fun r_1 u H locs w_2 hP hD hS => ?_)
  have hP : va_P D vwCl [(x, .inr (3, [.ref cu, .ref pi, .ref sq, .ref fo, .ref bo, .int gl, .int td, .int le])), (pi, .inr (1, [.ref k0, .ref k1, .ref k2, .ref k3, .ref k4, .ref k5, .ref k6, .ref k7, .int 0]))] H := hP
  have hD : va_D A [(x, .inr (3, [.ref cu, .ref pi, .ref sq, .ref fo, .ref bo, .int gl, .int td, .int le])), (pi, .inr (1, [.ref k0, .ref k1, .ref k2, .ref k3, .ref k4, .ref k5, .ref k6, .ref k7, .int 0]))] := hD
  have w_2 : r_1 = bHas a (0 : Int32) := w_2
  refine lv_if_eq (tgt := 22) hx hb dX3_order_8 (by decide) (fun c_4 => ?_) (fun c_4 => absurd (pf_X3_order_1 a r_1 w_2 c_4) id)
  refine lv_iconst (v := (-1)) hx hb dX3_order_22 (by decide) ?_
  refine W.widen (k := 0) (n := 0) (Nat.le_of_ble_eq_true rfl) (Nat.le_of_ble_eq_true rfl) ?_
  exact fi_i () hx hb hr hlocks hK (hP.sub [0, 1] rfl) (hD.sub [0, 1] (by decide) rfl) hS (pf_X3_order_2 a r_1 w_2 c_4) dX3_order_23

theorem iw_X3_about_3 : ∀ w ∈ wsX30, w ∈ wsX3_about := fun w h => (List.mem_cons_of_mem _ (List.mem_append_left _ (List.mem_append_left _ (List.mem_append_left _ (List.mem_append_right _ h)))))
theorem wd_X3_about_1 : (.fieldLink RX3 21 "PourPlan" "pieces" "LPourPlan$Pieces;" : Cond) ∈ wsX3_about := List.mem_of_getElem? (i := 1) rfl
theorem wd_X3_about_4 : (.instanceMethod yX1_has : Cond) ∈ wsX3_about := List.mem_of_getElem? (i := 4) rfl
theorem wd_X3_about_5 : (.initialized RX1 : Cond) ∈ wsX3_about := List.mem_of_getElem? (i := 5) rfl
theorem wd_X3_about_6 : (.selects RX1 yX1_has yX1_has : Cond) ∈ wsX3_about := List.mem_of_getElem? (i := 6) rfl
set_option maxHeartbeats 1000000 in
theorem pf_X3_about_1 (a : Int32) (r_1 : Int32) (w_2 : r_1 = bHas a (0 : Int32)) (c_4 : ¬ r_1 = 0) : False := by
  grind [bHas]
set_option maxHeartbeats 1000000 in
theorem pf_X3_about_2 (a : Int32) (r_1 : Int32) (w_2 : r_1 = bHas a (0 : Int32)) (c_4 : r_1 = 0) : (-1 : Int32) = -1 := by
  grind [bHas]
set_option maxHeartbeats 4000000 in
set_option maxRecDepth 100000 in
theorem c_X3_about (l : Launch) (D : va_G) (cI : ClassId) (sz : Nat) (x : Nat) (pi : Nat) (cu : Nat) (sq : Nat) (fo : Nat) (bo : Nat) (gl : Int32) (td : Int32) (le : Int32) (k0 : Nat) (k1 : Nat) (k2 : Nat) (k3 : Nat) (k4 : Nat) (k5 : Nat) (k6 : Nat) (k7 : Nat) (a : Int32) (w : Int32) : CtI l yX3_about wsX3_about 1 21 0 0 [.ref x, .int a, .int w] D [(cI, .int)] [(x, .inr (3, [.ref cu, .ref pi, .ref sq, .ref fo, .ref bo, .int gl, .int td, .int le])), (pi, .inr (1, [.ref k0, .ref k1, .ref k2, .ref k3, .ref k4, .ref k5, .ref k6, .ref k7, .int 0]))] sz (fun (r : Int32) (u : Unit) => r = -1) (fun (u : Unit) => [(x, .inr (3, [.ref cu, .ref pi, .ref sq, .ref fo, .ref bo, .int gl, .int td, .int le])), (pi, .inr (1, [.ref k0, .ref k1, .ref k2, .ref k3, .ref k4, .ref k5, .ref k6, .ref k7, .int 0]))]) := by
  refine Met.ofW (cc := cX3_about) (maxL := 3) (ret := (some .int)) (by decide) rfl ?_
  intro p e s m args below meth c s₁ B hml hv
  obtain ⟨rfl, hsz, hP, hK, hD0, hN⟩ := hv
  have hx := B.exec
  have hb := B.bytes
  have hr := B.returns
  have hts := atoms_spec (ws := wsX3_about) B.pre
  have hown : s.vm.findClass RX3 = some m.cls := findClass_of_methodNamed B.named
  have hlocks := B.notSynchronized
  subst hsz
  have hD := hD0.self (sz := s.heap.size)
  generalize hAe : va_A [(x, .inr (3, [.ref cu, .ref pi, .ref sq, .ref fo, .ref bo, .int gl, .int td, .int le])), (pi, .inr (1, [.ref k0, .ref k1, .ref k2, .ref k3, .ref k4, .ref k5, .ref k6, .ref k7, .int 0]))] s.heap.size = A at hD ⊢
  have hA : ∀ q : Nat, s.heap.size ≤ q → A q := fun q h => by rw [← hAe]; exact Or.inr h
  have hS : va_S A s.heap s.heap [] := va_S.rf
  have hl := lv_entry ([.ref x, .int a, .int w]) (n := 3) (Nat.le_of_ble_eq_true rfl)
  rw [lg_entry_eq]
  generalize (lg_sl ([.ref x, .int a, .int w]) ++ List.replicate (3 - (lg_sl ([.ref x, .int a, .int w])).length) Slot.unset).toArray = ls at hl ⊢
  have hl : lv_has ls 3 [(0, .ref x), (1, .int a), (2, .int w)] := hl
  have hP0 := hP
  refine lv_aload_n hx hb dX3_about_0 rfl (lv_at hl 0 rfl) ?_
  refine va_get (D := D) (ci := 3) (v := .ref pi) (C := RX3) (T := TX3) (N := 8) hx hb hts iw_X3_about_3 hown hK hP 0 rfl rfl 1 (by decide) (hts _ wd_X3_about_1) (fun _ h9 => h9) rfl dX3_about_1 ?_
  refine lv_iload_n hx hb dX3_about_4 rfl (lv_at hl 1 rfl) ?_
  refine cc_i (wc := [(pi, .inr (1, [.ref k0, .ref k1, .ref k2, .ref k3, .ref k4, .ref k5, .ref k6, .ref k7, .int 0]))]) (wr := [(x, .inr (3, [.ref cu, .ref pi, .ref sq, .ref fo, .ref bo, .int gl, .int td, .int le]))]) (va_runVN (As := [.int a]) (rest := []) ⟨hx, hb, hml, hown, hts⟩ (c_X1_has l D cI s.heap.size pi k0 k1 k2 k3 k4 k5 k6 k7 0 a ) ⟨va_cnB 1 hts gX3_about_X1_has_n64 rfl rfl rfl (nwM_64 hN) (hts _ wd_X3_about_5) (by decide +kernel) ⟨Nat.le_of_ble_eq_true rfl, Nat.le_of_ble_eq_true rfl⟩, (hts _ wd_X3_about_4), (hts _ wd_X3_about_6)⟩ (preV (wc := [(pi, .inr (1, [.ref k0, .ref k1, .ref k2, .ref k3, .ref k4, .ref k5, .ref k6, .ref k7, .int 0]))]) (ci := 1) (q0 := 1) hK hP hD hN [1] rfl (by decide) rfl rfl) rfl rfl hl.1 rfl (lv_room (Nat.le_of_ble_eq_true rfl)) dX3_about_5 ⟨Nat.le_of_ble_eq_true rfl, Nat.le_of_ble_eq_true rfl⟩) hP hD hS hA [1] [0] rfl rfl (by decide) (by decide) (fun r_1 u H locs w_2 hP hD hS => ?_)
  have hP : va_P D vwCl [(x, .inr (3, [.ref cu, .ref pi, .ref sq, .ref fo, .ref bo, .int gl, .int td, .int le])), (pi, .inr (1, [.ref k0, .ref k1, .ref k2, .ref k3, .ref k4, .ref k5, .ref k6, .ref k7, .int 0]))] H := hP
  have hD : va_D A [(x, .inr (3, [.ref cu, .ref pi, .ref sq, .ref fo, .ref bo, .int gl, .int td, .int le])), (pi, .inr (1, [.ref k0, .ref k1, .ref k2, .ref k3, .ref k4, .ref k5, .ref k6, .ref k7, .int 0]))] := hD
  have w_2 : r_1 = bHas a (0 : Int32) := w_2
  refine lv_if_ne (tgt := 13) hx hb dX3_about_8 (by decide) (fun c_4 => absurd (pf_X3_about_1 a r_1 w_2 c_4) id) (fun c_4 => ?_)
  refine lv_iconst (v := (-1)) hx hb dX3_about_11 (by decide) ?_
  refine W.widen (k := 0) (n := 0) (Nat.le_of_ble_eq_true rfl) (Nat.le_of_ble_eq_true rfl) ?_
  exact fi_i () hx hb hr hlocks hK (hP.sub [0, 1] rfl) (hD.sub [0, 1] (by decide) rfl) hS (pf_X3_about_2 a r_1 w_2 c_4) dX3_about_12

theorem iw_X3_hard_3 : ∀ w ∈ wsX30, w ∈ wsX3_hard := fun w h => (List.mem_cons_of_mem _ (List.mem_append_left _ (List.mem_append_left _ (List.mem_append_right _ h))))
theorem wd_X3_hard_1 : (.fieldLink RX3 21 "PourPlan" "pieces" "LPourPlan$Pieces;" : Cond) ∈ wsX3_hard := List.mem_of_getElem? (i := 1) rfl
theorem wd_X3_hard_3 : (.instanceMethod yX1_has : Cond) ∈ wsX3_hard := List.mem_of_getElem? (i := 3) rfl
theorem wd_X3_hard_4 : (.initialized RX1 : Cond) ∈ wsX3_hard := List.mem_of_getElem? (i := 4) rfl
theorem wd_X3_hard_5 : (.selects RX1 yX1_has yX1_has : Cond) ∈ wsX3_hard := List.mem_of_getElem? (i := 5) rfl
set_option maxHeartbeats 1000000 in
theorem pf_X3_hard_1 (a : Int32) (r_1 : Int32) (w_2 : r_1 = bHas a (0 : Int32)) (c_4 : ¬ r_1 = 0) : False := by
  grind [bHas]
set_option maxHeartbeats 1000000 in
theorem pf_X3_hard_2 (a : Int32) (r_1 : Int32) (w_2 : r_1 = bHas a (0 : Int32)) (c_4 : r_1 = 0) : (-1 : Int32) = -1 := by
  grind [bHas]
set_option maxHeartbeats 4000000 in
set_option maxRecDepth 100000 in
theorem c_X3_hard (l : Launch) (D : va_G) (cI : ClassId) (sz : Nat) (x : Nat) (pi : Nat) (cu : Nat) (sq : Nat) (fo : Nat) (bo : Nat) (gl : Int32) (td : Int32) (le : Int32) (k0 : Nat) (k1 : Nat) (k2 : Nat) (k3 : Nat) (k4 : Nat) (k5 : Nat) (k6 : Nat) (k7 : Nat) (a : Int32) (d : Int32) : CtI l yX3_hard wsX3_hard 1 21 0 0 [.ref x, .int a, .int d] D [(cI, .int)] [(x, .inr (3, [.ref cu, .ref pi, .ref sq, .ref fo, .ref bo, .int gl, .int td, .int le])), (pi, .inr (1, [.ref k0, .ref k1, .ref k2, .ref k3, .ref k4, .ref k5, .ref k6, .ref k7, .int 0]))] sz (fun (r : Int32) (u : Unit) => r = -1) (fun (u : Unit) => [(x, .inr (3, [.ref cu, .ref pi, .ref sq, .ref fo, .ref bo, .int gl, .int td, .int le])), (pi, .inr (1, [.ref k0, .ref k1, .ref k2, .ref k3, .ref k4, .ref k5, .ref k6, .ref k7, .int 0]))]) := by
  refine Met.ofW (cc := cX3_hard) (maxL := 3) (ret := (some .int)) (by decide) rfl ?_
  intro p e s m args below meth c s₁ B hml hv
  obtain ⟨rfl, hsz, hP, hK, hD0, hN⟩ := hv
  have hx := B.exec
  have hb := B.bytes
  have hr := B.returns
  have hts := atoms_spec (ws := wsX3_hard) B.pre
  have hown : s.vm.findClass RX3 = some m.cls := findClass_of_methodNamed B.named
  have hlocks := B.notSynchronized
  subst hsz
  have hD := hD0.self (sz := s.heap.size)
  generalize hAe : va_A [(x, .inr (3, [.ref cu, .ref pi, .ref sq, .ref fo, .ref bo, .int gl, .int td, .int le])), (pi, .inr (1, [.ref k0, .ref k1, .ref k2, .ref k3, .ref k4, .ref k5, .ref k6, .ref k7, .int 0]))] s.heap.size = A at hD ⊢
  have hA : ∀ q : Nat, s.heap.size ≤ q → A q := fun q h => by rw [← hAe]; exact Or.inr h
  have hS : va_S A s.heap s.heap [] := va_S.rf
  have hl := lv_entry ([.ref x, .int a, .int d]) (n := 3) (Nat.le_of_ble_eq_true rfl)
  rw [lg_entry_eq]
  generalize (lg_sl ([.ref x, .int a, .int d]) ++ List.replicate (3 - (lg_sl ([.ref x, .int a, .int d])).length) Slot.unset).toArray = ls at hl ⊢
  have hl : lv_has ls 3 [(0, .ref x), (1, .int a), (2, .int d)] := hl
  have hP0 := hP
  refine lv_aload_n hx hb dX3_hard_0 rfl (lv_at hl 0 rfl) ?_
  refine va_get (D := D) (ci := 3) (v := .ref pi) (C := RX3) (T := TX3) (N := 8) hx hb hts iw_X3_hard_3 hown hK hP 0 rfl rfl 1 (by decide) (hts _ wd_X3_hard_1) (fun _ h9 => h9) rfl dX3_hard_1 ?_
  refine lv_iload_n hx hb dX3_hard_4 rfl (lv_at hl 1 rfl) ?_
  refine cc_i (wc := [(pi, .inr (1, [.ref k0, .ref k1, .ref k2, .ref k3, .ref k4, .ref k5, .ref k6, .ref k7, .int 0]))]) (wr := [(x, .inr (3, [.ref cu, .ref pi, .ref sq, .ref fo, .ref bo, .int gl, .int td, .int le]))]) (va_runVN (As := [.int a]) (rest := []) ⟨hx, hb, hml, hown, hts⟩ (c_X1_has l D cI s.heap.size pi k0 k1 k2 k3 k4 k5 k6 k7 0 a ) ⟨va_cnB 1 hts gX3_hard_X1_has_n64 rfl rfl rfl (nwM_64 hN) (hts _ wd_X3_hard_4) (by decide +kernel) ⟨Nat.le_of_ble_eq_true rfl, Nat.le_of_ble_eq_true rfl⟩, (hts _ wd_X3_hard_3), (hts _ wd_X3_hard_5)⟩ (preV (wc := [(pi, .inr (1, [.ref k0, .ref k1, .ref k2, .ref k3, .ref k4, .ref k5, .ref k6, .ref k7, .int 0]))]) (ci := 1) (q0 := 1) hK hP hD hN [1] rfl (by decide) rfl rfl) rfl rfl hl.1 rfl (lv_room (Nat.le_of_ble_eq_true rfl)) dX3_hard_5 ⟨Nat.le_of_ble_eq_true rfl, Nat.le_of_ble_eq_true rfl⟩) hP hD hS hA [1] [0] rfl rfl (by decide) (by decide) (fun r_1 u H locs w_2 hP hD hS => ?_)
  have hP : va_P D vwCl [(x, .inr (3, [.ref cu, .ref pi, .ref sq, .ref fo, .ref bo, .int gl, .int td, .int le])), (pi, .inr (1, [.ref k0, .ref k1, .ref k2, .ref k3, .ref k4, .ref k5, .ref k6, .ref k7, .int 0]))] H := hP
  have hD : va_D A [(x, .inr (3, [.ref cu, .ref pi, .ref sq, .ref fo, .ref bo, .int gl, .int td, .int le])), (pi, .inr (1, [.ref k0, .ref k1, .ref k2, .ref k3, .ref k4, .ref k5, .ref k6, .ref k7, .int 0]))] := hD
  have w_2 : r_1 = bHas a (0 : Int32) := w_2
  refine lv_if_eq (tgt := 38) hx hb dX3_hard_8 (by decide) (fun c_4 => ?_) (fun c_4 => absurd (pf_X3_hard_1 a r_1 w_2 c_4) id)
  refine lv_iconst (v := (-1)) hx hb dX3_hard_38 (by decide) ?_
  refine W.widen (k := 0) (n := 0) (Nat.le_of_ble_eq_true rfl) (Nat.le_of_ble_eq_true rfl) ?_
  exact fi_i () hx hb hr hlocks hK (hP.sub [0, 1] rfl) (hD.sub [0, 1] (by decide) rfl) hS (pf_X3_hard_2 a r_1 w_2 c_4) dX3_hard_39

theorem iw_X3_why_3 : ∀ w ∈ wsX30, w ∈ wsX3_why := fun w h => (List.mem_cons_of_mem _ (List.mem_append_left _ (List.mem_append_left _ (List.mem_append_left _ (List.mem_append_right _ h)))))
theorem wd_X3_why_1 : (.fieldLink RX3 21 "PourPlan" "pieces" "LPourPlan$Pieces;" : Cond) ∈ wsX3_why := List.mem_of_getElem? (i := 1) rfl
theorem wd_X3_why_2 : (.instanceMethod yX1_has : Cond) ∈ wsX3_why := List.mem_of_getElem? (i := 2) rfl
theorem wd_X3_why_3 : (.initialized RX1 : Cond) ∈ wsX3_why := List.mem_of_getElem? (i := 3) rfl
theorem wd_X3_why_4 : (.selects RX1 yX1_has yX1_has : Cond) ∈ wsX3_why := List.mem_of_getElem? (i := 4) rfl
set_option maxHeartbeats 1000000 in
theorem pf_X3_why_1 (a : Int32) (r_1 : Int32) (w_2 : r_1 = bHas a (0 : Int32)) (c_4 : ¬ r_1 = 0) : False := by
  grind [bHas]
set_option maxHeartbeats 1000000 in
theorem pf_X3_why_2 (a : Int32) (r_1 : Int32) (w_2 : r_1 = bHas a (0 : Int32)) (c_4 : r_1 = 0) : (-1 : Int32) = -1 := by
  grind [bHas]
set_option maxHeartbeats 4000000 in
set_option maxRecDepth 100000 in
theorem c_X3_why (l : Launch) (D : va_G) (cI : ClassId) (sz : Nat) (x : Nat) (pi : Nat) (cu : Nat) (sq : Nat) (fo : Nat) (bo : Nat) (gl : Int32) (td : Int32) (le : Int32) (k0 : Nat) (k1 : Nat) (k2 : Nat) (k3 : Nat) (k4 : Nat) (k5 : Nat) (k6 : Nat) (k7 : Nat) (a : Int32) (d : Int32) : CtI l yX3_why wsX3_why 1 21 0 0 [.ref x, .int a, .int d] D [(cI, .int)] [(x, .inr (3, [.ref cu, .ref pi, .ref sq, .ref fo, .ref bo, .int gl, .int td, .int le])), (pi, .inr (1, [.ref k0, .ref k1, .ref k2, .ref k3, .ref k4, .ref k5, .ref k6, .ref k7, .int 0]))] sz (fun (r : Int32) (u : Unit) => r = -1) (fun (u : Unit) => [(x, .inr (3, [.ref cu, .ref pi, .ref sq, .ref fo, .ref bo, .int gl, .int td, .int le])), (pi, .inr (1, [.ref k0, .ref k1, .ref k2, .ref k3, .ref k4, .ref k5, .ref k6, .ref k7, .int 0]))]) := by
  refine Met.ofW (cc := cX3_why) (maxL := 3) (ret := (some .int)) (by decide) rfl ?_
  intro p e s m args below meth c s₁ B hml hv
  obtain ⟨rfl, hsz, hP, hK, hD0, hN⟩ := hv
  have hx := B.exec
  have hb := B.bytes
  have hr := B.returns
  have hts := atoms_spec (ws := wsX3_why) B.pre
  have hown : s.vm.findClass RX3 = some m.cls := findClass_of_methodNamed B.named
  have hlocks := B.notSynchronized
  subst hsz
  have hD := hD0.self (sz := s.heap.size)
  generalize hAe : va_A [(x, .inr (3, [.ref cu, .ref pi, .ref sq, .ref fo, .ref bo, .int gl, .int td, .int le])), (pi, .inr (1, [.ref k0, .ref k1, .ref k2, .ref k3, .ref k4, .ref k5, .ref k6, .ref k7, .int 0]))] s.heap.size = A at hD ⊢
  have hA : ∀ q : Nat, s.heap.size ≤ q → A q := fun q h => by rw [← hAe]; exact Or.inr h
  have hS : va_S A s.heap s.heap [] := va_S.rf
  have hl := lv_entry ([.ref x, .int a, .int d]) (n := 3) (Nat.le_of_ble_eq_true rfl)
  rw [lg_entry_eq]
  generalize (lg_sl ([.ref x, .int a, .int d]) ++ List.replicate (3 - (lg_sl ([.ref x, .int a, .int d])).length) Slot.unset).toArray = ls at hl ⊢
  have hl : lv_has ls 3 [(0, .ref x), (1, .int a), (2, .int d)] := hl
  have hP0 := hP
  refine lv_aload_n hx hb dX3_why_0 rfl (lv_at hl 0 rfl) ?_
  refine va_get (D := D) (ci := 3) (v := .ref pi) (C := RX3) (T := TX3) (N := 8) hx hb hts iw_X3_why_3 hown hK hP 0 rfl rfl 1 (by decide) (hts _ wd_X3_why_1) (fun _ h9 => h9) rfl dX3_why_1 ?_
  refine lv_iload_n hx hb dX3_why_4 rfl (lv_at hl 1 rfl) ?_
  refine cc_i (wc := [(pi, .inr (1, [.ref k0, .ref k1, .ref k2, .ref k3, .ref k4, .ref k5, .ref k6, .ref k7, .int 0]))]) (wr := [(x, .inr (3, [.ref cu, .ref pi, .ref sq, .ref fo, .ref bo, .int gl, .int td, .int le]))]) (va_runVN (As := [.int a]) (rest := []) ⟨hx, hb, hml, hown, hts⟩ (c_X1_has l D cI s.heap.size pi k0 k1 k2 k3 k4 k5 k6 k7 0 a ) ⟨va_cnB 1 hts gX3_why_X1_has_n64 rfl rfl rfl (nwM_64 hN) (hts _ wd_X3_why_3) (by decide +kernel) ⟨Nat.le_of_ble_eq_true rfl, Nat.le_of_ble_eq_true rfl⟩, (hts _ wd_X3_why_2), (hts _ wd_X3_why_4)⟩ (preV (wc := [(pi, .inr (1, [.ref k0, .ref k1, .ref k2, .ref k3, .ref k4, .ref k5, .ref k6, .ref k7, .int 0]))]) (ci := 1) (q0 := 1) hK hP hD hN [1] rfl (by decide) rfl rfl) rfl rfl hl.1 rfl (lv_room (Nat.le_of_ble_eq_true rfl)) dX3_why_5 ⟨Nat.le_of_ble_eq_true rfl, Nat.le_of_ble_eq_true rfl⟩) hP hD hS hA [1] [0] rfl rfl (by decide) (by decide) (fun r_1 u H locs w_2 hP hD hS => ?_)
  have hP : va_P D vwCl [(x, .inr (3, [.ref cu, .ref pi, .ref sq, .ref fo, .ref bo, .int gl, .int td, .int le])), (pi, .inr (1, [.ref k0, .ref k1, .ref k2, .ref k3, .ref k4, .ref k5, .ref k6, .ref k7, .int 0]))] H := hP
  have hD : va_D A [(x, .inr (3, [.ref cu, .ref pi, .ref sq, .ref fo, .ref bo, .int gl, .int td, .int le])), (pi, .inr (1, [.ref k0, .ref k1, .ref k2, .ref k3, .ref k4, .ref k5, .ref k6, .ref k7, .int 0]))] := hD
  have w_2 : r_1 = bHas a (0 : Int32) := w_2
  refine lv_if_eq (tgt := 27) hx hb dX3_why_8 (by decide) (fun c_4 => ?_) (fun c_4 => absurd (pf_X3_why_1 a r_1 w_2 c_4) id)
  refine lv_iconst (v := (-1)) hx hb dX3_why_27 (by decide) ?_
  refine W.widen (k := 0) (n := 0) (Nat.le_of_ble_eq_true rfl) (Nat.le_of_ble_eq_true rfl) ?_
  exact fi_i () hx hb hr hlocks hK (hP.sub [0, 1] rfl) (hD.sub [0, 1] (by decide) rfl) hS (pf_X3_why_2 a r_1 w_2 c_4) dX3_why_28

theorem iw_X3_borne_3 : ∀ w ∈ wsX30, w ∈ wsX3_borne := fun w h => (List.mem_cons_of_mem _ (List.mem_append_left _ (List.mem_append_left _ (List.mem_append_right _ h))))
theorem wd_X3_borne_1 : (.fieldLink RX3 21 "PourPlan" "pieces" "LPourPlan$Pieces;" : Cond) ∈ wsX3_borne := List.mem_of_getElem? (i := 1) rfl
theorem wd_X3_borne_2 : (.constantLong RX3 182 (-9223372036854775808) : Cond) ∈ wsX3_borne := List.mem_of_getElem? (i := 2) rfl
theorem wd_X3_borne_4 : (.instanceMethod yX1_has : Cond) ∈ wsX3_borne := List.mem_of_getElem? (i := 4) rfl
theorem wd_X3_borne_5 : (.initialized RX1 : Cond) ∈ wsX3_borne := List.mem_of_getElem? (i := 5) rfl
theorem wd_X3_borne_6 : (.selects RX1 yX1_has yX1_has : Cond) ∈ wsX3_borne := List.mem_of_getElem? (i := 6) rfl
set_option maxHeartbeats 1000000 in
theorem pf_X3_borne_1 (a : Int32) (r_1 : Int32) (w_2 : r_1 = bHas a (0 : Int32)) (c_4 : ¬ r_1 = 0) : False := by
  grind [bHas]
set_option maxHeartbeats 1000000 in
theorem pf_X3_borne_2 (a : Int32) (r_1 : Int32) (w_2 : r_1 = bHas a (0 : Int32)) (c_4 : r_1 = 0) : (-9223372036854775808 : Int64) = -9223372036854775808 := by
  grind [bHas]
set_option maxHeartbeats 4000000 in
set_option maxRecDepth 100000 in
theorem c_X3_borne (l : Launch) (D : va_G) (cI : ClassId) (sz : Nat) (x : Nat) (pi : Nat) (cu : Nat) (sq : Nat) (fo : Nat) (bo : Nat) (gl : Int32) (td : Int32) (le : Int32) (k0 : Nat) (k1 : Nat) (k2 : Nat) (k3 : Nat) (k4 : Nat) (k5 : Nat) (k6 : Nat) (k7 : Nat) (a : Int32) (d : Int32) (pa : Int32) : CtL l yX3_borne wsX3_borne 1 21 0 0 [.ref x, .int a, .int d, .int pa] D [(cI, .int)] [(x, .inr (3, [.ref cu, .ref pi, .ref sq, .ref fo, .ref bo, .int gl, .int td, .int le])), (pi, .inr (1, [.ref k0, .ref k1, .ref k2, .ref k3, .ref k4, .ref k5, .ref k6, .ref k7, .int 0]))] sz (fun (r : Int64) (u : Unit) => r = -9223372036854775808) (fun (u : Unit) => [(x, .inr (3, [.ref cu, .ref pi, .ref sq, .ref fo, .ref bo, .int gl, .int td, .int le])), (pi, .inr (1, [.ref k0, .ref k1, .ref k2, .ref k3, .ref k4, .ref k5, .ref k6, .ref k7, .int 0]))]) := by
  refine Met.ofW (cc := cX3_borne) (maxL := 13) (ret := (some .long)) (by decide) rfl ?_
  intro p e s m args below meth c s₁ B hml hv
  obtain ⟨rfl, hsz, hP, hK, hD0, hN⟩ := hv
  have hx := B.exec
  have hb := B.bytes
  have hr := B.returns
  have hts := atoms_spec (ws := wsX3_borne) B.pre
  have hown : s.vm.findClass RX3 = some m.cls := findClass_of_methodNamed B.named
  have hlocks := B.notSynchronized
  subst hsz
  have hD := hD0.self (sz := s.heap.size)
  generalize hAe : va_A [(x, .inr (3, [.ref cu, .ref pi, .ref sq, .ref fo, .ref bo, .int gl, .int td, .int le])), (pi, .inr (1, [.ref k0, .ref k1, .ref k2, .ref k3, .ref k4, .ref k5, .ref k6, .ref k7, .int 0]))] s.heap.size = A at hD ⊢
  have hA : ∀ q : Nat, s.heap.size ≤ q → A q := fun q h => by rw [← hAe]; exact Or.inr h
  have hS : va_S A s.heap s.heap [] := va_S.rf
  have hl := lv_entry ([.ref x, .int a, .int d, .int pa]) (n := 13) (Nat.le_of_ble_eq_true rfl)
  rw [lg_entry_eq]
  generalize (lg_sl ([.ref x, .int a, .int d, .int pa]) ++ List.replicate (13 - (lg_sl ([.ref x, .int a, .int d, .int pa])).length) Slot.unset).toArray = ls at hl ⊢
  have hl : lv_has ls 13 [(0, .ref x), (1, .int a), (2, .int d), (3, .int pa)] := hl
  have hP0 := hP
  refine lv_aload_n hx hb dX3_borne_0 rfl (lv_at hl 0 rfl) ?_
  refine va_get (D := D) (ci := 3) (v := .ref pi) (C := RX3) (T := TX3) (N := 8) hx hb hts iw_X3_borne_3 hown hK hP 0 rfl rfl 1 (by decide) (hts _ wd_X3_borne_1) (fun _ h9 => h9) rfl dX3_borne_1 ?_
  refine lv_iload_n hx hb dX3_borne_4 rfl (lv_at hl 1 rfl) ?_
  refine cc_i (wc := [(pi, .inr (1, [.ref k0, .ref k1, .ref k2, .ref k3, .ref k4, .ref k5, .ref k6, .ref k7, .int 0]))]) (wr := [(x, .inr (3, [.ref cu, .ref pi, .ref sq, .ref fo, .ref bo, .int gl, .int td, .int le]))]) (va_runVN (As := [.int a]) (rest := []) ⟨hx, hb, hml, hown, hts⟩ (c_X1_has l D cI s.heap.size pi k0 k1 k2 k3 k4 k5 k6 k7 0 a ) ⟨va_cnB 1 hts gX3_borne_X1_has_n64 rfl rfl rfl (nwM_64 hN) (hts _ wd_X3_borne_5) (by decide +kernel) ⟨Nat.le_of_ble_eq_true rfl, Nat.le_of_ble_eq_true rfl⟩, (hts _ wd_X3_borne_4), (hts _ wd_X3_borne_6)⟩ (preV (wc := [(pi, .inr (1, [.ref k0, .ref k1, .ref k2, .ref k3, .ref k4, .ref k5, .ref k6, .ref k7, .int 0]))]) (ci := 1) (q0 := 1) hK hP hD hN [1] rfl (by decide) rfl rfl) rfl rfl hl.1 rfl (lv_room (Nat.le_of_ble_eq_true rfl)) dX3_borne_5 ⟨Nat.le_of_ble_eq_true rfl, Nat.le_of_ble_eq_true rfl⟩) hP hD hS hA [1] [0] rfl rfl (by decide) (by decide) (fun r_1 u H locs w_2 hP hD hS => ?_)
  have hP : va_P D vwCl [(x, .inr (3, [.ref cu, .ref pi, .ref sq, .ref fo, .ref bo, .int gl, .int td, .int le])), (pi, .inr (1, [.ref k0, .ref k1, .ref k2, .ref k3, .ref k4, .ref k5, .ref k6, .ref k7, .int 0]))] H := hP
  have hD : va_D A [(x, .inr (3, [.ref cu, .ref pi, .ref sq, .ref fo, .ref bo, .int gl, .int td, .int le])), (pi, .inr (1, [.ref k0, .ref k1, .ref k2, .ref k3, .ref k4, .ref k5, .ref k6, .ref k7, .int 0]))] := hD
  have w_2 : r_1 = bHas a (0 : Int32) := w_2
  refine lv_if_eq (tgt := 27) hx hb dX3_borne_8 (by decide) (fun c_4 => ?_) (fun c_4 => absurd (pf_X3_borne_1 a r_1 w_2 c_4) id)
  refine lv_ldc2 hx hb hown (hts _ wd_X3_borne_2) dX3_borne_27 ?_
  refine W.widen (k := 0) (n := 0) (Nat.le_of_ble_eq_true rfl) (Nat.le_of_ble_eq_true rfl) ?_
  exact fi_l () hx hb hr hlocks hK (hP.sub [0, 1] rfl) (hD.sub [0, 1] (by decide) rfl) hS (pf_X3_borne_2 a r_1 w_2 c_4) dX3_borne_30

theorem iw_X3_formsLeft_0_1 : ∀ w ∈ wsX10, w ∈ wsX3_formsLeft := fun w h => (List.mem_cons_of_mem _ (List.mem_append_left _ (List.mem_append_right _ h)))
theorem iw_X3_formsLeft_0_3 : ∀ w ∈ wsX30, w ∈ wsX3_formsLeft := fun w h => (List.mem_cons_of_mem _ (List.mem_append_left _ (List.mem_append_left _ (List.mem_append_right _ h))))
theorem wd_X3_formsLeft_0_1 : (.fieldLink RX3 32 "PourPlan" "forms" "[I" : Cond) ∈ wsX3_formsLeft := List.mem_of_getElem? (i := 1) rfl
theorem wd_X3_formsLeft_0_2 : (.fieldLink RX3 21 "PourPlan" "pieces" "LPourPlan$Pieces;" : Cond) ∈ wsX3_formsLeft := List.mem_of_getElem? (i := 2) rfl
set_option maxHeartbeats 1000000 in
theorem pf_X3_formsLeft_0_1 (ff : Nat → Int32) (s1 : Int32) (hf : ∀ j, j < 3 → ff j = 10) (hs : vp_in s1 3) : vp_in s1 3 := by
  exact hs
set_option maxHeartbeats 1000000 in
theorem pf_X3_formsLeft_0_2 (ff : Nat → Int32) (s1 : Int32) (v_1 : Int32) (hf : ∀ j, j < 3 → ff j = 10) (hs : vp_in s1 3) (ev_1 : v_1 = ff s1.toNatClampNeg) : v_1 = 10 := by
  first
  | (grind)
  | (have h4 := hf _ (cl_lt hs)
     grind)
set_option maxHeartbeats 4000000 in
set_option maxRecDepth 100000 in
theorem c_X3_formsLeft_0 (l : Launch) (D : va_G) (cI : ClassId) (sz : Nat) (x : Nat) (pi : Nat) (fo : Nat) (cu : Nat) (sq : Nat) (bo : Nat) (gl : Int32) (td : Int32) (le : Int32) (k0 : Nat) (k1 : Nat) (k2 : Nat) (k3 : Nat) (k4 : Nat) (k5 : Nat) (k6 : Nat) (k7 : Nat) (ff : Nat → Int32) (s1 : Int32) (d : Int32) (wo : Int32) (hf : ∀ j, j < 3 → ff j = 10) (hs : vp_in s1 3) : CtI l yX3_formsLeft wsX3_formsLeft 0 0 0 0 [.ref x, .int s1, .int d, .int wo] D [(cI, .int)] [(x, .inr (3, [.ref cu, .ref pi, .ref sq, .ref fo, .ref bo, .int gl, .int td, .int le])), (pi, .inr (1, [.ref k0, .ref k1, .ref k2, .ref k3, .ref k4, .ref k5, .ref k6, .ref k7, .int 0])), (fo, .inl (cI, 3, .inl ff))] sz (fun (r : Int32) (u : Unit) => r = 10) (fun (u : Unit) => [(x, .inr (3, [.ref cu, .ref pi, .ref sq, .ref fo, .ref bo, .int gl, .int td, .int le])), (pi, .inr (1, [.ref k0, .ref k1, .ref k2, .ref k3, .ref k4, .ref k5, .ref k6, .ref k7, .int 0])), (fo, .inl (cI, 3, .inl ff))]) := by
  refine Met.ofW (cc := cX3_formsLeft) (maxL := 6) (ret := (some .int)) (by decide) rfl ?_
  intro p e s m args below meth c s₁ B hml hv
  obtain ⟨rfl, hsz, hP, hK, hD0, hN⟩ := hv
  have hx := B.exec
  have hb := B.bytes
  have hr := B.returns
  have hts := atoms_spec (ws := wsX3_formsLeft) B.pre
  have hown : s.vm.findClass RX3 = some m.cls := findClass_of_methodNamed B.named
  have hlocks := B.notSynchronized
  subst hsz
  have hD := hD0.self (sz := s.heap.size)
  generalize hAe : va_A [(x, .inr (3, [.ref cu, .ref pi, .ref sq, .ref fo, .ref bo, .int gl, .int td, .int le])), (pi, .inr (1, [.ref k0, .ref k1, .ref k2, .ref k3, .ref k4, .ref k5, .ref k6, .ref k7, .int 0])), (fo, .inl (cI, 3, .inl ff))] s.heap.size = A at hD ⊢
  have hA : ∀ q : Nat, s.heap.size ≤ q → A q := fun q h => by rw [← hAe]; exact Or.inr h
  have hS : va_S A s.heap s.heap [] := va_S.rf
  have hl := lv_entry ([.ref x, .int s1, .int d, .int wo]) (n := 6) (Nat.le_of_ble_eq_true rfl)
  rw [lg_entry_eq]
  generalize (lg_sl ([.ref x, .int s1, .int d, .int wo]) ++ List.replicate (6 - (lg_sl ([.ref x, .int s1, .int d, .int wo])).length) Slot.unset).toArray = ls at hl ⊢
  have hl : lv_has ls 6 [(0, .ref x), (1, .int s1), (2, .int d), (3, .int wo)] := hl
  have hP0 := hP
  refine lv_aload_n hx hb dX3_formsLeft_0 rfl (lv_at hl 0 rfl) ?_
  refine va_get (D := D) (ci := 3) (v := .ref fo) (C := RX3) (T := TX3) (N := 8) hx hb hts iw_X3_formsLeft_0_3 hown hK hP 0 rfl rfl 3 (by decide) (hts _ wd_X3_formsLeft_0_1) (fun _ h9 => h9) rfl dX3_formsLeft_1 ?_
  refine lv_iload_n hx hb dX3_formsLeft_4 rfl (lv_at hl 1 rfl) ?_
  refine va_iald hx hb hK hP 2 0 rfl rfl (pf_X3_formsLeft_0_1 ff s1 hf hs) dX3_formsLeft_5 ?_
  refine lv_topi (fun v_1 ev_1 => ?_)
  refine lv_istore (lv' := [(4, .int v_1), (0, .ref x), (1, .int s1), (2, .int d), (3, .int wo)]) hx hb dX3_formsLeft_6 hl (by decide) rfl (fun ls hl => ?_)
  refine lv_iconst (v := 0) hx hb dX3_formsLeft_8 (by decide) ?_
  refine lv_istore (lv' := [(5, .int 0), (4, .int v_1), (0, .ref x), (1, .int s1), (2, .int d), (3, .int wo)]) hx hb dX3_formsLeft_9 hl (by decide) rfl (fun ls hl => ?_)
  refine lv_iload hx hb dX3_formsLeft_11 (lv_at hl 0 rfl) ?_
  refine lv_aload_n hx hb dX3_formsLeft_13 rfl (lv_at hl 2 rfl) ?_
  refine va_get (D := D) (ci := 3) (v := .ref pi) (C := RX3) (T := TX3) (N := 8) hx hb hts iw_X3_formsLeft_0_3 hown hK hP 0 rfl rfl 1 (by decide) (hts _ wd_X3_formsLeft_0_2) (fun _ h9 => h9) rfl dX3_formsLeft_14 ?_
  refine va_getN (D := D) (ci := 1) (v := .int 0) (C := RX1) (T := TX1) (N := 9) hx hb hts iw_X3_formsLeft_0_1 hown hK hP 1 rfl rfl 8 (by decide) (va_Nw.use rfl (nwF_53 hN)) (fun _ h9 => h9) rfl dX3_formsLeft_17 ?_
  refine lv_icmp_ge (tgt := 74) hx hb dX3_formsLeft_20 (by decide) (fun _ => ?_) (fun h => absurd (by decide) h)
  refine lv_iload hx hb dX3_formsLeft_74 (lv_at hl 1 rfl) ?_
  refine W.widen (k := 0) (n := 0) (Nat.le_of_ble_eq_true rfl) (Nat.le_of_ble_eq_true rfl) ?_
  exact fi_i () hx hb hr hlocks hK (hP.sub [0, 1, 2] rfl) (hD.sub [0, 1, 2] (by decide) rfl) hS (pf_X3_formsLeft_0_2 ff s1 v_1 hf hs ev_1) dX3_formsLeft_76

set_option maxHeartbeats 1000000 in
theorem pf_X3_free_1 (ff : Nat → Int32) (s1 : Int32) (d : Int32) (r_1 : Int32) (hf : ∀ j, j < 3 → ff j = 10) (w_2 : r_1 = bIn s1 (0 : Int32) (2 : Int32)) (c_4 : r_1 = 0) : (-1 : Int32) = an_free s1 d := by
  grind [bIn, an_free]
set_option maxHeartbeats 1000000 in
theorem pf_X3_free_2 (ff : Nat → Int32) (s1 : Int32) (d : Int32) (r_1 : Int32) (r_5 : Int32) (hf : ∀ j, j < 3 → ff j = 10) (w_2 : r_1 = bIn s1 (0 : Int32) (2 : Int32)) (c_4 : ¬ r_1 = 0) (w_6 : r_5 = bIn d 0 39) (c_8 : r_5 = 0) : (-1 : Int32) = an_free s1 d := by
  grind [bIn, an_free]
set_option maxHeartbeats 1000000 in
theorem pf_X3_free_3 (ff : Nat → Int32) (s1 : Int32) (d : Int32) (r_1 : Int32) (r_5 : Int32) (hf : ∀ j, j < 3 → ff j = 10) (w_2 : r_1 = bIn s1 (0 : Int32) (2 : Int32)) (c_4 : ¬ r_1 = 0) (w_6 : r_5 = bIn d 0 39) (c_8 : ¬ r_5 = 0) : ∀ j, j < 3 → ff j = 10 := by
  exact hf
set_option maxHeartbeats 1000000 in
theorem pf_X3_free_4 (ff : Nat → Int32) (s1 : Int32) (d : Int32) (r_1 : Int32) (r_5 : Int32) (hf : ∀ j, j < 3 → ff j = 10) (w_2 : r_1 = bIn s1 (0 : Int32) (2 : Int32)) (c_4 : ¬ r_1 = 0) (w_6 : r_5 = bIn d 0 39) (c_8 : ¬ r_5 = 0) : vp_in s1 3 := by
  exact vi_in (M := 3) rfl (by grind [bIn]) (by grind [bIn])
set_option maxHeartbeats 1000000 in
theorem pf_X3_free_5 (ff : Nat → Int32) (s1 : Int32) (d : Int32) (r_1 : Int32) (r_5 : Int32) (r_9 : Int32) (hf : ∀ j, j < 3 → ff j = 10) (w_2 : r_1 = bIn s1 (0 : Int32) (2 : Int32)) (c_4 : ¬ r_1 = 0) (w_6 : r_5 = bIn d 0 39) (c_8 : ¬ r_5 = 0) (w_10 : r_9 = 10) : r_9 = an_free s1 d := by
  grind [bIn, an_free]
set_option maxHeartbeats 4000000 in
set_option maxRecDepth 100000 in
theorem c_X3_free (l : Launch) (D : va_G) (cI : ClassId) (sz : Nat) (x : Nat) (pi : Nat) (fo : Nat) (cu : Nat) (sq : Nat) (bo : Nat) (gl : Int32) (td : Int32) (le : Int32) (k0 : Nat) (k1 : Nat) (k2 : Nat) (k3 : Nat) (k4 : Nat) (k5 : Nat) (k6 : Nat) (k7 : Nat) (ff : Nat → Int32) (s1 : Int32) (d : Int32) (hf : ∀ j, j < 3 → ff j = 10) : CtI l yX3_free wsX3_free 2 42 0 0 [.ref x, .int s1, .int d] D [(cI, .int)] [(x, .inr (3, [.ref cu, .ref pi, .ref sq, .ref fo, .ref bo, .int gl, .int td, .int le])), (pi, .inr (1, [.ref k0, .ref k1, .ref k2, .ref k3, .ref k4, .ref k5, .ref k6, .ref k7, .int 0])), (fo, .inl (cI, 3, .inl ff))] sz (fun (r : Int32) (u : Unit) => r = an_free s1 d) (fun (u : Unit) => [(x, .inr (3, [.ref cu, .ref pi, .ref sq, .ref fo, .ref bo, .int gl, .int td, .int le])), (pi, .inr (1, [.ref k0, .ref k1, .ref k2, .ref k3, .ref k4, .ref k5, .ref k6, .ref k7, .int 0])), (fo, .inl (cI, 3, .inl ff))]) := by
  refine Met.ofW (cc := cX3_free) (maxL := 3) (ret := (some .int)) (by decide) rfl ?_
  intro p e s m args below meth c s₁ B hml hv
  obtain ⟨rfl, hsz, hP, hK, hD0, hN⟩ := hv
  have hx := B.exec
  have hb := B.bytes
  have hr := B.returns
  have hts := atoms_spec (ws := wsX3_free) B.pre
  have hown : s.vm.findClass RX3 = some m.cls := findClass_of_methodNamed B.named
  have hlocks := B.notSynchronized
  subst hsz
  have hD := hD0.self (sz := s.heap.size)
  generalize hAe : va_A [(x, .inr (3, [.ref cu, .ref pi, .ref sq, .ref fo, .ref bo, .int gl, .int td, .int le])), (pi, .inr (1, [.ref k0, .ref k1, .ref k2, .ref k3, .ref k4, .ref k5, .ref k6, .ref k7, .int 0])), (fo, .inl (cI, 3, .inl ff))] s.heap.size = A at hD ⊢
  have hA : ∀ q : Nat, s.heap.size ≤ q → A q := fun q h => by rw [← hAe]; exact Or.inr h
  have hS : va_S A s.heap s.heap [] := va_S.rf
  have hl := lv_entry ([.ref x, .int s1, .int d]) (n := 3) (Nat.le_of_ble_eq_true rfl)
  rw [lg_entry_eq]
  generalize (lg_sl ([.ref x, .int s1, .int d]) ++ List.replicate (3 - (lg_sl ([.ref x, .int s1, .int d])).length) Slot.unset).toArray = ls at hl ⊢
  have hl : lv_has ls 3 [(0, .ref x), (1, .int s1), (2, .int d)] := hl
  have hP0 := hP
  refine lv_iload_n hx hb dX3_free_0 rfl (lv_at hl 1 rfl) ?_
  refine lv_iconst (v := 0) hx hb dX3_free_1 (by decide) ?_
  refine lv_iconst (v := 2) hx hb dX3_free_2 (by decide) ?_
  refine cc_i (wc := []) (wr := [(x, .inr (3, [.ref cu, .ref pi, .ref sq, .ref fo, .ref bo, .int gl, .int td, .int le])), (pi, .inr (1, [.ref k0, .ref k1, .ref k2, .ref k3, .ref k4, .ref k5, .ref k6, .ref k7, .int 0])), (fo, .inl (cI, 3, .inl ff))]) (va_runS (As := [.int s1, .int 0, .int 2]) (rest := []) ⟨hx, hb, hml, hown, hts⟩ (c_X3_isIn l D cI s.heap.size s1 0 2 ) (va_cwS 3 hts gX3_free_X3_isIn rfl rfl rfl (by decide +kernel) ⟨Nat.le_of_ble_eq_true rfl, Nat.le_of_ble_eq_true rfl⟩) (preS (wc := []) hK hP hD hN [] rfl (by decide)) rfl rfl hl.1 rfl (lv_room (Nat.le_of_ble_eq_true rfl)) dX3_free_3 ⟨Nat.le_of_ble_eq_true rfl, Nat.le_of_ble_eq_true rfl⟩) hP hD hS hA [] [0, 1, 2] rfl rfl (by decide) (by decide) (fun r_1 u H locs w_2 hP hD hS => ?_)
  have hP : va_P D vwCl [(x, .inr (3, [.ref cu, .ref pi, .ref sq, .ref fo, .ref bo, .int gl, .int td, .int le])), (pi, .inr (1, [.ref k0, .ref k1, .ref k2, .ref k3, .ref k4, .ref k5, .ref k6, .ref k7, .int 0])), (fo, .inl (cI, 3, .inl ff))] H := hP
  have hD : va_D A [(x, .inr (3, [.ref cu, .ref pi, .ref sq, .ref fo, .ref bo, .int gl, .int td, .int le])), (pi, .inr (1, [.ref k0, .ref k1, .ref k2, .ref k3, .ref k4, .ref k5, .ref k6, .ref k7, .int 0])), (fo, .inl (cI, 3, .inl ff))] := hD
  have w_2 : r_1 = bIn s1 (0 : Int32) (2 : Int32) := w_2
  refine lv_if_eq (tgt := 26) hx hb dX3_free_6 (by decide) (fun c_4 => ?_) (fun c_4 => ?_)
  · refine lv_iconst (v := (-1)) hx hb dX3_free_26 (by decide) ?_
    refine W.widen (k := 0) (n := 0) (Nat.le_of_ble_eq_true rfl) (Nat.le_of_ble_eq_true rfl) ?_
    exact fi_i () hx hb hr hlocks hK (hP.sub [0, 1, 2] rfl) (hD.sub [0, 1, 2] (by decide) rfl) hS (pf_X3_free_1 ff s1 d r_1 hf w_2 c_4) dX3_free_27
  · refine lv_iload_n hx hb dX3_free_9 rfl (lv_at hl 2 rfl) ?_
    refine cc_i (wc := []) (wr := [(x, .inr (3, [.ref cu, .ref pi, .ref sq, .ref fo, .ref bo, .int gl, .int td, .int le])), (pi, .inr (1, [.ref k0, .ref k1, .ref k2, .ref k3, .ref k4, .ref k5, .ref k6, .ref k7, .int 0])), (fo, .inl (cI, 3, .inl ff))]) (va_runS (As := [.int d]) (rest := []) ⟨hx, hb, hml, hown, hts⟩ (c_X3_isDay l D cI H.size d ) (va_cwS 1 hts gX3_free_X3_isDay rfl rfl rfl (by decide +kernel) ⟨Nat.le_of_ble_eq_true rfl, Nat.le_of_ble_eq_true rfl⟩) (preS (wc := []) hK hP hD hN [] rfl (by decide)) rfl rfl hl.1 rfl (lv_room (Nat.le_of_ble_eq_true rfl)) dX3_free_10 ⟨Nat.le_of_ble_eq_true rfl, Nat.le_of_ble_eq_true rfl⟩) hP hD hS hA [] [0, 1, 2] rfl rfl (by decide) (by decide) (fun r_5 u H locs w_6 hP hD hS => ?_)
    have hP : va_P D vwCl [(x, .inr (3, [.ref cu, .ref pi, .ref sq, .ref fo, .ref bo, .int gl, .int td, .int le])), (pi, .inr (1, [.ref k0, .ref k1, .ref k2, .ref k3, .ref k4, .ref k5, .ref k6, .ref k7, .int 0])), (fo, .inl (cI, 3, .inl ff))] H := hP
    have hD : va_D A [(x, .inr (3, [.ref cu, .ref pi, .ref sq, .ref fo, .ref bo, .int gl, .int td, .int le])), (pi, .inr (1, [.ref k0, .ref k1, .ref k2, .ref k3, .ref k4, .ref k5, .ref k6, .ref k7, .int 0])), (fo, .inl (cI, 3, .inl ff))] := hD
    have w_6 : r_5 = bIn d 0 39 := w_6
    refine lv_if_eq (tgt := 26) hx hb dX3_free_13 (by decide) (fun c_8 => ?_) (fun c_8 => ?_)
    · refine lv_iconst (v := (-1)) hx hb dX3_free_26 (by decide) ?_
      refine W.widen (k := 0) (n := 0) (Nat.le_of_ble_eq_true rfl) (Nat.le_of_ble_eq_true rfl) ?_
      exact fi_i () hx hb hr hlocks hK (hP.sub [0, 1, 2] rfl) (hD.sub [0, 1, 2] (by decide) rfl) hS (pf_X3_free_2 ff s1 d r_1 r_5 hf w_2 c_4 w_6 c_8) dX3_free_27
    · refine lv_aload_n hx hb dX3_free_16 rfl (lv_at hl 0 rfl) ?_
      refine lv_iload_n hx hb dX3_free_17 rfl (lv_at hl 1 rfl) ?_
      refine lv_iload_n hx hb dX3_free_18 rfl (lv_at hl 2 rfl) ?_
      refine lv_iconst (v := (-1)) hx hb dX3_free_19 (by decide) ?_
      refine cc_i (wc := [(x, .inr (3, [.ref cu, .ref pi, .ref sq, .ref fo, .ref bo, .int gl, .int td, .int le])), (pi, .inr (1, [.ref k0, .ref k1, .ref k2, .ref k3, .ref k4, .ref k5, .ref k6, .ref k7, .int 0])), (fo, .inl (cI, 3, .inl ff))]) (wr := []) (va_runV (As := [.int s1, .int d, .int (-1)]) (rest := []) ⟨hx, hb, hml, hown, hts⟩ (c_X3_formsLeft_0 l D cI H.size x pi fo cu sq bo gl td le k0 k1 k2 k3 k4 k5 k6 k7 ff s1 d (-1) (pf_X3_free_3 ff s1 d r_1 r_5 hf w_2 c_4 w_6 c_8) (pf_X3_free_4 ff s1 d r_1 r_5 hf w_2 c_4 w_6 c_8)) (cwV 3 hts gX3_free_X3_formsLeft rfl rfl rfl (by decide +kernel) ⟨Nat.le_of_ble_eq_true rfl, Nat.le_of_ble_eq_true rfl⟩) (preV (wc := [(x, .inr (3, [.ref cu, .ref pi, .ref sq, .ref fo, .ref bo, .int gl, .int td, .int le])), (pi, .inr (1, [.ref k0, .ref k1, .ref k2, .ref k3, .ref k4, .ref k5, .ref k6, .ref k7, .int 0])), (fo, .inl (cI, 3, .inl ff))]) (ci := 3) (q0 := 0) hK hP hD hN [0, 1, 2] rfl (by decide) rfl rfl) rfl rfl hl.1 rfl (lv_room (Nat.le_of_ble_eq_true rfl)) dX3_free_20 ⟨Nat.le_of_ble_eq_true rfl, Nat.le_of_ble_eq_true rfl⟩) hP hD hS hA [0, 1, 2] [] rfl rfl (by decide) (by decide) (fun r_9 u H locs w_10 hP hD hS => ?_)
      have hP : va_P D vwCl [(x, .inr (3, [.ref cu, .ref pi, .ref sq, .ref fo, .ref bo, .int gl, .int td, .int le])), (pi, .inr (1, [.ref k0, .ref k1, .ref k2, .ref k3, .ref k4, .ref k5, .ref k6, .ref k7, .int 0])), (fo, .inl (cI, 3, .inl ff))] H := hP
      have hD : va_D A [(x, .inr (3, [.ref cu, .ref pi, .ref sq, .ref fo, .ref bo, .int gl, .int td, .int le])), (pi, .inr (1, [.ref k0, .ref k1, .ref k2, .ref k3, .ref k4, .ref k5, .ref k6, .ref k7, .int 0])), (fo, .inl (cI, 3, .inl ff))] := hD
      have w_10 : r_9 = 10 := w_10
      refine lv_goto (tgt := 27) hx hb dX3_free_23 (by decide) ?_
      refine W.widen (k := 0) (n := 0) (Nat.le_of_ble_eq_true rfl) (Nat.le_of_ble_eq_true rfl) ?_
      exact fi_i () hx hb hr hlocks hK (hP.sub [0, 1, 2] rfl) (hD.sub [0, 1, 2] (by decide) rfl) hS (pf_X3_free_5 ff s1 d r_1 r_5 r_9 hf w_2 c_4 w_6 c_8 w_10) dX3_free_27

theorem iw_X3_volumeOn_0_1 : ∀ w ∈ wsX10, w ∈ wsX3_volumeOn := fun w h => (List.mem_cons_of_mem _ (List.mem_append_right _ h))
theorem iw_X3_volumeOn_0_3 : ∀ w ∈ wsX30, w ∈ wsX3_volumeOn := fun w h => (List.mem_cons_of_mem _ (List.mem_append_left _ (List.mem_append_right _ h)))
theorem wd_X3_volumeOn_0_1 : (.fieldLink RX3 21 "PourPlan" "pieces" "LPourPlan$Pieces;" : Cond) ∈ wsX3_volumeOn := List.mem_of_getElem? (i := 1) rfl
set_option maxHeartbeats 1000000 in
theorem pf_X3_volumeOn_0_1   : (0 : Int32) = 0 := by
  grind
set_option maxHeartbeats 4000000 in
set_option maxRecDepth 100000 in
theorem c_X3_volumeOn_0 (l : Launch) (D : va_G) (cI : ClassId) (sz : Nat) (x : Nat) (pi : Nat) (cu : Nat) (sq : Nat) (fo : Nat) (bo : Nat) (gl : Int32) (td : Int32) (le : Int32) (k0 : Nat) (k1 : Nat) (k2 : Nat) (k3 : Nat) (k4 : Nat) (k5 : Nat) (k6 : Nat) (k7 : Nat) (d : Int32) (wo : Int32) : CtI l yX3_volumeOn wsX3_volumeOn 0 0 0 0 [.ref x, .int d, .int wo] D [(cI, .int)] [(x, .inr (3, [.ref cu, .ref pi, .ref sq, .ref fo, .ref bo, .int gl, .int td, .int le])), (pi, .inr (1, [.ref k0, .ref k1, .ref k2, .ref k3, .ref k4, .ref k5, .ref k6, .ref k7, .int 0]))] sz (fun (r : Int32) (u : Unit) => r = 0) (fun (u : Unit) => [(x, .inr (3, [.ref cu, .ref pi, .ref sq, .ref fo, .ref bo, .int gl, .int td, .int le])), (pi, .inr (1, [.ref k0, .ref k1, .ref k2, .ref k3, .ref k4, .ref k5, .ref k6, .ref k7, .int 0]))]) := by
  refine Met.ofW (cc := cX3_volumeOn) (maxL := 5) (ret := (some .int)) (by decide) rfl ?_
  intro p e s m args below meth c s₁ B hml hv
  obtain ⟨rfl, hsz, hP, hK, hD0, hN⟩ := hv
  have hx := B.exec
  have hb := B.bytes
  have hr := B.returns
  have hts := atoms_spec (ws := wsX3_volumeOn) B.pre
  have hown : s.vm.findClass RX3 = some m.cls := findClass_of_methodNamed B.named
  have hlocks := B.notSynchronized
  subst hsz
  have hD := hD0.self (sz := s.heap.size)
  generalize hAe : va_A [(x, .inr (3, [.ref cu, .ref pi, .ref sq, .ref fo, .ref bo, .int gl, .int td, .int le])), (pi, .inr (1, [.ref k0, .ref k1, .ref k2, .ref k3, .ref k4, .ref k5, .ref k6, .ref k7, .int 0]))] s.heap.size = A at hD ⊢
  have hA : ∀ q : Nat, s.heap.size ≤ q → A q := fun q h => by rw [← hAe]; exact Or.inr h
  have hS : va_S A s.heap s.heap [] := va_S.rf
  have hl := lv_entry ([.ref x, .int d, .int wo]) (n := 5) (Nat.le_of_ble_eq_true rfl)
  rw [lg_entry_eq]
  generalize (lg_sl ([.ref x, .int d, .int wo]) ++ List.replicate (5 - (lg_sl ([.ref x, .int d, .int wo])).length) Slot.unset).toArray = ls at hl ⊢
  have hl : lv_has ls 5 [(0, .ref x), (1, .int d), (2, .int wo)] := hl
  have hP0 := hP
  refine lv_iconst (v := 0) hx hb dX3_volumeOn_0 (by decide) ?_
  refine lv_istore_n (lv' := [(3, .int 0), (0, .ref x), (1, .int d), (2, .int wo)]) hx hb dX3_volumeOn_1 rfl hl (by decide) rfl (fun ls hl => ?_)
  refine lv_iconst (v := 0) hx hb dX3_volumeOn_2 (by decide) ?_
  refine lv_istore (lv' := [(4, .int 0), (3, .int 0), (0, .ref x), (1, .int d), (2, .int wo)]) hx hb dX3_volumeOn_3 hl (by decide) rfl (fun ls hl => ?_)
  refine lv_iload hx hb dX3_volumeOn_5 (lv_at hl 0 rfl) ?_
  refine lv_aload_n hx hb dX3_volumeOn_7 rfl (lv_at hl 2 rfl) ?_
  refine va_get (D := D) (ci := 3) (v := .ref pi) (C := RX3) (T := TX3) (N := 8) hx hb hts iw_X3_volumeOn_0_3 hown hK hP 0 rfl rfl 1 (by decide) (hts _ wd_X3_volumeOn_0_1) (fun _ h9 => h9) rfl dX3_volumeOn_8 ?_
  refine va_getN (D := D) (ci := 1) (v := .int 0) (C := RX1) (T := TX1) (N := 9) hx hb hts iw_X3_volumeOn_0_1 hown hK hP 1 rfl rfl 8 (by decide) (va_Nw.use rfl (nwF_53 hN)) (fun _ h9 => h9) rfl dX3_volumeOn_11 ?_
  refine lv_icmp_ge (tgt := 56) hx hb dX3_volumeOn_14 (by decide) (fun _ => ?_) (fun h => absurd (by decide) h)
  refine lv_iload_n hx hb dX3_volumeOn_56 rfl (lv_at hl 1 rfl) ?_
  refine W.widen (k := 0) (n := 0) (Nat.le_of_ble_eq_true rfl) (Nat.le_of_ble_eq_true rfl) ?_
  exact fi_i () hx hb hr hlocks hK (hP.sub [0, 1] rfl) (hD.sub [0, 1] (by decide) rfl) hS (pf_X3_volumeOn_0_1) dX3_volumeOn_57

set_option maxHeartbeats 1000000 in
theorem pf_X3_poured_1 (d : Int32) (r_1 : Int32) (w_2 : r_1 = bIn d 0 39) (c_4 : r_1 = 0) : (-1 : Int32) = an_poured d := by
  grind [bIn, an_poured]
set_option maxHeartbeats 1000000 in
theorem pf_X3_poured_2 (d : Int32) (r_1 : Int32) (r_5 : Int32) (w_2 : r_1 = bIn d 0 39) (c_4 : ¬ r_1 = 0) (w_6 : r_5 = 0) : r_5 = an_poured d := by
  grind [bIn, an_poured]
set_option maxHeartbeats 4000000 in
set_option maxRecDepth 100000 in
theorem c_X3_poured (l : Launch) (D : va_G) (cI : ClassId) (sz : Nat) (x : Nat) (pi : Nat) (cu : Nat) (sq : Nat) (fo : Nat) (bo : Nat) (gl : Int32) (td : Int32) (le : Int32) (k0 : Nat) (k1 : Nat) (k2 : Nat) (k3 : Nat) (k4 : Nat) (k5 : Nat) (k6 : Nat) (k7 : Nat) (d : Int32) : CtI l yX3_poured wsX3_poured 2 42 0 0 [.ref x, .int d] D [(cI, .int)] [(x, .inr (3, [.ref cu, .ref pi, .ref sq, .ref fo, .ref bo, .int gl, .int td, .int le])), (pi, .inr (1, [.ref k0, .ref k1, .ref k2, .ref k3, .ref k4, .ref k5, .ref k6, .ref k7, .int 0]))] sz (fun (r : Int32) (u : Unit) => r = an_poured d) (fun (u : Unit) => [(x, .inr (3, [.ref cu, .ref pi, .ref sq, .ref fo, .ref bo, .int gl, .int td, .int le])), (pi, .inr (1, [.ref k0, .ref k1, .ref k2, .ref k3, .ref k4, .ref k5, .ref k6, .ref k7, .int 0]))]) := by
  refine Met.ofW (cc := cX3_poured) (maxL := 2) (ret := (some .int)) (by decide) rfl ?_
  intro p e s m args below meth c s₁ B hml hv
  obtain ⟨rfl, hsz, hP, hK, hD0, hN⟩ := hv
  have hx := B.exec
  have hb := B.bytes
  have hr := B.returns
  have hts := atoms_spec (ws := wsX3_poured) B.pre
  have hown : s.vm.findClass RX3 = some m.cls := findClass_of_methodNamed B.named
  have hlocks := B.notSynchronized
  subst hsz
  have hD := hD0.self (sz := s.heap.size)
  generalize hAe : va_A [(x, .inr (3, [.ref cu, .ref pi, .ref sq, .ref fo, .ref bo, .int gl, .int td, .int le])), (pi, .inr (1, [.ref k0, .ref k1, .ref k2, .ref k3, .ref k4, .ref k5, .ref k6, .ref k7, .int 0]))] s.heap.size = A at hD ⊢
  have hA : ∀ q : Nat, s.heap.size ≤ q → A q := fun q h => by rw [← hAe]; exact Or.inr h
  have hS : va_S A s.heap s.heap [] := va_S.rf
  have hl := lv_entry ([.ref x, .int d]) (n := 2) (Nat.le_of_ble_eq_true rfl)
  rw [lg_entry_eq]
  generalize (lg_sl ([.ref x, .int d]) ++ List.replicate (2 - (lg_sl ([.ref x, .int d])).length) Slot.unset).toArray = ls at hl ⊢
  have hl : lv_has ls 2 [(0, .ref x), (1, .int d)] := hl
  have hP0 := hP
  refine lv_iload_n hx hb dX3_poured_0 rfl (lv_at hl 1 rfl) ?_
  refine cc_i (wc := []) (wr := [(x, .inr (3, [.ref cu, .ref pi, .ref sq, .ref fo, .ref bo, .int gl, .int td, .int le])), (pi, .inr (1, [.ref k0, .ref k1, .ref k2, .ref k3, .ref k4, .ref k5, .ref k6, .ref k7, .int 0]))]) (va_runS (As := [.int d]) (rest := []) ⟨hx, hb, hml, hown, hts⟩ (c_X3_isDay l D cI s.heap.size d ) (va_cwS 1 hts gX3_poured_X3_isDay rfl rfl rfl (by decide +kernel) ⟨Nat.le_of_ble_eq_true rfl, Nat.le_of_ble_eq_true rfl⟩) (preS (wc := []) hK hP hD hN [] rfl (by decide)) rfl rfl hl.1 rfl (lv_room (Nat.le_of_ble_eq_true rfl)) dX3_poured_1 ⟨Nat.le_of_ble_eq_true rfl, Nat.le_of_ble_eq_true rfl⟩) hP hD hS hA [] [0, 1] rfl rfl (by decide) (by decide) (fun r_1 u H locs w_2 hP hD hS => ?_)
  have hP : va_P D vwCl [(x, .inr (3, [.ref cu, .ref pi, .ref sq, .ref fo, .ref bo, .int gl, .int td, .int le])), (pi, .inr (1, [.ref k0, .ref k1, .ref k2, .ref k3, .ref k4, .ref k5, .ref k6, .ref k7, .int 0]))] H := hP
  have hD : va_D A [(x, .inr (3, [.ref cu, .ref pi, .ref sq, .ref fo, .ref bo, .int gl, .int td, .int le])), (pi, .inr (1, [.ref k0, .ref k1, .ref k2, .ref k3, .ref k4, .ref k5, .ref k6, .ref k7, .int 0]))] := hD
  have w_2 : r_1 = bIn d 0 39 := w_2
  refine lv_if_eq (tgt := 16) hx hb dX3_poured_4 (by decide) (fun c_4 => ?_) (fun c_4 => ?_)
  · refine lv_iconst (v := (-1)) hx hb dX3_poured_16 (by decide) ?_
    refine W.widen (k := 0) (n := 0) (Nat.le_of_ble_eq_true rfl) (Nat.le_of_ble_eq_true rfl) ?_
    exact fi_i () hx hb hr hlocks hK (hP.sub [0, 1] rfl) (hD.sub [0, 1] (by decide) rfl) hS (pf_X3_poured_1 d r_1 w_2 c_4) dX3_poured_17
  · refine lv_aload_n hx hb dX3_poured_7 rfl (lv_at hl 0 rfl) ?_
    refine lv_iload_n hx hb dX3_poured_8 rfl (lv_at hl 1 rfl) ?_
    refine lv_iconst (v := (-1)) hx hb dX3_poured_9 (by decide) ?_
    refine cc_i (wc := [(x, .inr (3, [.ref cu, .ref pi, .ref sq, .ref fo, .ref bo, .int gl, .int td, .int le])), (pi, .inr (1, [.ref k0, .ref k1, .ref k2, .ref k3, .ref k4, .ref k5, .ref k6, .ref k7, .int 0]))]) (wr := []) (va_runV (As := [.int d, .int (-1)]) (rest := []) ⟨hx, hb, hml, hown, hts⟩ (c_X3_volumeOn_0 l D cI H.size x pi cu sq fo bo gl td le k0 k1 k2 k3 k4 k5 k6 k7 d (-1) ) (cwV 2 hts gX3_poured_X3_volumeOn rfl rfl rfl (by decide +kernel) ⟨Nat.le_of_ble_eq_true rfl, Nat.le_of_ble_eq_true rfl⟩) (preV (wc := [(x, .inr (3, [.ref cu, .ref pi, .ref sq, .ref fo, .ref bo, .int gl, .int td, .int le])), (pi, .inr (1, [.ref k0, .ref k1, .ref k2, .ref k3, .ref k4, .ref k5, .ref k6, .ref k7, .int 0]))]) (ci := 3) (q0 := 0) hK hP hD hN [0, 1] rfl (by decide) rfl rfl) rfl rfl hl.1 rfl (lv_room (Nat.le_of_ble_eq_true rfl)) dX3_poured_10 ⟨Nat.le_of_ble_eq_true rfl, Nat.le_of_ble_eq_true rfl⟩) hP hD hS hA [0, 1] [] rfl rfl (by decide) (by decide) (fun r_5 u H locs w_6 hP hD hS => ?_)
    have hP : va_P D vwCl [(x, .inr (3, [.ref cu, .ref pi, .ref sq, .ref fo, .ref bo, .int gl, .int td, .int le])), (pi, .inr (1, [.ref k0, .ref k1, .ref k2, .ref k3, .ref k4, .ref k5, .ref k6, .ref k7, .int 0]))] H := hP
    have hD : va_D A [(x, .inr (3, [.ref cu, .ref pi, .ref sq, .ref fo, .ref bo, .int gl, .int td, .int le])), (pi, .inr (1, [.ref k0, .ref k1, .ref k2, .ref k3, .ref k4, .ref k5, .ref k6, .ref k7, .int 0]))] := hD
    have w_6 : r_5 = 0 := w_6
    refine lv_goto (tgt := 17) hx hb dX3_poured_13 (by decide) ?_
    refine W.widen (k := 0) (n := 0) (Nat.le_of_ble_eq_true rfl) (Nat.le_of_ble_eq_true rfl) ?_
    exact fi_i () hx hb hr hlocks hK (hP.sub [0, 1] rfl) (hD.sub [0, 1] (by decide) rfl) hS (pf_X3_poured_2 d r_1 r_5 w_2 c_4 w_6) dX3_poured_17

theorem iw_X3_count_0 : ∀ w ∈ wsX00, w ∈ wsX3_count := fun w h => (List.mem_cons_of_mem _ (List.mem_append_right _ h))
theorem iw_X3_count_1 : ∀ w ∈ wsX10, w ∈ wsX3_count := fun w h => (List.mem_cons_of_mem _ (List.mem_append_left _ (List.mem_append_right _ h)))
theorem iw_X3_count_3 : ∀ w ∈ wsX30, w ∈ wsX3_count := fun w h => (List.mem_cons_of_mem _ (List.mem_append_left _ (List.mem_append_left _ (List.mem_append_right _ h))))
theorem wd_X3_count_1 : (.fieldLink RX3 21 "PourPlan" "pieces" "LPourPlan$Pieces;" : Cond) ∈ wsX3_count := List.mem_of_getElem? (i := 1) rfl
theorem wd_X3_count_2 : (.fieldLink RX3 43 "PourPlan" "today" "I" : Cond) ∈ wsX3_count := List.mem_of_getElem? (i := 2) rfl
theorem wd_X3_count_3 : (.fieldLink RX3 14 "PourPlan" "curing" "LPourPlan$Curing;" : Cond) ∈ wsX3_count := List.mem_of_getElem? (i := 3) rfl
theorem wd_X3_count_4 : (.fieldLink RX3 39 "PourPlan" "gangLimit" "I" : Cond) ∈ wsX3_count := List.mem_of_getElem? (i := 4) rfl
theorem wd_X3_count_5 : (.fieldLink RX3 46 "PourPlan" "latestEnd" "I" : Cond) ∈ wsX3_count := List.mem_of_getElem? (i := 5) rfl
theorem wd_X3_count_6 : (.instanceMethod yX1_howManyPoured : Cond) ∈ wsX3_count := List.mem_of_getElem? (i := 6) rfl
theorem wd_X3_count_7 : (.initialized RX1 : Cond) ∈ wsX3_count := List.mem_of_getElem? (i := 7) rfl
theorem wd_X3_count_8 : (.selects RX1 yX1_howManyPoured yX1_howManyPoured : Cond) ∈ wsX3_count := List.mem_of_getElem? (i := 8) rfl
set_option maxHeartbeats 1000000 in
theorem pf_X3_count_1 (w : Int32) (c_1 : w = 0) : (0 : Int32) = an_count w := by
  grind [an_count]
set_option maxHeartbeats 1000000 in
theorem pf_X3_count_2 (w : Int32) (r_3 : Int32) (c_1 : ¬ w = 0) (c_2 : w = 1) (w_4 : r_3 = 0) : r_3 = an_count w := by
  grind [an_count]
set_option maxHeartbeats 1000000 in
theorem pf_X3_count_3 (w : Int32) (c_1 : ¬ w = 0) (c_2 : ¬ w = 1) (c_6 : w = 2) : (0 : Int32) = an_count w := by
  grind [an_count]
set_option maxHeartbeats 1000000 in
theorem pf_X3_count_4 (w : Int32) (c_1 : ¬ w = 0) (c_2 : ¬ w = 1) (c_6 : ¬ w = 2) (c_7 : w = 3) : (0 : Int32) = an_count w := by
  grind [an_count]
set_option maxHeartbeats 1000000 in
theorem pf_X3_count_5 (w : Int32) (c_1 : ¬ w = 0) (c_2 : ¬ w = 1) (c_6 : ¬ w = 2) (c_7 : ¬ w = 3) (c_8 : w = 4) : (100 : Int32) = an_count w := by
  grind [an_count]
set_option maxHeartbeats 1000000 in
theorem pf_X3_count_6 (w : Int32) (c_1 : ¬ w = 0) (c_2 : ¬ w = 1) (c_6 : ¬ w = 2) (c_7 : ¬ w = 3) (c_8 : ¬ w = 4) (c_9 : w = 5) : (0 : Int32) = an_count w := by
  grind [an_count]
set_option maxHeartbeats 1000000 in
theorem pf_X3_count_7 (w : Int32) (c_1 : ¬ w = 0) (c_2 : ¬ w = 1) (c_6 : ¬ w = 2) (c_7 : ¬ w = 3) (c_8 : ¬ w = 4) (c_9 : ¬ w = 5) (c_10 : w = 6) : (0 : Int32) = an_count w := by
  grind [an_count]
set_option maxHeartbeats 1000000 in
theorem pf_X3_count_8 (w : Int32) (c_1 : ¬ w = 0) (c_2 : ¬ w = 1) (c_6 : ¬ w = 2) (c_7 : ¬ w = 3) (c_8 : ¬ w = 4) (c_9 : ¬ w = 5) (c_10 : ¬ w = 6) : (w).toInt < 0 ∨ 6 < (w).toInt := by
  exact tb_out (M := 6) rfl (by grind)
set_option maxHeartbeats 1000000 in
theorem pf_X3_count_9 (w : Int32) (c_1 : ¬ w = 0) (c_2 : ¬ w = 1) (c_6 : ¬ w = 2) (c_7 : ¬ w = 3) (c_8 : ¬ w = 4) (c_9 : ¬ w = 5) (c_10 : ¬ w = 6) : (-1 : Int32) = an_count w := by
  grind [an_count]
set_option maxHeartbeats 4000000 in
set_option maxRecDepth 100000 in
theorem c_X3_count (l : Launch) (D : va_G) (cI : ClassId) (sz : Nat) (x : Nat) (pi : Nat) (cu : Nat) (sq : Nat) (fo : Nat) (bo : Nat) (k0 : Nat) (k1 : Nat) (k2 : Nat) (k3 : Nat) (k4 : Nat) (k5 : Nat) (k6 : Nat) (k7 : Nat) (a0 : Nat) (a1 : Nat) (a2 : Nat) (a3 : Nat) (a4 : Nat) (a5 : Nat) (w : Int32) : CtI l yX3_count wsX3_count 1 22 0 0 [.ref x, .int w] D [(cI, .int)] [(x, .inr (3, [.ref cu, .ref pi, .ref sq, .ref fo, .ref bo, .int 100, .int 0, .int 0])), (pi, .inr (1, [.ref k0, .ref k1, .ref k2, .ref k3, .ref k4, .ref k5, .ref k6, .ref k7, .int 0])), (cu, .inr (0, [.ref a0, .ref a1, .ref a2, .ref a3, .ref a4, .ref a5, .int 0, .int 0]))] sz (fun (r : Int32) (u : Unit) => r = an_count w) (fun (u : Unit) => [(x, .inr (3, [.ref cu, .ref pi, .ref sq, .ref fo, .ref bo, .int 100, .int 0, .int 0])), (pi, .inr (1, [.ref k0, .ref k1, .ref k2, .ref k3, .ref k4, .ref k5, .ref k6, .ref k7, .int 0])), (cu, .inr (0, [.ref a0, .ref a1, .ref a2, .ref a3, .ref a4, .ref a5, .int 0, .int 0]))]) := by
  refine Met.ofW (cc := cX3_count) (maxL := 2) (ret := (some .int)) (by decide) rfl ?_
  intro p e s m args below meth c s₁ B hml hv
  obtain ⟨rfl, hsz, hP, hK, hD0, hN⟩ := hv
  have hx := B.exec
  have hb := B.bytes
  have hr := B.returns
  have hts := atoms_spec (ws := wsX3_count) B.pre
  have hown : s.vm.findClass RX3 = some m.cls := findClass_of_methodNamed B.named
  have hlocks := B.notSynchronized
  subst hsz
  have hD := hD0.self (sz := s.heap.size)
  generalize hAe : va_A [(x, .inr (3, [.ref cu, .ref pi, .ref sq, .ref fo, .ref bo, .int 100, .int 0, .int 0])), (pi, .inr (1, [.ref k0, .ref k1, .ref k2, .ref k3, .ref k4, .ref k5, .ref k6, .ref k7, .int 0])), (cu, .inr (0, [.ref a0, .ref a1, .ref a2, .ref a3, .ref a4, .ref a5, .int 0, .int 0]))] s.heap.size = A at hD ⊢
  have hA : ∀ q : Nat, s.heap.size ≤ q → A q := fun q h => by rw [← hAe]; exact Or.inr h
  have hS : va_S A s.heap s.heap [] := va_S.rf
  have hl := lv_entry ([.ref x, .int w]) (n := 2) (Nat.le_of_ble_eq_true rfl)
  rw [lg_entry_eq]
  generalize (lg_sl ([.ref x, .int w]) ++ List.replicate (2 - (lg_sl ([.ref x, .int w])).length) Slot.unset).toArray = ls at hl ⊢
  have hl : lv_has ls 2 [(0, .ref x), (1, .int w)] := hl
  have hP0 := hP
  refine lv_iload_n hx hb dX3_count_0 rfl (lv_at hl 1 rfl) ?_
  by_cases c_1 : w = 0
  · refine lv_tableIn (off := 43) (tgt := 44) hx hb dX3_count_1 (by rw [c_1]; decide) (by rw [c_1]; decide) (by rw [c_1]; rfl) (by decide) ?_
    refine lv_aload_n hx hb dX3_count_44 rfl (lv_at hl 0 rfl) ?_
    refine va_get (D := D) (ci := 3) (v := .ref pi) (C := RX3) (T := TX3) (N := 8) hx hb hts iw_X3_count_3 hown hK hP 0 rfl rfl 1 (by decide) (hts _ wd_X3_count_1) (fun _ h9 => h9) rfl dX3_count_45 ?_
    refine va_getN (D := D) (ci := 1) (v := .int 0) (C := RX1) (T := TX1) (N := 9) hx hb hts iw_X3_count_1 hown hK hP 1 rfl rfl 8 (by decide) (va_Nw.use rfl (nwF_53 hN)) (fun _ h9 => h9) rfl dX3_count_48 ?_
    refine W.widen (k := 0) (n := 0) (Nat.le_of_ble_eq_true rfl) (Nat.le_of_ble_eq_true rfl) ?_
    exact fi_i () hx hb hr hlocks hK (hP.sub [0, 1, 2] rfl) (hD.sub [0, 1, 2] (by decide) rfl) hS (pf_X3_count_1 w c_1) dX3_count_51
  by_cases c_2 : w = 1
  · refine lv_tableIn (off := 51) (tgt := 52) hx hb dX3_count_1 (by rw [c_2]; decide) (by rw [c_2]; decide) (by rw [c_2]; rfl) (by decide) ?_
    refine lv_aload_n hx hb dX3_count_52 rfl (lv_at hl 0 rfl) ?_
    refine va_get (D := D) (ci := 3) (v := .ref pi) (C := RX3) (T := TX3) (N := 8) hx hb hts iw_X3_count_3 hown hK hP 0 rfl rfl 1 (by decide) (hts _ wd_X3_count_1) (fun _ h9 => h9) rfl dX3_count_53 ?_
    refine cc_i (wc := [(pi, .inr (1, [.ref k0, .ref k1, .ref k2, .ref k3, .ref k4, .ref k5, .ref k6, .ref k7, .int 0]))]) (wr := [(x, .inr (3, [.ref cu, .ref pi, .ref sq, .ref fo, .ref bo, .int 100, .int 0, .int 0])), (cu, .inr (0, [.ref a0, .ref a1, .ref a2, .ref a3, .ref a4, .ref a5, .int 0, .int 0]))]) (va_runVN (As := []) (rest := []) ⟨hx, hb, hml, hown, hts⟩ (c_X1_howManyPoured_0 l D cI s.heap.size pi k0 k1 k2 k3 k4 k5 k6 k7 ) ⟨va_cnB 0 hts gX3_count_X1_howManyPoured_n198 rfl rfl rfl (nwM_198 hN) (hts _ wd_X3_count_7) (by decide +kernel) ⟨Nat.le_of_ble_eq_true rfl, Nat.le_of_ble_eq_true rfl⟩, (hts _ wd_X3_count_6), (hts _ wd_X3_count_8)⟩ (preV (wc := [(pi, .inr (1, [.ref k0, .ref k1, .ref k2, .ref k3, .ref k4, .ref k5, .ref k6, .ref k7, .int 0]))]) (ci := 1) (q0 := 1) hK hP hD hN [1] rfl (by decide) rfl rfl) rfl rfl hl.1 rfl (lv_room (Nat.le_of_ble_eq_true rfl)) dX3_count_56 ⟨Nat.le_of_ble_eq_true rfl, Nat.le_of_ble_eq_true rfl⟩) hP hD hS hA [1] [0, 2] rfl rfl (by decide) (by decide) (fun r_3 u H locs w_4 hP hD hS => ?_)
    have hP : va_P D vwCl [(x, .inr (3, [.ref cu, .ref pi, .ref sq, .ref fo, .ref bo, .int 100, .int 0, .int 0])), (cu, .inr (0, [.ref a0, .ref a1, .ref a2, .ref a3, .ref a4, .ref a5, .int 0, .int 0])), (pi, .inr (1, [.ref k0, .ref k1, .ref k2, .ref k3, .ref k4, .ref k5, .ref k6, .ref k7, .int 0]))] H := hP
    have hD : va_D A [(x, .inr (3, [.ref cu, .ref pi, .ref sq, .ref fo, .ref bo, .int 100, .int 0, .int 0])), (cu, .inr (0, [.ref a0, .ref a1, .ref a2, .ref a3, .ref a4, .ref a5, .int 0, .int 0])), (pi, .inr (1, [.ref k0, .ref k1, .ref k2, .ref k3, .ref k4, .ref k5, .ref k6, .ref k7, .int 0]))] := hD
    have w_4 : r_3 = 0 := w_4
    refine W.widen (k := 0) (n := 0) (Nat.le_of_ble_eq_true rfl) (Nat.le_of_ble_eq_true rfl) ?_
    exact fi_i () hx hb hr hlocks hK (hP.sub [0, 2, 1] rfl) (hD.sub [0, 2, 1] (by decide) rfl) hS (pf_X3_count_2 w r_3 c_1 c_2 w_4) dX3_count_59
  by_cases c_6 : w = 2
  · refine lv_tableIn (off := 59) (tgt := 60) hx hb dX3_count_1 (by rw [c_6]; decide) (by rw [c_6]; decide) (by rw [c_6]; rfl) (by decide) ?_
    refine lv_aload_n hx hb dX3_count_60 rfl (lv_at hl 0 rfl) ?_
    refine va_get (D := D) (ci := 3) (v := .int 0) (C := RX3) (T := TX3) (N := 8) hx hb hts iw_X3_count_3 hown hK hP 0 rfl rfl 6 (by decide) (hts _ wd_X3_count_2) (fun _ h9 => h9) rfl dX3_count_61 ?_
    refine W.widen (k := 0) (n := 0) (Nat.le_of_ble_eq_true rfl) (Nat.le_of_ble_eq_true rfl) ?_
    exact fi_i () hx hb hr hlocks hK (hP.sub [0, 1, 2] rfl) (hD.sub [0, 1, 2] (by decide) rfl) hS (pf_X3_count_3 w c_1 c_2 c_6) dX3_count_64
  by_cases c_7 : w = 3
  · refine lv_tableIn (off := 64) (tgt := 65) hx hb dX3_count_1 (by rw [c_7]; decide) (by rw [c_7]; decide) (by rw [c_7]; rfl) (by decide) ?_
    refine lv_aload_n hx hb dX3_count_65 rfl (lv_at hl 0 rfl) ?_
    refine va_get (D := D) (ci := 3) (v := .ref cu) (C := RX3) (T := TX3) (N := 8) hx hb hts iw_X3_count_3 hown hK hP 0 rfl rfl 0 (by decide) (hts _ wd_X3_count_3) (fun _ h9 => h9) rfl dX3_count_66 ?_
    refine va_getN (D := D) (ci := 0) (v := .int 0) (C := RX0) (T := TX0) (N := 8) hx hb hts iw_X3_count_0 hown hK hP 2 rfl rfl 7 (by decide) (va_Nw.use rfl (nwF_98 hN)) (fun _ h9 => h9) rfl dX3_count_69 ?_
    refine W.widen (k := 0) (n := 0) (Nat.le_of_ble_eq_true rfl) (Nat.le_of_ble_eq_true rfl) ?_
    exact fi_i () hx hb hr hlocks hK (hP.sub [0, 1, 2] rfl) (hD.sub [0, 1, 2] (by decide) rfl) hS (pf_X3_count_4 w c_1 c_2 c_6 c_7) dX3_count_72
  by_cases c_8 : w = 4
  · refine lv_tableIn (off := 72) (tgt := 73) hx hb dX3_count_1 (by rw [c_8]; decide) (by rw [c_8]; decide) (by rw [c_8]; rfl) (by decide) ?_
    refine lv_aload_n hx hb dX3_count_73 rfl (lv_at hl 0 rfl) ?_
    refine va_get (D := D) (ci := 3) (v := .int 100) (C := RX3) (T := TX3) (N := 8) hx hb hts iw_X3_count_3 hown hK hP 0 rfl rfl 5 (by decide) (hts _ wd_X3_count_4) (fun _ h9 => h9) rfl dX3_count_74 ?_
    refine W.widen (k := 0) (n := 0) (Nat.le_of_ble_eq_true rfl) (Nat.le_of_ble_eq_true rfl) ?_
    exact fi_i () hx hb hr hlocks hK (hP.sub [0, 1, 2] rfl) (hD.sub [0, 1, 2] (by decide) rfl) hS (pf_X3_count_5 w c_1 c_2 c_6 c_7 c_8) dX3_count_77
  by_cases c_9 : w = 5
  · refine lv_tableIn (off := 77) (tgt := 78) hx hb dX3_count_1 (by rw [c_9]; decide) (by rw [c_9]; decide) (by rw [c_9]; rfl) (by decide) ?_
    refine lv_aload_n hx hb dX3_count_78 rfl (lv_at hl 0 rfl) ?_
    refine va_get (D := D) (ci := 3) (v := .ref cu) (C := RX3) (T := TX3) (N := 8) hx hb hts iw_X3_count_3 hown hK hP 0 rfl rfl 0 (by decide) (hts _ wd_X3_count_3) (fun _ h9 => h9) rfl dX3_count_79 ?_
    refine va_getN (D := D) (ci := 0) (v := .int 0) (C := RX0) (T := TX0) (N := 8) hx hb hts iw_X3_count_0 hown hK hP 2 rfl rfl 6 (by decide) (va_Nw.use rfl (nwF_92 hN)) (fun _ h9 => h9) rfl dX3_count_82 ?_
    refine W.widen (k := 0) (n := 0) (Nat.le_of_ble_eq_true rfl) (Nat.le_of_ble_eq_true rfl) ?_
    exact fi_i () hx hb hr hlocks hK (hP.sub [0, 1, 2] rfl) (hD.sub [0, 1, 2] (by decide) rfl) hS (pf_X3_count_6 w c_1 c_2 c_6 c_7 c_8 c_9) dX3_count_85
  by_cases c_10 : w = 6
  · refine lv_tableIn (off := 85) (tgt := 86) hx hb dX3_count_1 (by rw [c_10]; decide) (by rw [c_10]; decide) (by rw [c_10]; rfl) (by decide) ?_
    refine lv_aload_n hx hb dX3_count_86 rfl (lv_at hl 0 rfl) ?_
    refine va_get (D := D) (ci := 3) (v := .int 0) (C := RX3) (T := TX3) (N := 8) hx hb hts iw_X3_count_3 hown hK hP 0 rfl rfl 7 (by decide) (hts _ wd_X3_count_5) (fun _ h9 => h9) rfl dX3_count_87 ?_
    refine W.widen (k := 0) (n := 0) (Nat.le_of_ble_eq_true rfl) (Nat.le_of_ble_eq_true rfl) ?_
    exact fi_i () hx hb hr hlocks hK (hP.sub [0, 1, 2] rfl) (hD.sub [0, 1, 2] (by decide) rfl) hS (pf_X3_count_7 w c_1 c_2 c_6 c_7 c_8 c_9 c_10) dX3_count_90
  refine lv_tableOut (tgt := 91) hx hb dX3_count_1 (pf_X3_count_8 w c_1 c_2 c_6 c_7 c_8 c_9 c_10) (by decide) ?_
  refine lv_iconst (v := (-1)) hx hb dX3_count_91 (by decide) ?_
  refine W.widen (k := 0) (n := 0) (Nat.le_of_ble_eq_true rfl) (Nat.le_of_ble_eq_true rfl) ?_
  exact fi_i () hx hb hr hlocks hK (hP.sub [0, 1, 2] rfl) (hD.sub [0, 1, 2] (by decide) rfl) hS (pf_X3_count_9 w c_1 c_2 c_6 c_7 c_8 c_9 c_10) dX3_count_92

theorem iw_X3_piece_1 : ∀ w ∈ wsX10, w ∈ wsX3_piece := fun w h => (List.mem_cons_of_mem _ (List.mem_append_left _ (List.mem_append_right _ h)))
theorem iw_X3_piece_3 : ∀ w ∈ wsX30, w ∈ wsX3_piece := fun w h => (List.mem_cons_of_mem _ (List.mem_append_left _ (List.mem_append_left _ (List.mem_append_right _ h))))
theorem wd_X3_piece_1 : (.fieldLink RX3 21 "PourPlan" "pieces" "LPourPlan$Pieces;" : Cond) ∈ wsX3_piece := List.mem_of_getElem? (i := 1) rfl
theorem wd_X3_piece_2 : (.fieldLink RX3 28 "PourPlan" "sequence" "LPourPlan$Sequence;" : Cond) ∈ wsX3_piece := List.mem_of_getElem? (i := 2) rfl
theorem wd_X3_piece_7 : (.instanceMethod yX2_append : Cond) ∈ wsX3_piece := List.mem_of_getElem? (i := 7) rfl
theorem wd_X3_piece_8 : (.initialized RX2 : Cond) ∈ wsX3_piece := List.mem_of_getElem? (i := 8) rfl
theorem wd_X3_piece_9 : (.selects RX2 yX2_append yX2_append : Cond) ∈ wsX3_piece := List.mem_of_getElem? (i := 9) rfl
theorem wd_X3_piece_13 : (.instanceMethod yX1_add : Cond) ∈ wsX3_piece := List.mem_of_getElem? (i := 13) rfl
theorem wd_X3_piece_14 : (.initialized RX1 : Cond) ∈ wsX3_piece := List.mem_of_getElem? (i := 14) rfl
theorem wd_X3_piece_15 : (.selects RX1 yX1_add yX1_add : Cond) ∈ wsX3_piece := List.mem_of_getElem? (i := 15) rfl
set_option maxHeartbeats 1000000 in
theorem pf_X3_piece_1 (xk : Int32) (xf : Int32) (xv : Int32) (xs : Int32) (xn : Int32) (r_1 : Int32) (w_2 : r_1 = bIn xk (0 : Int32) (3 : Int32)) (c_4 : r_1 = 0) : (-1 : Int32) = an_piece xk xf xv xs xn := by
  grind [bIn, an_piece]
set_option maxHeartbeats 1000000 in
theorem pf_X3_piece_2 (xk : Int32) (xf : Int32) (xv : Int32) (xs : Int32) (xn : Int32) (r_1 : Int32) (r_5 : Int32) (w_2 : r_1 = bIn xk (0 : Int32) (3 : Int32)) (c_4 : ¬ r_1 = 0) (w_6 : r_5 = bIn xf (0 : Int32) (5 : Int32)) (c_8 : r_5 = 0) : (-1 : Int32) = an_piece xk xf xv xs xn := by
  grind [bIn, an_piece]
set_option maxHeartbeats 1000000 in
theorem pf_X3_piece_3 (xk : Int32) (xf : Int32) (xv : Int32) (xs : Int32) (xn : Int32) (r_1 : Int32) (r_5 : Int32) (r_9 : Int32) (r_13 : Int32) (w_2 : r_1 = bIn xk (0 : Int32) (3 : Int32)) (c_4 : ¬ r_1 = 0) (w_6 : r_5 = bIn xf (0 : Int32) (5 : Int32)) (c_8 : ¬ r_5 = 0) (w_10 : r_9 = bIn xs (0 : Int32) (2 : Int32)) (c_12 : ¬ r_9 = 0) (w_14 : r_13 = bIn xv (1 : Int32) (200 : Int32)) (c_16 : r_13 = 0) : (-2 : Int32) = an_piece xk xf xv xs xn := by
  grind [bIn, an_piece]
set_option maxHeartbeats 1000000 in
theorem pf_X3_piece_4 (xk : Int32) (xf : Int32) (xv : Int32) (xs : Int32) (xn : Int32) (r_1 : Int32) (r_5 : Int32) (r_9 : Int32) (r_13 : Int32) (r_17 : Int32) (w_2 : r_1 = bIn xk (0 : Int32) (3 : Int32)) (c_4 : ¬ r_1 = 0) (w_6 : r_5 = bIn xf (0 : Int32) (5 : Int32)) (c_8 : ¬ r_5 = 0) (w_10 : r_9 = bIn xs (0 : Int32) (2 : Int32)) (c_12 : ¬ r_9 = 0) (w_14 : r_13 = bIn xv (1 : Int32) (200 : Int32)) (c_16 : ¬ r_13 = 0) (w_18 : r_17 = bIn xn (1 : Int32) (9 : Int32)) (c_20 : ¬ r_17 = 0) : 0 ≤ (0 : Int32) := by
  grind [bIn, an_piece]
set_option maxHeartbeats 1000000 in
theorem pf_X3_piece_5 (xk : Int32) (xf : Int32) (xv : Int32) (xs : Int32) (xn : Int32) (r_1 : Int32) (r_5 : Int32) (r_9 : Int32) (r_13 : Int32) (r_17 : Int32) (w_2 : r_1 = bIn xk (0 : Int32) (3 : Int32)) (c_4 : ¬ r_1 = 0) (w_6 : r_5 = bIn xf (0 : Int32) (5 : Int32)) (c_8 : ¬ r_5 = 0) (w_10 : r_9 = bIn xs (0 : Int32) (2 : Int32)) (c_12 : ¬ r_9 = 0) (w_14 : r_13 = bIn xv (1 : Int32) (200 : Int32)) (c_16 : ¬ r_13 = 0) (w_18 : r_17 = bIn xn (1 : Int32) (9 : Int32)) (c_20 : ¬ r_17 = 0) : 0 ≤ (0 : Int32) := by
  grind [bIn, an_piece]
set_option maxHeartbeats 1000000 in
theorem pf_X3_piece_6 (xk : Int32) (xf : Int32) (xv : Int32) (xs : Int32) (xn : Int32) (r_1 : Int32) (r_5 : Int32) (r_9 : Int32) (r_13 : Int32) (r_17 : Int32) (r_26 : Int32) (w_2 : r_1 = bIn xk (0 : Int32) (3 : Int32)) (c_4 : ¬ r_1 = 0) (w_6 : r_5 = bIn xf (0 : Int32) (5 : Int32)) (c_8 : ¬ r_5 = 0) (w_10 : r_9 = bIn xs (0 : Int32) (2 : Int32)) (c_12 : ¬ r_9 = 0) (w_14 : r_13 = bIn xv (1 : Int32) (200 : Int32)) (c_16 : ¬ r_13 = 0) (w_18 : r_17 = bIn xn (1 : Int32) (9 : Int32)) (c_20 : ¬ r_17 = 0) (w_27 : r_26 = if 10 ≤ (0 : Int32) then -4 else (0 : Int32)) : r_26 = an_piece xk xf xv xs xn := by
  grind [bIn, an_piece]
set_option maxHeartbeats 1000000 in
theorem pf_X3_piece_7 (xk : Int32) (xf : Int32) (xv : Int32) (xs : Int32) (xn : Int32) (r_1 : Int32) (r_5 : Int32) (r_9 : Int32) (r_13 : Int32) (r_17 : Int32) (w_2 : r_1 = bIn xk (0 : Int32) (3 : Int32)) (c_4 : ¬ r_1 = 0) (w_6 : r_5 = bIn xf (0 : Int32) (5 : Int32)) (c_8 : ¬ r_5 = 0) (w_10 : r_9 = bIn xs (0 : Int32) (2 : Int32)) (c_12 : ¬ r_9 = 0) (w_14 : r_13 = bIn xv (1 : Int32) (200 : Int32)) (c_16 : ¬ r_13 = 0) (w_18 : r_17 = bIn xn (1 : Int32) (9 : Int32)) (c_20 : r_17 = 0) : (-2 : Int32) = an_piece xk xf xv xs xn := by
  grind [bIn, an_piece]
set_option maxHeartbeats 1000000 in
theorem pf_X3_piece_8 (xk : Int32) (xf : Int32) (xv : Int32) (xs : Int32) (xn : Int32) (r_1 : Int32) (r_5 : Int32) (r_9 : Int32) (w_2 : r_1 = bIn xk (0 : Int32) (3 : Int32)) (c_4 : ¬ r_1 = 0) (w_6 : r_5 = bIn xf (0 : Int32) (5 : Int32)) (c_8 : ¬ r_5 = 0) (w_10 : r_9 = bIn xs (0 : Int32) (2 : Int32)) (c_12 : r_9 = 0) : (-1 : Int32) = an_piece xk xf xv xs xn := by
  grind [bIn, an_piece]
set_option maxHeartbeats 4000000 in
set_option maxRecDepth 100000 in
theorem c_X3_piece (l : Launch) (D : va_G) (cI : ClassId) (sz : Nat) (x : Nat) (pi : Nat) (k0 : Nat) (k1 : Nat) (k2 : Nat) (k3 : Nat) (k4 : Nat) (sq : Nat) (s0 : Nat) (cu : Nat) (fo : Nat) (bo : Nat) (gl : Int32) (td : Int32) (le : Int32) (k5 : Nat) (k6 : Nat) (k7 : Nat) (p0 : Nat → Int32) (p1 : Nat → Int32) (p2 : Nat → Int32) (p3 : Nat → Int32) (p4 : Nat → Int32) (sf : Nat → Int32) (xk : Int32) (xf : Int32) (xv : Int32) (xs : Int32) (xn : Int32) : CtI l yX3_piece wsX3_piece 1 26 0 0 [.ref x, .int xk, .int xf, .int xv, .int xs, .int xn] D [(cI, .int)] [(x, .inr (3, [.ref cu, .ref pi, .ref sq, .ref fo, .ref bo, .int gl, .int td, .int le])), (pi, .inr (1, [.ref k0, .ref k1, .ref k2, .ref k3, .ref k4, .ref k5, .ref k6, .ref k7, .int 0])), (k0, .inl (cI, 10, .inl p0)), (k1, .inl (cI, 10, .inl p1)), (k2, .inl (cI, 10, .inl p2)), (k3, .inl (cI, 10, .inl p3)), (k4, .inl (cI, 10, .inl p4)), (sq, .inr (2, [.ref s0, .int 0])), (s0, .inl (cI, 10, .inl sf))] sz (fun (r : Int32) (u : Int32 × Int32 × (Nat → Int32) × (Nat → Int32) × (Nat → Int32) × (Nat → Int32) × (Nat → Int32) × (Nat → Int32)) => r = an_piece xk xf xv xs xn) (fun (u : Int32 × Int32 × (Nat → Int32) × (Nat → Int32) × (Nat → Int32) × (Nat → Int32) × (Nat → Int32) × (Nat → Int32)) => [(x, .inr (3, [.ref cu, .ref pi, .ref sq, .ref fo, .ref bo, .int gl, .int td, .int le])), (pi, .inr (1, [.ref k0, .ref k1, .ref k2, .ref k3, .ref k4, .ref k5, .ref k6, .ref k7, .int u.1])), (k0, .inl (cI, 10, .inl u.2.2.2.1)), (k1, .inl (cI, 10, .inl u.2.2.2.2.1)), (k2, .inl (cI, 10, .inl u.2.2.2.2.2.1)), (k3, .inl (cI, 10, .inl u.2.2.2.2.2.2.1)), (k4, .inl (cI, 10, .inl u.2.2.2.2.2.2.2)), (sq, .inr (2, [.ref s0, .int u.2.1])), (s0, .inl (cI, 10, .inl u.2.2.1))]) := by
  refine Met.ofW (cc := cX3_piece) (maxL := 6) (ret := (some .int)) (by decide) rfl ?_
  intro p e s m args below meth c s₁ B hml hv
  obtain ⟨rfl, hsz, hP, hK, hD0, hN⟩ := hv
  have hx := B.exec
  have hb := B.bytes
  have hr := B.returns
  have hts := atoms_spec (ws := wsX3_piece) B.pre
  have hown : s.vm.findClass RX3 = some m.cls := findClass_of_methodNamed B.named
  have hlocks := B.notSynchronized
  subst hsz
  have hD := hD0.self (sz := s.heap.size)
  generalize hAe : va_A [(x, .inr (3, [.ref cu, .ref pi, .ref sq, .ref fo, .ref bo, .int gl, .int td, .int le])), (pi, .inr (1, [.ref k0, .ref k1, .ref k2, .ref k3, .ref k4, .ref k5, .ref k6, .ref k7, .int 0])), (k0, .inl (cI, 10, .inl p0)), (k1, .inl (cI, 10, .inl p1)), (k2, .inl (cI, 10, .inl p2)), (k3, .inl (cI, 10, .inl p3)), (k4, .inl (cI, 10, .inl p4)), (sq, .inr (2, [.ref s0, .int 0])), (s0, .inl (cI, 10, .inl sf))] s.heap.size = A at hD ⊢
  have hA : ∀ q : Nat, s.heap.size ≤ q → A q := fun q h => by rw [← hAe]; exact Or.inr h
  have hS : va_S A s.heap s.heap [] := va_S.rf
  have hl := lv_entry ([.ref x, .int xk, .int xf, .int xv, .int xs, .int xn]) (n := 6) (Nat.le_of_ble_eq_true rfl)
  rw [lg_entry_eq]
  generalize (lg_sl ([.ref x, .int xk, .int xf, .int xv, .int xs, .int xn]) ++ List.replicate (6 - (lg_sl ([.ref x, .int xk, .int xf, .int xv, .int xs, .int xn])).length) Slot.unset).toArray = ls at hl ⊢
  have hl : lv_has ls 6 [(0, .ref x), (1, .int xk), (2, .int xf), (3, .int xv), (4, .int xs), (5, .int xn)] := hl
  have hP0 := hP
  refine lv_iload_n hx hb dX3_piece_0 rfl (lv_at hl 1 rfl) ?_
  refine lv_iconst (v := 0) hx hb dX3_piece_1 (by decide) ?_
  refine lv_iconst (v := 3) hx hb dX3_piece_2 (by decide) ?_
  refine cc_i (wc := []) (wr := [(x, .inr (3, [.ref cu, .ref pi, .ref sq, .ref fo, .ref bo, .int gl, .int td, .int le])), (pi, .inr (1, [.ref k0, .ref k1, .ref k2, .ref k3, .ref k4, .ref k5, .ref k6, .ref k7, .int 0])), (k0, .inl (cI, 10, .inl p0)), (k1, .inl (cI, 10, .inl p1)), (k2, .inl (cI, 10, .inl p2)), (k3, .inl (cI, 10, .inl p3)), (k4, .inl (cI, 10, .inl p4)), (sq, .inr (2, [.ref s0, .int 0])), (s0, .inl (cI, 10, .inl sf))]) (va_runS (As := [.int xk, .int 0, .int 3]) (rest := []) ⟨hx, hb, hml, hown, hts⟩ (c_X3_isIn l D cI s.heap.size xk 0 3 ) (va_cwS 3 hts gX3_piece_X3_isIn rfl rfl rfl (by decide +kernel) ⟨Nat.le_of_ble_eq_true rfl, Nat.le_of_ble_eq_true rfl⟩) (preS (wc := []) hK hP hD hN [] rfl (by decide)) rfl rfl hl.1 rfl (lv_room (Nat.le_of_ble_eq_true rfl)) dX3_piece_3 ⟨Nat.le_of_ble_eq_true rfl, Nat.le_of_ble_eq_true rfl⟩) hP hD hS hA [] [0, 1, 2, 3, 4, 5, 6, 7, 8] rfl rfl (by decide) (by decide) (fun r_1 u H locs w_2 hP hD hS => ?_)
  have hP : va_P D vwCl [(x, .inr (3, [.ref cu, .ref pi, .ref sq, .ref fo, .ref bo, .int gl, .int td, .int le])), (pi, .inr (1, [.ref k0, .ref k1, .ref k2, .ref k3, .ref k4, .ref k5, .ref k6, .ref k7, .int 0])), (k0, .inl (cI, 10, .inl p0)), (k1, .inl (cI, 10, .inl p1)), (k2, .inl (cI, 10, .inl p2)), (k3, .inl (cI, 10, .inl p3)), (k4, .inl (cI, 10, .inl p4)), (sq, .inr (2, [.ref s0, .int 0])), (s0, .inl (cI, 10, .inl sf))] H := hP
  have hD : va_D A [(x, .inr (3, [.ref cu, .ref pi, .ref sq, .ref fo, .ref bo, .int gl, .int td, .int le])), (pi, .inr (1, [.ref k0, .ref k1, .ref k2, .ref k3, .ref k4, .ref k5, .ref k6, .ref k7, .int 0])), (k0, .inl (cI, 10, .inl p0)), (k1, .inl (cI, 10, .inl p1)), (k2, .inl (cI, 10, .inl p2)), (k3, .inl (cI, 10, .inl p3)), (k4, .inl (cI, 10, .inl p4)), (sq, .inr (2, [.ref s0, .int 0])), (s0, .inl (cI, 10, .inl sf))] := hD
  have w_2 : r_1 = bIn xk (0 : Int32) (3 : Int32) := w_2
  refine lv_if_eq (tgt := 28) hx hb dX3_piece_6 (by decide) (fun c_4 => ?_) (fun c_4 => ?_)
  · refine lv_iconst (v := (-1)) hx hb dX3_piece_28 (by decide) ?_
    refine W.widen (k := 0) (n := 0) (Nat.le_of_ble_eq_true rfl) (Nat.le_of_ble_eq_true rfl) ?_
    exact fi_i (0, 0, sf, p0, p1, p2, p3, p4) hx hb hr hlocks hK (hP.sub [0, 1, 2, 3, 4, 5, 6, 7, 8] rfl) (hD.sub [0, 1, 2, 3, 4, 5, 6, 7, 8] (by decide) rfl) hS (pf_X3_piece_1 xk xf xv xs xn r_1 w_2 c_4) dX3_piece_29
  · refine lv_iload_n hx hb dX3_piece_9 rfl (lv_at hl 2 rfl) ?_
    refine lv_iconst (v := 0) hx hb dX3_piece_10 (by decide) ?_
    refine lv_iconst (v := 5) hx hb dX3_piece_11 (by decide) ?_
    refine cc_i (wc := []) (wr := [(x, .inr (3, [.ref cu, .ref pi, .ref sq, .ref fo, .ref bo, .int gl, .int td, .int le])), (pi, .inr (1, [.ref k0, .ref k1, .ref k2, .ref k3, .ref k4, .ref k5, .ref k6, .ref k7, .int 0])), (k0, .inl (cI, 10, .inl p0)), (k1, .inl (cI, 10, .inl p1)), (k2, .inl (cI, 10, .inl p2)), (k3, .inl (cI, 10, .inl p3)), (k4, .inl (cI, 10, .inl p4)), (sq, .inr (2, [.ref s0, .int 0])), (s0, .inl (cI, 10, .inl sf))]) (va_runS (As := [.int xf, .int 0, .int 5]) (rest := []) ⟨hx, hb, hml, hown, hts⟩ (c_X3_isIn l D cI H.size xf 0 5 ) (va_cwS 3 hts gX3_piece_X3_isIn rfl rfl rfl (by decide +kernel) ⟨Nat.le_of_ble_eq_true rfl, Nat.le_of_ble_eq_true rfl⟩) (preS (wc := []) hK hP hD hN [] rfl (by decide)) rfl rfl hl.1 rfl (lv_room (Nat.le_of_ble_eq_true rfl)) dX3_piece_12 ⟨Nat.le_of_ble_eq_true rfl, Nat.le_of_ble_eq_true rfl⟩) hP hD hS hA [] [0, 1, 2, 3, 4, 5, 6, 7, 8] rfl rfl (by decide) (by decide) (fun r_5 u H locs w_6 hP hD hS => ?_)
    have hP : va_P D vwCl [(x, .inr (3, [.ref cu, .ref pi, .ref sq, .ref fo, .ref bo, .int gl, .int td, .int le])), (pi, .inr (1, [.ref k0, .ref k1, .ref k2, .ref k3, .ref k4, .ref k5, .ref k6, .ref k7, .int 0])), (k0, .inl (cI, 10, .inl p0)), (k1, .inl (cI, 10, .inl p1)), (k2, .inl (cI, 10, .inl p2)), (k3, .inl (cI, 10, .inl p3)), (k4, .inl (cI, 10, .inl p4)), (sq, .inr (2, [.ref s0, .int 0])), (s0, .inl (cI, 10, .inl sf))] H := hP
    have hD : va_D A [(x, .inr (3, [.ref cu, .ref pi, .ref sq, .ref fo, .ref bo, .int gl, .int td, .int le])), (pi, .inr (1, [.ref k0, .ref k1, .ref k2, .ref k3, .ref k4, .ref k5, .ref k6, .ref k7, .int 0])), (k0, .inl (cI, 10, .inl p0)), (k1, .inl (cI, 10, .inl p1)), (k2, .inl (cI, 10, .inl p2)), (k3, .inl (cI, 10, .inl p3)), (k4, .inl (cI, 10, .inl p4)), (sq, .inr (2, [.ref s0, .int 0])), (s0, .inl (cI, 10, .inl sf))] := hD
    have w_6 : r_5 = bIn xf (0 : Int32) (5 : Int32) := w_6
    refine lv_if_eq (tgt := 28) hx hb dX3_piece_15 (by decide) (fun c_8 => ?_) (fun c_8 => ?_)
    · refine lv_iconst (v := (-1)) hx hb dX3_piece_28 (by decide) ?_
      refine W.widen (k := 0) (n := 0) (Nat.le_of_ble_eq_true rfl) (Nat.le_of_ble_eq_true rfl) ?_
      exact fi_i (0, 0, sf, p0, p1, p2, p3, p4) hx hb hr hlocks hK (hP.sub [0, 1, 2, 3, 4, 5, 6, 7, 8] rfl) (hD.sub [0, 1, 2, 3, 4, 5, 6, 7, 8] (by decide) rfl) hS (pf_X3_piece_2 xk xf xv xs xn r_1 r_5 w_2 c_4 w_6 c_8) dX3_piece_29
    · refine lv_iload hx hb dX3_piece_18 (lv_at hl 4 rfl) ?_
      refine lv_iconst (v := 0) hx hb dX3_piece_20 (by decide) ?_
      refine lv_iconst (v := 2) hx hb dX3_piece_21 (by decide) ?_
      refine cc_i (wc := []) (wr := [(x, .inr (3, [.ref cu, .ref pi, .ref sq, .ref fo, .ref bo, .int gl, .int td, .int le])), (pi, .inr (1, [.ref k0, .ref k1, .ref k2, .ref k3, .ref k4, .ref k5, .ref k6, .ref k7, .int 0])), (k0, .inl (cI, 10, .inl p0)), (k1, .inl (cI, 10, .inl p1)), (k2, .inl (cI, 10, .inl p2)), (k3, .inl (cI, 10, .inl p3)), (k4, .inl (cI, 10, .inl p4)), (sq, .inr (2, [.ref s0, .int 0])), (s0, .inl (cI, 10, .inl sf))]) (va_runS (As := [.int xs, .int 0, .int 2]) (rest := []) ⟨hx, hb, hml, hown, hts⟩ (c_X3_isIn l D cI H.size xs 0 2 ) (va_cwS 3 hts gX3_piece_X3_isIn rfl rfl rfl (by decide +kernel) ⟨Nat.le_of_ble_eq_true rfl, Nat.le_of_ble_eq_true rfl⟩) (preS (wc := []) hK hP hD hN [] rfl (by decide)) rfl rfl hl.1 rfl (lv_room (Nat.le_of_ble_eq_true rfl)) dX3_piece_22 ⟨Nat.le_of_ble_eq_true rfl, Nat.le_of_ble_eq_true rfl⟩) hP hD hS hA [] [0, 1, 2, 3, 4, 5, 6, 7, 8] rfl rfl (by decide) (by decide) (fun r_9 u H locs w_10 hP hD hS => ?_)
      have hP : va_P D vwCl [(x, .inr (3, [.ref cu, .ref pi, .ref sq, .ref fo, .ref bo, .int gl, .int td, .int le])), (pi, .inr (1, [.ref k0, .ref k1, .ref k2, .ref k3, .ref k4, .ref k5, .ref k6, .ref k7, .int 0])), (k0, .inl (cI, 10, .inl p0)), (k1, .inl (cI, 10, .inl p1)), (k2, .inl (cI, 10, .inl p2)), (k3, .inl (cI, 10, .inl p3)), (k4, .inl (cI, 10, .inl p4)), (sq, .inr (2, [.ref s0, .int 0])), (s0, .inl (cI, 10, .inl sf))] H := hP
      have hD : va_D A [(x, .inr (3, [.ref cu, .ref pi, .ref sq, .ref fo, .ref bo, .int gl, .int td, .int le])), (pi, .inr (1, [.ref k0, .ref k1, .ref k2, .ref k3, .ref k4, .ref k5, .ref k6, .ref k7, .int 0])), (k0, .inl (cI, 10, .inl p0)), (k1, .inl (cI, 10, .inl p1)), (k2, .inl (cI, 10, .inl p2)), (k3, .inl (cI, 10, .inl p3)), (k4, .inl (cI, 10, .inl p4)), (sq, .inr (2, [.ref s0, .int 0])), (s0, .inl (cI, 10, .inl sf))] := hD
      have w_10 : r_9 = bIn xs (0 : Int32) (2 : Int32) := w_10
      refine lv_if_ne (tgt := 30) hx hb dX3_piece_25 (by decide) (fun c_12 => ?_) (fun c_12 => ?_)
      · refine lv_iload_n hx hb dX3_piece_30 rfl (lv_at hl 3 rfl) ?_
        refine lv_iconst (v := 1) hx hb dX3_piece_31 (by decide) ?_
        refine lv_sipush (v := 200) hx hb dX3_piece_32 (by decide) ?_
        refine cc_i (wc := []) (wr := [(x, .inr (3, [.ref cu, .ref pi, .ref sq, .ref fo, .ref bo, .int gl, .int td, .int le])), (pi, .inr (1, [.ref k0, .ref k1, .ref k2, .ref k3, .ref k4, .ref k5, .ref k6, .ref k7, .int 0])), (k0, .inl (cI, 10, .inl p0)), (k1, .inl (cI, 10, .inl p1)), (k2, .inl (cI, 10, .inl p2)), (k3, .inl (cI, 10, .inl p3)), (k4, .inl (cI, 10, .inl p4)), (sq, .inr (2, [.ref s0, .int 0])), (s0, .inl (cI, 10, .inl sf))]) (va_runS (As := [.int xv, .int 1, .int 200]) (rest := []) ⟨hx, hb, hml, hown, hts⟩ (c_X3_isIn l D cI H.size xv 1 200 ) (va_cwS 3 hts gX3_piece_X3_isIn rfl rfl rfl (by decide +kernel) ⟨Nat.le_of_ble_eq_true rfl, Nat.le_of_ble_eq_true rfl⟩) (preS (wc := []) hK hP hD hN [] rfl (by decide)) rfl rfl hl.1 rfl (lv_room (Nat.le_of_ble_eq_true rfl)) dX3_piece_35 ⟨Nat.le_of_ble_eq_true rfl, Nat.le_of_ble_eq_true rfl⟩) hP hD hS hA [] [0, 1, 2, 3, 4, 5, 6, 7, 8] rfl rfl (by decide) (by decide) (fun r_13 u H locs w_14 hP hD hS => ?_)
        have hP : va_P D vwCl [(x, .inr (3, [.ref cu, .ref pi, .ref sq, .ref fo, .ref bo, .int gl, .int td, .int le])), (pi, .inr (1, [.ref k0, .ref k1, .ref k2, .ref k3, .ref k4, .ref k5, .ref k6, .ref k7, .int 0])), (k0, .inl (cI, 10, .inl p0)), (k1, .inl (cI, 10, .inl p1)), (k2, .inl (cI, 10, .inl p2)), (k3, .inl (cI, 10, .inl p3)), (k4, .inl (cI, 10, .inl p4)), (sq, .inr (2, [.ref s0, .int 0])), (s0, .inl (cI, 10, .inl sf))] H := hP
        have hD : va_D A [(x, .inr (3, [.ref cu, .ref pi, .ref sq, .ref fo, .ref bo, .int gl, .int td, .int le])), (pi, .inr (1, [.ref k0, .ref k1, .ref k2, .ref k3, .ref k4, .ref k5, .ref k6, .ref k7, .int 0])), (k0, .inl (cI, 10, .inl p0)), (k1, .inl (cI, 10, .inl p1)), (k2, .inl (cI, 10, .inl p2)), (k3, .inl (cI, 10, .inl p3)), (k4, .inl (cI, 10, .inl p4)), (sq, .inr (2, [.ref s0, .int 0])), (s0, .inl (cI, 10, .inl sf))] := hD
        have w_14 : r_13 = bIn xv (1 : Int32) (200 : Int32) := w_14
        refine lv_if_eq (tgt := 52) hx hb dX3_piece_38 (by decide) (fun c_16 => ?_) (fun c_16 => ?_)
        · refine lv_bipush (v := (-2)) hx hb dX3_piece_52 (by decide) ?_
          refine W.widen (k := 0) (n := 0) (Nat.le_of_ble_eq_true rfl) (Nat.le_of_ble_eq_true rfl) ?_
          exact fi_i (0, 0, sf, p0, p1, p2, p3, p4) hx hb hr hlocks hK (hP.sub [0, 1, 2, 3, 4, 5, 6, 7, 8] rfl) (hD.sub [0, 1, 2, 3, 4, 5, 6, 7, 8] (by decide) rfl) hS (pf_X3_piece_3 xk xf xv xs xn r_1 r_5 r_9 r_13 w_2 c_4 w_6 c_8 w_10 c_12 w_14 c_16) dX3_piece_54
        · refine lv_iload hx hb dX3_piece_41 (lv_at hl 5 rfl) ?_
          refine lv_iconst (v := 1) hx hb dX3_piece_43 (by decide) ?_
          refine lv_bipush (v := 9) hx hb dX3_piece_44 (by decide) ?_
          refine cc_i (wc := []) (wr := [(x, .inr (3, [.ref cu, .ref pi, .ref sq, .ref fo, .ref bo, .int gl, .int td, .int le])), (pi, .inr (1, [.ref k0, .ref k1, .ref k2, .ref k3, .ref k4, .ref k5, .ref k6, .ref k7, .int 0])), (k0, .inl (cI, 10, .inl p0)), (k1, .inl (cI, 10, .inl p1)), (k2, .inl (cI, 10, .inl p2)), (k3, .inl (cI, 10, .inl p3)), (k4, .inl (cI, 10, .inl p4)), (sq, .inr (2, [.ref s0, .int 0])), (s0, .inl (cI, 10, .inl sf))]) (va_runS (As := [.int xn, .int 1, .int 9]) (rest := []) ⟨hx, hb, hml, hown, hts⟩ (c_X3_isIn l D cI H.size xn 1 9 ) (va_cwS 3 hts gX3_piece_X3_isIn rfl rfl rfl (by decide +kernel) ⟨Nat.le_of_ble_eq_true rfl, Nat.le_of_ble_eq_true rfl⟩) (preS (wc := []) hK hP hD hN [] rfl (by decide)) rfl rfl hl.1 rfl (lv_room (Nat.le_of_ble_eq_true rfl)) dX3_piece_46 ⟨Nat.le_of_ble_eq_true rfl, Nat.le_of_ble_eq_true rfl⟩) hP hD hS hA [] [0, 1, 2, 3, 4, 5, 6, 7, 8] rfl rfl (by decide) (by decide) (fun r_17 u H locs w_18 hP hD hS => ?_)
          have hP : va_P D vwCl [(x, .inr (3, [.ref cu, .ref pi, .ref sq, .ref fo, .ref bo, .int gl, .int td, .int le])), (pi, .inr (1, [.ref k0, .ref k1, .ref k2, .ref k3, .ref k4, .ref k5, .ref k6, .ref k7, .int 0])), (k0, .inl (cI, 10, .inl p0)), (k1, .inl (cI, 10, .inl p1)), (k2, .inl (cI, 10, .inl p2)), (k3, .inl (cI, 10, .inl p3)), (k4, .inl (cI, 10, .inl p4)), (sq, .inr (2, [.ref s0, .int 0])), (s0, .inl (cI, 10, .inl sf))] H := hP
          have hD : va_D A [(x, .inr (3, [.ref cu, .ref pi, .ref sq, .ref fo, .ref bo, .int gl, .int td, .int le])), (pi, .inr (1, [.ref k0, .ref k1, .ref k2, .ref k3, .ref k4, .ref k5, .ref k6, .ref k7, .int 0])), (k0, .inl (cI, 10, .inl p0)), (k1, .inl (cI, 10, .inl p1)), (k2, .inl (cI, 10, .inl p2)), (k3, .inl (cI, 10, .inl p3)), (k4, .inl (cI, 10, .inl p4)), (sq, .inr (2, [.ref s0, .int 0])), (s0, .inl (cI, 10, .inl sf))] := hD
          have w_18 : r_17 = bIn xn (1 : Int32) (9 : Int32) := w_18
          refine lv_if_ne (tgt := 55) hx hb dX3_piece_49 (by decide) (fun c_20 => ?_) (fun c_20 => ?_)
          · refine lv_aload_n hx hb dX3_piece_55 rfl (lv_at hl 0 rfl) ?_
            refine va_get (D := D) (ci := 3) (v := .ref pi) (C := RX3) (T := TX3) (N := 8) hx hb hts iw_X3_piece_3 hown hK hP 0 rfl rfl 1 (by decide) (hts _ wd_X3_piece_1) (fun _ h9 => h9) rfl dX3_piece_56 ?_
            refine va_getN (D := D) (ci := 1) (v := .int 0) (C := RX1) (T := TX1) (N := 9) hx hb hts iw_X3_piece_1 hown hK hP 1 rfl rfl 8 (by decide) (va_Nw.use rfl (nwF_53 hN)) (fun _ h9 => h9) rfl dX3_piece_59 ?_
            refine lv_bipush (v := 10) hx hb dX3_piece_62 (by decide) ?_
            refine lv_icmp_lt (tgt := 70) hx hb dX3_piece_64 (by decide) (fun _ => ?_) (fun h => absurd (by decide) h)
            refine lv_aload_n hx hb dX3_piece_70 rfl (lv_at hl 0 rfl) ?_
            refine va_get (D := D) (ci := 3) (v := .ref sq) (C := RX3) (T := TX3) (N := 8) hx hb hts iw_X3_piece_3 hown hK hP 0 rfl rfl 2 (by decide) (hts _ wd_X3_piece_2) (fun _ h9 => h9) rfl dX3_piece_71 ?_
            refine lv_aload_n hx hb dX3_piece_74 rfl (lv_at hl 0 rfl) ?_
            refine va_get (D := D) (ci := 3) (v := .ref pi) (C := RX3) (T := TX3) (N := 8) hx hb hts iw_X3_piece_3 hown hK hP 0 rfl rfl 1 (by decide) (hts _ wd_X3_piece_1) (fun _ h9 => h9) rfl dX3_piece_75 ?_
            refine va_getN (D := D) (ci := 1) (v := .int 0) (C := RX1) (T := TX1) (N := 9) hx hb hts iw_X3_piece_1 hown hK hP 1 rfl rfl 8 (by decide) (va_Nw.use rfl (nwF_53 hN)) (fun _ h9 => h9) rfl dX3_piece_78 ?_
            refine cc_v (wc := [(sq, .inr (2, [.ref s0, .int 0])), (s0, .inl (cI, 10, .inl sf))]) (wr := [(x, .inr (3, [.ref cu, .ref pi, .ref sq, .ref fo, .ref bo, .int gl, .int td, .int le])), (pi, .inr (1, [.ref k0, .ref k1, .ref k2, .ref k3, .ref k4, .ref k5, .ref k6, .ref k7, .int 0])), (k0, .inl (cI, 10, .inl p0)), (k1, .inl (cI, 10, .inl p1)), (k2, .inl (cI, 10, .inl p2)), (k3, .inl (cI, 10, .inl p3)), (k4, .inl (cI, 10, .inl p4))]) (va_runVN (As := [.int 0]) (rest := []) ⟨hx, hb, hml, hown, hts⟩ (c_X2_append l D cI H.size sq s0 0 sf 0 (pf_X3_piece_4 xk xf xv xs xn r_1 r_5 r_9 r_13 r_17 w_2 c_4 w_6 c_8 w_10 c_12 w_14 c_16 w_18 c_20)) ⟨va_cnB 1 hts gX3_piece_X2_append_n56 rfl rfl rfl (nwM_56 hN) (hts _ wd_X3_piece_8) (by decide +kernel) ⟨Nat.le_of_ble_eq_true rfl, Nat.le_of_ble_eq_true rfl⟩, (hts _ wd_X3_piece_7), (hts _ wd_X3_piece_9)⟩ (preV (wc := [(sq, .inr (2, [.ref s0, .int 0])), (s0, .inl (cI, 10, .inl sf))]) (ci := 2) (q0 := 7) hK hP hD hN [7, 8] rfl (by decide) rfl rfl) rfl rfl hl.1 rfl (lv_room (Nat.le_of_ble_eq_true rfl)) dX3_piece_81 ⟨Nat.le_of_ble_eq_true rfl, Nat.le_of_ble_eq_true rfl⟩) hP hD hS hA [7, 8] [0, 1, 2, 3, 4, 5, 6] rfl rfl (by decide) (by decide) (fun u H locs w_23 hP hD hS => ?_)
            obtain ⟨ln2_24, f2_25⟩ := u
            have hP : va_P D vwCl [(x, .inr (3, [.ref cu, .ref pi, .ref sq, .ref fo, .ref bo, .int gl, .int td, .int le])), (pi, .inr (1, [.ref k0, .ref k1, .ref k2, .ref k3, .ref k4, .ref k5, .ref k6, .ref k7, .int 0])), (k0, .inl (cI, 10, .inl p0)), (k1, .inl (cI, 10, .inl p1)), (k2, .inl (cI, 10, .inl p2)), (k3, .inl (cI, 10, .inl p3)), (k4, .inl (cI, 10, .inl p4)), (sq, .inr (2, [.ref s0, .int ln2_24])), (s0, .inl (cI, 10, .inl f2_25))] H := hP
            have hD : va_D A [(x, .inr (3, [.ref cu, .ref pi, .ref sq, .ref fo, .ref bo, .int gl, .int td, .int le])), (pi, .inr (1, [.ref k0, .ref k1, .ref k2, .ref k3, .ref k4, .ref k5, .ref k6, .ref k7, .int 0])), (k0, .inl (cI, 10, .inl p0)), (k1, .inl (cI, 10, .inl p1)), (k2, .inl (cI, 10, .inl p2)), (k3, .inl (cI, 10, .inl p3)), (k4, .inl (cI, 10, .inl p4)), (sq, .inr (2, [.ref s0, .int ln2_24])), (s0, .inl (cI, 10, .inl f2_25))] := hD
            refine lv_aload_n hx hb dX3_piece_84 rfl (lv_at hl 0 rfl) ?_
            refine va_get (D := D) (ci := 3) (v := .ref pi) (C := RX3) (T := TX3) (N := 8) hx hb hts iw_X3_piece_3 hown hK hP 0 rfl rfl 1 (by decide) (hts _ wd_X3_piece_1) (fun _ h9 => h9) rfl dX3_piece_85 ?_
            refine lv_iload_n hx hb dX3_piece_88 rfl (lv_at hl 1 rfl) ?_
            refine lv_iload_n hx hb dX3_piece_89 rfl (lv_at hl 2 rfl) ?_
            refine lv_iload_n hx hb dX3_piece_90 rfl (lv_at hl 3 rfl) ?_
            refine lv_iload hx hb dX3_piece_91 (lv_at hl 4 rfl) ?_
            refine lv_iload hx hb dX3_piece_93 (lv_at hl 5 rfl) ?_
            refine cc_i (wc := [(pi, .inr (1, [.ref k0, .ref k1, .ref k2, .ref k3, .ref k4, .ref k5, .ref k6, .ref k7, .int 0])), (k0, .inl (cI, 10, .inl p0)), (k1, .inl (cI, 10, .inl p1)), (k2, .inl (cI, 10, .inl p2)), (k3, .inl (cI, 10, .inl p3)), (k4, .inl (cI, 10, .inl p4))]) (wr := [(x, .inr (3, [.ref cu, .ref pi, .ref sq, .ref fo, .ref bo, .int gl, .int td, .int le])), (sq, .inr (2, [.ref s0, .int ln2_24])), (s0, .inl (cI, 10, .inl f2_25))]) (va_runVN (As := [.int xk, .int xf, .int xv, .int xs, .int xn]) (rest := []) ⟨hx, hb, hml, hown, hts⟩ (c_X1_add l D cI H.size pi k0 k1 k2 k3 k4 k5 k6 k7 0 p0 p1 p2 p3 p4 xk xf xv xs xn (pf_X3_piece_5 xk xf xv xs xn r_1 r_5 r_9 r_13 r_17 w_2 c_4 w_6 c_8 w_10 c_12 w_14 c_16 w_18 c_20)) ⟨va_cnB 5 hts gX3_piece_X1_add_n60 rfl rfl rfl (nwM_60 hN) (hts _ wd_X3_piece_14) (by decide +kernel) ⟨Nat.le_of_ble_eq_true rfl, Nat.le_of_ble_eq_true rfl⟩, (hts _ wd_X3_piece_13), (hts _ wd_X3_piece_15)⟩ (preV (wc := [(pi, .inr (1, [.ref k0, .ref k1, .ref k2, .ref k3, .ref k4, .ref k5, .ref k6, .ref k7, .int 0])), (k0, .inl (cI, 10, .inl p0)), (k1, .inl (cI, 10, .inl p1)), (k2, .inl (cI, 10, .inl p2)), (k3, .inl (cI, 10, .inl p3)), (k4, .inl (cI, 10, .inl p4))]) (ci := 1) (q0 := 1) hK hP hD hN [1, 2, 3, 4, 5, 6] rfl (by decide) rfl rfl) rfl rfl hl.1 rfl (lv_room (Nat.le_of_ble_eq_true rfl)) dX3_piece_95 ⟨Nat.le_of_ble_eq_true rfl, Nat.le_of_ble_eq_true rfl⟩) hP hD hS hA [1, 2, 3, 4, 5, 6] [0, 7, 8] rfl rfl (by decide) (by decide) (fun r_26 u H locs w_27 hP hD hS => ?_)
            obtain ⟨num2_28, q0_29, q1_30, q2_31, q3_32, q4_33⟩ := u
            have hP : va_P D vwCl [(x, .inr (3, [.ref cu, .ref pi, .ref sq, .ref fo, .ref bo, .int gl, .int td, .int le])), (sq, .inr (2, [.ref s0, .int ln2_24])), (s0, .inl (cI, 10, .inl f2_25)), (pi, .inr (1, [.ref k0, .ref k1, .ref k2, .ref k3, .ref k4, .ref k5, .ref k6, .ref k7, .int num2_28])), (k0, .inl (cI, 10, .inl q0_29)), (k1, .inl (cI, 10, .inl q1_30)), (k2, .inl (cI, 10, .inl q2_31)), (k3, .inl (cI, 10, .inl q3_32)), (k4, .inl (cI, 10, .inl q4_33))] H := hP
            have hD : va_D A [(x, .inr (3, [.ref cu, .ref pi, .ref sq, .ref fo, .ref bo, .int gl, .int td, .int le])), (sq, .inr (2, [.ref s0, .int ln2_24])), (s0, .inl (cI, 10, .inl f2_25)), (pi, .inr (1, [.ref k0, .ref k1, .ref k2, .ref k3, .ref k4, .ref k5, .ref k6, .ref k7, .int num2_28])), (k0, .inl (cI, 10, .inl q0_29)), (k1, .inl (cI, 10, .inl q1_30)), (k2, .inl (cI, 10, .inl q2_31)), (k3, .inl (cI, 10, .inl q3_32)), (k4, .inl (cI, 10, .inl q4_33))] := hD
            have w_27 : r_26 = if 10 ≤ (0 : Int32) then -4 else (0 : Int32) := w_27
            refine W.widen (k := 0) (n := 0) (Nat.le_of_ble_eq_true rfl) (Nat.le_of_ble_eq_true rfl) ?_
            exact fi_i (num2_28, ln2_24, f2_25, q0_29, q1_30, q2_31, q3_32, q4_33) hx hb hr hlocks hK (hP.sub [0, 3, 4, 5, 6, 7, 8, 1, 2] rfl) (hD.sub [0, 3, 4, 5, 6, 7, 8, 1, 2] (by decide) rfl) hS (pf_X3_piece_6 xk xf xv xs xn r_1 r_5 r_9 r_13 r_17 r_26 w_2 c_4 w_6 c_8 w_10 c_12 w_14 c_16 w_18 c_20 w_27) dX3_piece_98
          · refine lv_bipush (v := (-2)) hx hb dX3_piece_52 (by decide) ?_
            refine W.widen (k := 0) (n := 0) (Nat.le_of_ble_eq_true rfl) (Nat.le_of_ble_eq_true rfl) ?_
            exact fi_i (0, 0, sf, p0, p1, p2, p3, p4) hx hb hr hlocks hK (hP.sub [0, 1, 2, 3, 4, 5, 6, 7, 8] rfl) (hD.sub [0, 1, 2, 3, 4, 5, 6, 7, 8] (by decide) rfl) hS (pf_X3_piece_7 xk xf xv xs xn r_1 r_5 r_9 r_13 r_17 w_2 c_4 w_6 c_8 w_10 c_12 w_14 c_16 w_18 c_20) dX3_piece_54
      · refine lv_iconst (v := (-1)) hx hb dX3_piece_28 (by decide) ?_
        refine W.widen (k := 0) (n := 0) (Nat.le_of_ble_eq_true rfl) (Nat.le_of_ble_eq_true rfl) ?_
        exact fi_i (0, 0, sf, p0, p1, p2, p3, p4) hx hb hr hlocks hK (hP.sub [0, 1, 2, 3, 4, 5, 6, 7, 8] rfl) (hD.sub [0, 1, 2, 3, 4, 5, 6, 7, 8] (by decide) rfl) hS (pf_X3_piece_8 xk xf xv xs xn r_1 r_5 r_9 w_2 c_4 w_6 c_8 w_10 c_12) dX3_piece_29

theorem iw_X3_init_0 : ∀ w ∈ wsX00, w ∈ wsX3_init := fun w h => (List.mem_cons_of_mem _ (List.mem_append_left _ (List.mem_append_left _ (List.mem_append_left _ (List.mem_append_right _ h)))))
theorem iw_X3_init_1 : ∀ w ∈ wsX10, w ∈ wsX3_init := fun w h => (List.mem_cons_of_mem _ (List.mem_append_left _ (List.mem_append_right _ h)))
theorem iw_X3_init_2 : ∀ w ∈ wsX20, w ∈ wsX3_init := fun w h => (List.mem_cons_of_mem _ (List.mem_append_right _ h))
theorem iw_X3_init_3 : ∀ w ∈ wsX30, w ∈ wsX3_init := fun w h => (List.mem_cons_of_mem _ (List.mem_append_left _ (List.mem_append_left _ (List.mem_append_right _ h))))
theorem wd_X3_init_1 : (.methodLink RX3 5 objectInit : Cond) ∈ wsX3_init := List.mem_of_getElem? (i := 1) rfl
theorem wd_X3_init_2 : (.instanceMethod objectInit : Cond) ∈ wsX3_init := List.mem_of_getElem? (i := 2) rfl
theorem wd_X3_init_3 : (.code objectInit ⟨#[0xb1]⟩ 1 none : Cond) ∈ wsX3_init := List.mem_of_getElem? (i := 3) rfl
theorem wd_X3_init_4 : (.classLink RX3 11 RX0 : Cond) ∈ wsX3_init := List.mem_of_getElem? (i := 4) rfl
theorem wd_X3_init_5 : (.instantiable RX0 8 : Cond) ∈ wsX3_init := List.mem_of_getElem? (i := 5) rfl
theorem wd_X3_init_6 : (.initialized RX0 : Cond) ∈ wsX3_init := List.mem_of_getElem? (i := 6) rfl
theorem wd_X3_init_7 : (.fieldLink RX3 14 "PourPlan" "curing" "LPourPlan$Curing;" : Cond) ∈ wsX3_init := List.mem_of_getElem? (i := 7) rfl
theorem wd_X3_init_8 : (.classLink RX3 18 RX1 : Cond) ∈ wsX3_init := List.mem_of_getElem? (i := 8) rfl
theorem wd_X3_init_9 : (.instantiable RX1 9 : Cond) ∈ wsX3_init := List.mem_of_getElem? (i := 9) rfl
theorem wd_X3_init_10 : (.initialized RX1 : Cond) ∈ wsX3_init := List.mem_of_getElem? (i := 10) rfl
theorem wd_X3_init_11 : (.fieldLink RX3 21 "PourPlan" "pieces" "LPourPlan$Pieces;" : Cond) ∈ wsX3_init := List.mem_of_getElem? (i := 11) rfl
theorem wd_X3_init_12 : (.classLink RX3 25 RX2 : Cond) ∈ wsX3_init := List.mem_of_getElem? (i := 12) rfl
theorem wd_X3_init_13 : (.instantiable RX2 2 : Cond) ∈ wsX3_init := List.mem_of_getElem? (i := 13) rfl
theorem wd_X3_init_14 : (.initialized RX2 : Cond) ∈ wsX3_init := List.mem_of_getElem? (i := 14) rfl
theorem wd_X3_init_15 : (.fieldLink RX3 28 "PourPlan" "sequence" "LPourPlan$Sequence;" : Cond) ∈ wsX3_init := List.mem_of_getElem? (i := 15) rfl
theorem wd_X3_init_16 : (.arrayClass .int : Cond) ∈ wsX3_init := List.mem_of_getElem? (i := 16) rfl
theorem wd_X3_init_17 : (.fieldLink RX3 32 "PourPlan" "forms" "[I" : Cond) ∈ wsX3_init := List.mem_of_getElem? (i := 17) rfl
theorem wd_X3_init_18 : (.fieldLink RX3 36 "PourPlan" "bestOrder" "[I" : Cond) ∈ wsX3_init := List.mem_of_getElem? (i := 18) rfl
theorem wd_X3_init_19 : (.fieldLink RX3 39 "PourPlan" "gangLimit" "I" : Cond) ∈ wsX3_init := List.mem_of_getElem? (i := 19) rfl
theorem wd_X3_init_20 : (.fieldLink RX3 43 "PourPlan" "today" "I" : Cond) ∈ wsX3_init := List.mem_of_getElem? (i := 20) rfl
theorem wd_X3_init_21 : (.fieldLink RX3 46 "PourPlan" "latestEnd" "I" : Cond) ∈ wsX3_init := List.mem_of_getElem? (i := 21) rfl
theorem wd_X3_init_22 : (.instanceMethod yX0_init : Cond) ∈ wsX3_init := List.mem_of_getElem? (i := 22) rfl
theorem wd_X3_init_49 : (.instanceMethod yX1_init : Cond) ∈ wsX3_init := List.mem_of_getElem? (i := 49) rfl
theorem wd_X3_init_62 : (.instanceMethod yX2_init : Cond) ∈ wsX3_init := List.mem_of_getElem? (i := 62) rfl
set_option maxHeartbeats 1000000 in
theorem pf_X3_init_1 (gw_10 : Nat → Int32) (gl_11 : Nat → Int32) (h_16 : (∀ j, j < 40 → gw_10 j = 20)) (h_17 : gl_11 0 = 500) (h_18 : gl_11 1 = 300) : (∀ j, j < 40 → gw_10 j = 20) := by
  assumption
set_option maxHeartbeats 1000000 in
theorem pf_X3_init_2 (gw_10 : Nat → Int32) (gl_11 : Nat → Int32) (h_16 : (∀ j, j < 40 → gw_10 j = 20)) (h_17 : gl_11 0 = 500) (h_18 : gl_11 1 = 300) : gl_11 0 = 500 := by
  assumption
set_option maxHeartbeats 1000000 in
theorem pf_X3_init_3 (gw_10 : Nat → Int32) (gl_11 : Nat → Int32) (h_16 : (∀ j, j < 40 → gw_10 j = 20)) (h_17 : gl_11 0 = 500) (h_18 : gl_11 1 = 300) : gl_11 1 = 300 := by
  assumption
set_option maxHeartbeats 1000000 in
theorem pf_X3_init_4 (gw_10 : Nat → Int32) (gl_11 : Nat → Int32) (h_16 : (∀ j, j < 40 → gw_10 j = 20)) (h_17 : gl_11 0 = 500) (h_18 : gl_11 1 = 300) : (∀ j, j < 3 → (upd (upd (upd (fun _ => (0 : Int32)) 0 10) 1 10) 2 10) j = 10) := by
  intro j hj
  have h3 : j = 0 ∨ j = 1 ∨ j = 2 := by omega
  rcases h3 with rfl | rfl | rfl <;> simp [upd]
set_option maxHeartbeats 4000000 in
set_option maxRecDepth 100000 in
theorem c_X3_init (l : Launch) (D : va_G) (cI : ClassId) (sz : Nat) (x : Nat) : CtV l yX3_init wsX3_init 4 91 30 351 [.ref x] D [(cI, .int)] [(x, .inr (3, [.null, .null, .null, .null, .null, .int 0, .int 0, .int 0]))] sz (fun (u : Nat × Nat × Nat × Nat × Nat × Nat × Nat × Nat × Nat × Nat × Nat × Nat × Nat × Nat × Nat × Nat × Nat × Nat × Nat × Nat × (Nat → Int32) × (Nat → Int32) × (Nat → Int32) × (Nat → Int32) × (Nat → Int32) × (Nat → Int32) × (Nat → Int32) × (Nat → Int32) × (Nat → Int32) × (Nat → Int32) × (Nat → Int32) × (Nat → Int32) × (Nat → Int32) × (Nat → Int32) × (Nat → Int32) × (Nat → Int32)) => (∀ j, j < 40 → u.2.2.2.2.2.2.2.2.2.2.2.2.2.2.2.2.2.2.2.2.1 j = 20) ∧ u.2.2.2.2.2.2.2.2.2.2.2.2.2.2.2.2.2.2.2.2.2.1 0 = 500 ∧ u.2.2.2.2.2.2.2.2.2.2.2.2.2.2.2.2.2.2.2.2.2.1 1 = 300 ∧ (∀ j, j < 3 → u.2.2.2.2.2.2.2.2.2.2.2.2.2.2.2.2.2.2.2.2.2.2.2.2.2.2.2.2.2.2.2.2.2.2.1 j = 10)) (fun (u : Nat × Nat × Nat × Nat × Nat × Nat × Nat × Nat × Nat × Nat × Nat × Nat × Nat × Nat × Nat × Nat × Nat × Nat × Nat × Nat × (Nat → Int32) × (Nat → Int32) × (Nat → Int32) × (Nat → Int32) × (Nat → Int32) × (Nat → Int32) × (Nat → Int32) × (Nat → Int32) × (Nat → Int32) × (Nat → Int32) × (Nat → Int32) × (Nat → Int32) × (Nat → Int32) × (Nat → Int32) × (Nat → Int32) × (Nat → Int32)) => [(x, .inr (3, [.ref u.1, .ref u.2.1, .ref u.2.2.1, .ref u.2.2.2.1, .ref u.2.2.2.2.1, .int 100, .int 0, .int 0])), (u.1, .inr (0, [.ref u.2.2.2.2.2.1, .ref u.2.2.2.2.2.2.1, .ref u.2.2.2.2.2.2.2.1, .ref u.2.2.2.2.2.2.2.2.1, .ref u.2.2.2.2.2.2.2.2.2.1, .ref u.2.2.2.2.2.2.2.2.2.2.1, .int 0, .int 0])), (u.2.2.2.2.2.1, .inl (cI, 40, .inl u.2.2.2.2.2.2.2.2.2.2.2.2.2.2.2.2.2.2.2.2.1)), (u.2.2.2.2.2.2.1, .inl (cI, 2, .inl u.2.2.2.2.2.2.2.2.2.2.2.2.2.2.2.2.2.2.2.2.2.1)), (u.2.2.2.2.2.2.2.1, .inl (cI, 6, .inl u.2.2.2.2.2.2.2.2.2.2.2.2.2.2.2.2.2.2.2.2.2.2.1)), (u.2.2.2.2.2.2.2.2.1, .inl (cI, 6, .inl u.2.2.2.2.2.2.2.2.2.2.2.2.2.2.2.2.2.2.2.2.2.2.2.1)), (u.2.2.2.2.2.2.2.2.2.1, .inl (cI, 40, .inl u.2.2.2.2.2.2.2.2.2.2.2.2.2.2.2.2.2.2.2.2.2.2.2.2.1)), (u.2.2.2.2.2.2.2.2.2.2.1, .inl (cI, 40, .inl u.2.2.2.2.2.2.2.2.2.2.2.2.2.2.2.2.2.2.2.2.2.2.2.2.2.1)), (u.2.1, .inr (1, [.ref u.2.2.2.2.2.2.2.2.2.2.2.1, .ref u.2.2.2.2.2.2.2.2.2.2.2.2.1, .ref u.2.2.2.2.2.2.2.2.2.2.2.2.2.1, .ref u.2.2.2.2.2.2.2.2.2.2.2.2.2.2.1, .ref u.2.2.2.2.2.2.2.2.2.2.2.2.2.2.2.1, .ref u.2.2.2.2.2.2.2.2.2.2.2.2.2.2.2.2.1, .ref u.2.2.2.2.2.2.2.2.2.2.2.2.2.2.2.2.2.1, .ref u.2.2.2.2.2.2.2.2.2.2.2.2.2.2.2.2.2.2.1, .int 0])), (u.2.2.2.2.2.2.2.2.2.2.2.1, .inl (cI, 10, .inl u.2.2.2.2.2.2.2.2.2.2.2.2.2.2.2.2.2.2.2.2.2.2.2.2.2.2.1)), (u.2.2.2.2.2.2.2.2.2.2.2.2.1, .inl (cI, 10, .inl u.2.2.2.2.2.2.2.2.2.2.2.2.2.2.2.2.2.2.2.2.2.2.2.2.2.2.2.1)), (u.2.2.2.2.2.2.2.2.2.2.2.2.2.1, .inl (cI, 10, .inl u.2.2.2.2.2.2.2.2.2.2.2.2.2.2.2.2.2.2.2.2.2.2.2.2.2.2.2.2.1)), (u.2.2.2.2.2.2.2.2.2.2.2.2.2.2.1, .inl (cI, 10, .inl u.2.2.2.2.2.2.2.2.2.2.2.2.2.2.2.2.2.2.2.2.2.2.2.2.2.2.2.2.2.1)), (u.2.2.2.2.2.2.2.2.2.2.2.2.2.2.2.1, .inl (cI, 10, .inl u.2.2.2.2.2.2.2.2.2.2.2.2.2.2.2.2.2.2.2.2.2.2.2.2.2.2.2.2.2.2.1)), (u.2.2.2.2.2.2.2.2.2.2.2.2.2.2.2.2.1, .inl (cI, 10, .inl u.2.2.2.2.2.2.2.2.2.2.2.2.2.2.2.2.2.2.2.2.2.2.2.2.2.2.2.2.2.2.2.1)), (u.2.2.2.2.2.2.2.2.2.2.2.2.2.2.2.2.2.2.1, .inl (cI, 10, .inl u.2.2.2.2.2.2.2.2.2.2.2.2.2.2.2.2.2.2.2.2.2.2.2.2.2.2.2.2.2.2.2.2.1)), (u.2.2.1, .inr (2, [.ref u.2.2.2.2.2.2.2.2.2.2.2.2.2.2.2.2.2.2.2.1, .int 0])), (u.2.2.2.2.2.2.2.2.2.2.2.2.2.2.2.2.2.2.2.1, .inl (cI, 10, .inl u.2.2.2.2.2.2.2.2.2.2.2.2.2.2.2.2.2.2.2.2.2.2.2.2.2.2.2.2.2.2.2.2.2.1)), (u.2.2.2.1, .inl (cI, 3, .inl u.2.2.2.2.2.2.2.2.2.2.2.2.2.2.2.2.2.2.2.2.2.2.2.2.2.2.2.2.2.2.2.2.2.2.1)), (u.2.2.2.2.1, .inl (cI, 5, .inl u.2.2.2.2.2.2.2.2.2.2.2.2.2.2.2.2.2.2.2.2.2.2.2.2.2.2.2.2.2.2.2.2.2.2.2))]) := by
  refine Met.ofW (cc := cX3_init) (maxL := 1) (ret := none) (by decide) rfl ?_
  intro p e s m args below meth c s₁ B hml hv
  obtain ⟨rfl, hsz, hP, hK, hD0, hN⟩ := hv
  have hx := B.exec
  have hb := B.bytes
  have hr := B.returns
  have hts := atoms_spec (ws := wsX3_init) B.pre
  have hown : s.vm.findClass RX3 = some m.cls := findClass_of_methodNamed B.named
  have hlocks := B.notSynchronized
  have hin : meth.name = "<init>" := (name_of_methodNamed B.named B.method).1
  subst hsz
  have hD := hD0.self (sz := s.heap.size)
  generalize hAe : va_A [(x, .inr (3, [.null, .null, .null, .null, .null, .int 0, .int 0, .int 0]))] s.heap.size = A at hD ⊢
  have hA : ∀ q : Nat, s.heap.size ≤ q → A q := fun q h => by rw [← hAe]; exact Or.inr h
  have hS : va_S A s.heap s.heap [] := va_S.rf
  have hl := lv_entry ([.ref x]) (n := 1) (Nat.le_of_ble_eq_true rfl)
  rw [lg_entry_eq]
  generalize (lg_sl ([.ref x]) ++ List.replicate (1 - (lg_sl ([.ref x])).length) Slot.unset).toArray = ls at hl ⊢
  have hl : lv_has ls 1 [(0, .ref x)] := hl
  have hP0 := hP
  refine lv_aload_n hx hb dX3_init_0 rfl (lv_at hl 0 rfl) ?_
  refine W.objInit hx hb hown (hts _ wd_X3_init_1) (hts _ wd_X3_init_2) (hts _ wd_X3_init_3) rfl (by rw [hml]; exact hl.1) rfl dX3_init_1 (Nat.le_of_ble_eq_true rfl) (Nat.le_of_ble_eq_true rfl) ?_
  refine W.eq (g2 := F0 m 4 ls []) rfl ?_
  refine lv_aload_n hx hb dX3_init_4 rfl (lv_at hl 0 rfl) ?_
  refine va_new (ci := 0) (fs := [.null, .null, .null, .null, .null, .null, .int 0, .int 0]) (C := RX0) (T := TX0) (N := 8) hx hb hts iw_X3_init_0 tyX0 tyX0_ok hown (hts _ wd_X3_init_4) (hts _ wd_X3_init_5) (hts _ wd_X3_init_6) hK hP hD hS hA rfl (fun j hj => by rcases (show j = 0 ∨ j = 1 ∨ j = 2 ∨ j = 3 ∨ j = 4 ∨ j = 5 ∨ j = 6 ∨ j = 7 by omega) with rfl | rfl | rfl | rfl | rfl | rfl | rfl | rfl <;> rfl) (Nat.le_of_ble_eq_true rfl) (Nat.le_of_ble_eq_true rfl) dX3_init_5 (fun q_1 H hP hD hS => ?_)
  have hP : va_P D vwCl [(x, .inr (3, [.null, .null, .null, .null, .null, .int 0, .int 0, .int 0])), (q_1, .inr (0, [.null, .null, .null, .null, .null, .null, .int 0, .int 0]))] H := hP
  have hD : va_D A [(x, .inr (3, [.null, .null, .null, .null, .null, .int 0, .int 0, .int 0])), (q_1, .inr (0, [.null, .null, .null, .null, .null, .null, .int 0, .int 0]))] := hD
  refine W.widen (k := 1) (n := 8) (Nat.le_of_ble_eq_true rfl) (Nat.le_of_ble_eq_true rfl) ?_
  refine lv_dup hx hb dX3_init_8 rfl ?_
  refine cc_v (wc := [(q_1, .inr (0, [.null, .null, .null, .null, .null, .null, .int 0, .int 0]))]) (wr := [(x, .inr (3, [.null, .null, .null, .null, .null, .int 0, .int 0, .int 0]))]) (va_runIN (As := []) (rest := [.ref q_1, .ref x]) ⟨hx, hb, hml, hown, hts⟩ (c_X0_init l D cI H.size q_1 ) ⟨va_cnB 0 hts gX3_init_X0_init_n13 rfl rfl rfl (nwM_13 hN) (hts _ wd_X3_init_6) (by decide +kernel) ⟨Nat.le_of_ble_eq_true rfl, Nat.le_of_ble_eq_true rfl⟩, rfl, (hts _ wd_X3_init_22)⟩ (preS (wc := [(q_1, .inr (0, [.null, .null, .null, .null, .null, .null, .int 0, .int 0]))]) hK hP hD hN [1] rfl (by decide)) rfl rfl hl.1 rfl (lv_room (Nat.le_of_ble_eq_true rfl)) dX3_init_9 ⟨Nat.le_of_ble_eq_true rfl, Nat.le_of_ble_eq_true rfl⟩) hP hD hS hA [1] [0] rfl rfl (by decide) (by decide) (fun u H locs w_3 hP hD hS => ?_)
  obtain ⟨b0_4, b1_5, b2_6, b3_7, b4_8, b5_9, gw_10, gl_11, gd_12, gh_13, gg_14, gs_15⟩ := u
  have hP : va_P D vwCl [(x, .inr (3, [.null, .null, .null, .null, .null, .int 0, .int 0, .int 0])), (q_1, .inr (0, [.ref b0_4, .ref b1_5, .ref b2_6, .ref b3_7, .ref b4_8, .ref b5_9, .int 0, .int 0])), (b0_4, .inl (cI, 40, .inl gw_10)), (b1_5, .inl (cI, 2, .inl gl_11)), (b2_6, .inl (cI, 6, .inl gd_12)), (b3_7, .inl (cI, 6, .inl gh_13)), (b4_8, .inl (cI, 40, .inl gg_14)), (b5_9, .inl (cI, 40, .inl gs_15))] H := hP
  have hD : va_D A [(x, .inr (3, [.null, .null, .null, .null, .null, .int 0, .int 0, .int 0])), (q_1, .inr (0, [.ref b0_4, .ref b1_5, .ref b2_6, .ref b3_7, .ref b4_8, .ref b5_9, .int 0, .int 0])), (b0_4, .inl (cI, 40, .inl gw_10)), (b1_5, .inl (cI, 2, .inl gl_11)), (b2_6, .inl (cI, 6, .inl gd_12)), (b3_7, .inl (cI, 6, .inl gh_13)), (b4_8, .inl (cI, 40, .inl gg_14)), (b5_9, .inl (cI, 40, .inl gs_15))] := hD
  have w_3 : (∀ j, j < 40 → gw_10 j = 20) ∧ gl_11 0 = 500 ∧ gl_11 1 = 300 := w_3
  obtain ⟨h_16, h_17, h_18⟩ := w_3
  refine W.widen (k := 7) (n := 142) (Nat.le_of_ble_eq_true rfl) (Nat.le_of_ble_eq_true rfl) ?_
  refine va_putF (D := D) (ci := 3) (v := .ref q_1) (ty := .object "PourPlan$Curing") (C := RX3) (T := TX3) (N := 8) hx hb hts iw_X3_init_3 tyX3 tyX3_ok nmX3 hown hK hP hD hS 0 rfl rfl 0 (by decide) (hts _ wd_X3_init_7) (fun _ h9 => h9) rfl hin rfl (by decide +kernel) rfl rfl (Nat.le_of_ble_eq_true rfl) dX3_init_12 (fun H locs hP hD hS => ?_)
  have hP : va_P D vwCl [(x, .inr (3, [.ref q_1, .null, .null, .null, .null, .int 0, .int 0, .int 0])), (q_1, .inr (0, [.ref b0_4, .ref b1_5, .ref b2_6, .ref b3_7, .ref b4_8, .ref b5_9, .int 0, .int 0])), (b0_4, .inl (cI, 40, .inl gw_10)), (b1_5, .inl (cI, 2, .inl gl_11)), (b2_6, .inl (cI, 6, .inl gd_12)), (b3_7, .inl (cI, 6, .inl gh_13)), (b4_8, .inl (cI, 40, .inl gg_14)), (b5_9, .inl (cI, 40, .inl gs_15))] H := hP
  have hD : va_D A [(x, .inr (3, [.ref q_1, .null, .null, .null, .null, .int 0, .int 0, .int 0])), (q_1, .inr (0, [.ref b0_4, .ref b1_5, .ref b2_6, .ref b3_7, .ref b4_8, .ref b5_9, .int 0, .int 0])), (b0_4, .inl (cI, 40, .inl gw_10)), (b1_5, .inl (cI, 2, .inl gl_11)), (b2_6, .inl (cI, 6, .inl gd_12)), (b3_7, .inl (cI, 6, .inl gh_13)), (b4_8, .inl (cI, 40, .inl gg_14)), (b5_9, .inl (cI, 40, .inl gs_15))] := hD
  refine lv_aload_n hx hb dX3_init_15 rfl (lv_at hl 0 rfl) ?_
  refine va_new (ci := 1) (fs := [.null, .null, .null, .null, .null, .null, .null, .null, .int 0]) (C := RX1) (T := TX1) (N := 9) hx hb hts iw_X3_init_1 tyX1 tyX1_ok hown (hts _ wd_X3_init_8) (hts _ wd_X3_init_9) (hts _ wd_X3_init_10) hK hP hD hS hA rfl (fun j hj => by rcases (show j = 0 ∨ j = 1 ∨ j = 2 ∨ j = 3 ∨ j = 4 ∨ j = 5 ∨ j = 6 ∨ j = 7 ∨ j = 8 by omega) with rfl | rfl | rfl | rfl | rfl | rfl | rfl | rfl | rfl <;> rfl) (Nat.le_of_ble_eq_true rfl) (Nat.le_of_ble_eq_true rfl) dX3_init_16 (fun q_19 H hP hD hS => ?_)
  have hP : va_P D vwCl [(x, .inr (3, [.ref q_1, .null, .null, .null, .null, .int 0, .int 0, .int 0])), (q_1, .inr (0, [.ref b0_4, .ref b1_5, .ref b2_6, .ref b3_7, .ref b4_8, .ref b5_9, .int 0, .int 0])), (b0_4, .inl (cI, 40, .inl gw_10)), (b1_5, .inl (cI, 2, .inl gl_11)), (b2_6, .inl (cI, 6, .inl gd_12)), (b3_7, .inl (cI, 6, .inl gh_13)), (b4_8, .inl (cI, 40, .inl gg_14)), (b5_9, .inl (cI, 40, .inl gs_15)), (q_19, .inr (1, [.null, .null, .null, .null, .null, .null, .null, .null, .int 0]))] H := hP
  have hD : va_D A [(x, .inr (3, [.ref q_1, .null, .null, .null, .null, .int 0, .int 0, .int 0])), (q_1, .inr (0, [.ref b0_4, .ref b1_5, .ref b2_6, .ref b3_7, .ref b4_8, .ref b5_9, .int 0, .int 0])), (b0_4, .inl (cI, 40, .inl gw_10)), (b1_5, .inl (cI, 2, .inl gl_11)), (b2_6, .inl (cI, 6, .inl gd_12)), (b3_7, .inl (cI, 6, .inl gh_13)), (b4_8, .inl (cI, 40, .inl gg_14)), (b5_9, .inl (cI, 40, .inl gs_15)), (q_19, .inr (1, [.null, .null, .null, .null, .null, .null, .null, .null, .int 0]))] := hD
  refine W.widen (k := 8) (n := 151) (Nat.le_of_ble_eq_true rfl) (Nat.le_of_ble_eq_true rfl) ?_
  refine lv_dup hx hb dX3_init_19 rfl ?_
  refine cc_v (wc := [(q_19, .inr (1, [.null, .null, .null, .null, .null, .null, .null, .null, .int 0]))]) (wr := [(x, .inr (3, [.ref q_1, .null, .null, .null, .null, .int 0, .int 0, .int 0])), (q_1, .inr (0, [.ref b0_4, .ref b1_5, .ref b2_6, .ref b3_7, .ref b4_8, .ref b5_9, .int 0, .int 0])), (b0_4, .inl (cI, 40, .inl gw_10)), (b1_5, .inl (cI, 2, .inl gl_11)), (b2_6, .inl (cI, 6, .inl gd_12)), (b3_7, .inl (cI, 6, .inl gh_13)), (b4_8, .inl (cI, 40, .inl gg_14)), (b5_9, .inl (cI, 40, .inl gs_15))]) (va_runIN (As := []) (rest := [.ref q_19, .ref x]) ⟨hx, hb, hml, hown, hts⟩ (c_X1_init l D cI H.size q_19 ) ⟨va_cnB 0 hts gX3_init_X1_init_n20 rfl rfl rfl (nwM_20 hN) (hts _ wd_X3_init_10) (by decide +kernel) ⟨Nat.le_of_ble_eq_true rfl, Nat.le_of_ble_eq_true rfl⟩, rfl, (hts _ wd_X3_init_49)⟩ (preS (wc := [(q_19, .inr (1, [.null, .null, .null, .null, .null, .null, .null, .null, .int 0]))]) hK hP hD hN [8] rfl (by decide)) rfl rfl hl.1 rfl (lv_room (Nat.le_of_ble_eq_true rfl)) dX3_init_20 ⟨Nat.le_of_ble_eq_true rfl, Nat.le_of_ble_eq_true rfl⟩) hP hD hS hA [8] [0, 1, 2, 3, 4, 5, 6, 7] rfl rfl (by decide) (by decide) (fun u H locs w_21 hP hD hS => ?_)
  obtain ⟨b0_22, b1_23, b2_24, b3_25, b4_26, b5_27, b6_28, b7_29, g0_30, g1_31, g2_32, g3_33, g4_34, g5_35, g7_36⟩ := u
  have hP : va_P D vwCl [(x, .inr (3, [.ref q_1, .null, .null, .null, .null, .int 0, .int 0, .int 0])), (q_1, .inr (0, [.ref b0_4, .ref b1_5, .ref b2_6, .ref b3_7, .ref b4_8, .ref b5_9, .int 0, .int 0])), (b0_4, .inl (cI, 40, .inl gw_10)), (b1_5, .inl (cI, 2, .inl gl_11)), (b2_6, .inl (cI, 6, .inl gd_12)), (b3_7, .inl (cI, 6, .inl gh_13)), (b4_8, .inl (cI, 40, .inl gg_14)), (b5_9, .inl (cI, 40, .inl gs_15)), (q_19, .inr (1, [.ref b0_22, .ref b1_23, .ref b2_24, .ref b3_25, .ref b4_26, .ref b5_27, .ref b6_28, .ref b7_29, .int 0])), (b0_22, .inl (cI, 10, .inl g0_30)), (b1_23, .inl (cI, 10, .inl g1_31)), (b2_24, .inl (cI, 10, .inl g2_32)), (b3_25, .inl (cI, 10, .inl g3_33)), (b4_26, .inl (cI, 10, .inl g4_34)), (b5_27, .inl (cI, 10, .inl g5_35)), (b7_29, .inl (cI, 10, .inl g7_36))] H := hP
  have hD : va_D A [(x, .inr (3, [.ref q_1, .null, .null, .null, .null, .int 0, .int 0, .int 0])), (q_1, .inr (0, [.ref b0_4, .ref b1_5, .ref b2_6, .ref b3_7, .ref b4_8, .ref b5_9, .int 0, .int 0])), (b0_4, .inl (cI, 40, .inl gw_10)), (b1_5, .inl (cI, 2, .inl gl_11)), (b2_6, .inl (cI, 6, .inl gd_12)), (b3_7, .inl (cI, 6, .inl gh_13)), (b4_8, .inl (cI, 40, .inl gg_14)), (b5_9, .inl (cI, 40, .inl gs_15)), (q_19, .inr (1, [.ref b0_22, .ref b1_23, .ref b2_24, .ref b3_25, .ref b4_26, .ref b5_27, .ref b6_28, .ref b7_29, .int 0])), (b0_22, .inl (cI, 10, .inl g0_30)), (b1_23, .inl (cI, 10, .inl g1_31)), (b2_24, .inl (cI, 10, .inl g2_32)), (b3_25, .inl (cI, 10, .inl g3_33)), (b4_26, .inl (cI, 10, .inl g4_34)), (b5_27, .inl (cI, 10, .inl g5_35)), (b7_29, .inl (cI, 10, .inl g7_36))] := hD
  refine W.widen (k := 26) (n := 331) (Nat.le_of_ble_eq_true rfl) (Nat.le_of_ble_eq_true rfl) ?_
  refine va_putF (D := D) (ci := 3) (v := .ref q_19) (ty := .object "PourPlan$Pieces") (C := RX3) (T := TX3) (N := 8) hx hb hts iw_X3_init_3 tyX3 tyX3_ok nmX3 hown hK hP hD hS 0 rfl rfl 1 (by decide) (hts _ wd_X3_init_11) (fun _ h9 => h9) rfl hin rfl (by decide +kernel) rfl rfl (Nat.le_of_ble_eq_true rfl) dX3_init_23 (fun H locs hP hD hS => ?_)
  have hP : va_P D vwCl [(x, .inr (3, [.ref q_1, .ref q_19, .null, .null, .null, .int 0, .int 0, .int 0])), (q_1, .inr (0, [.ref b0_4, .ref b1_5, .ref b2_6, .ref b3_7, .ref b4_8, .ref b5_9, .int 0, .int 0])), (b0_4, .inl (cI, 40, .inl gw_10)), (b1_5, .inl (cI, 2, .inl gl_11)), (b2_6, .inl (cI, 6, .inl gd_12)), (b3_7, .inl (cI, 6, .inl gh_13)), (b4_8, .inl (cI, 40, .inl gg_14)), (b5_9, .inl (cI, 40, .inl gs_15)), (q_19, .inr (1, [.ref b0_22, .ref b1_23, .ref b2_24, .ref b3_25, .ref b4_26, .ref b5_27, .ref b6_28, .ref b7_29, .int 0])), (b0_22, .inl (cI, 10, .inl g0_30)), (b1_23, .inl (cI, 10, .inl g1_31)), (b2_24, .inl (cI, 10, .inl g2_32)), (b3_25, .inl (cI, 10, .inl g3_33)), (b4_26, .inl (cI, 10, .inl g4_34)), (b5_27, .inl (cI, 10, .inl g5_35)), (b7_29, .inl (cI, 10, .inl g7_36))] H := hP
  have hD : va_D A [(x, .inr (3, [.ref q_1, .ref q_19, .null, .null, .null, .int 0, .int 0, .int 0])), (q_1, .inr (0, [.ref b0_4, .ref b1_5, .ref b2_6, .ref b3_7, .ref b4_8, .ref b5_9, .int 0, .int 0])), (b0_4, .inl (cI, 40, .inl gw_10)), (b1_5, .inl (cI, 2, .inl gl_11)), (b2_6, .inl (cI, 6, .inl gd_12)), (b3_7, .inl (cI, 6, .inl gh_13)), (b4_8, .inl (cI, 40, .inl gg_14)), (b5_9, .inl (cI, 40, .inl gs_15)), (q_19, .inr (1, [.ref b0_22, .ref b1_23, .ref b2_24, .ref b3_25, .ref b4_26, .ref b5_27, .ref b6_28, .ref b7_29, .int 0])), (b0_22, .inl (cI, 10, .inl g0_30)), (b1_23, .inl (cI, 10, .inl g1_31)), (b2_24, .inl (cI, 10, .inl g2_32)), (b3_25, .inl (cI, 10, .inl g3_33)), (b4_26, .inl (cI, 10, .inl g4_34)), (b5_27, .inl (cI, 10, .inl g5_35)), (b7_29, .inl (cI, 10, .inl g7_36))] := hD
  refine lv_aload_n hx hb dX3_init_26 rfl (lv_at hl 0 rfl) ?_
  refine va_new (ci := 2) (fs := [.null, .int 0]) (C := RX2) (T := TX2) (N := 2) hx hb hts iw_X3_init_2 tyX2 tyX2_ok hown (hts _ wd_X3_init_12) (hts _ wd_X3_init_13) (hts _ wd_X3_init_14) hK hP hD hS hA rfl (fun j hj => by rcases (show j = 0 ∨ j = 1 by omega) with rfl | rfl <;> rfl) (Nat.le_of_ble_eq_true rfl) (Nat.le_of_ble_eq_true rfl) dX3_init_27 (fun q_37 H hP hD hS => ?_)
  have hP : va_P D vwCl [(x, .inr (3, [.ref q_1, .ref q_19, .null, .null, .null, .int 0, .int 0, .int 0])), (q_1, .inr (0, [.ref b0_4, .ref b1_5, .ref b2_6, .ref b3_7, .ref b4_8, .ref b5_9, .int 0, .int 0])), (b0_4, .inl (cI, 40, .inl gw_10)), (b1_5, .inl (cI, 2, .inl gl_11)), (b2_6, .inl (cI, 6, .inl gd_12)), (b3_7, .inl (cI, 6, .inl gh_13)), (b4_8, .inl (cI, 40, .inl gg_14)), (b5_9, .inl (cI, 40, .inl gs_15)), (q_19, .inr (1, [.ref b0_22, .ref b1_23, .ref b2_24, .ref b3_25, .ref b4_26, .ref b5_27, .ref b6_28, .ref b7_29, .int 0])), (b0_22, .inl (cI, 10, .inl g0_30)), (b1_23, .inl (cI, 10, .inl g1_31)), (b2_24, .inl (cI, 10, .inl g2_32)), (b3_25, .inl (cI, 10, .inl g3_33)), (b4_26, .inl (cI, 10, .inl g4_34)), (b5_27, .inl (cI, 10, .inl g5_35)), (b7_29, .inl (cI, 10, .inl g7_36)), (q_37, .inr (2, [.null, .int 0]))] H := hP
  have hD : va_D A [(x, .inr (3, [.ref q_1, .ref q_19, .null, .null, .null, .int 0, .int 0, .int 0])), (q_1, .inr (0, [.ref b0_4, .ref b1_5, .ref b2_6, .ref b3_7, .ref b4_8, .ref b5_9, .int 0, .int 0])), (b0_4, .inl (cI, 40, .inl gw_10)), (b1_5, .inl (cI, 2, .inl gl_11)), (b2_6, .inl (cI, 6, .inl gd_12)), (b3_7, .inl (cI, 6, .inl gh_13)), (b4_8, .inl (cI, 40, .inl gg_14)), (b5_9, .inl (cI, 40, .inl gs_15)), (q_19, .inr (1, [.ref b0_22, .ref b1_23, .ref b2_24, .ref b3_25, .ref b4_26, .ref b5_27, .ref b6_28, .ref b7_29, .int 0])), (b0_22, .inl (cI, 10, .inl g0_30)), (b1_23, .inl (cI, 10, .inl g1_31)), (b2_24, .inl (cI, 10, .inl g2_32)), (b3_25, .inl (cI, 10, .inl g3_33)), (b4_26, .inl (cI, 10, .inl g4_34)), (b5_27, .inl (cI, 10, .inl g5_35)), (b7_29, .inl (cI, 10, .inl g7_36)), (q_37, .inr (2, [.null, .int 0]))] := hD
  refine W.widen (k := 27) (n := 333) (Nat.le_of_ble_eq_true rfl) (Nat.le_of_ble_eq_true rfl) ?_
  refine lv_dup hx hb dX3_init_30 rfl ?_
  refine cc_v (wc := [(q_37, .inr (2, [.null, .int 0]))]) (wr := [(x, .inr (3, [.ref q_1, .ref q_19, .null, .null, .null, .int 0, .int 0, .int 0])), (q_1, .inr (0, [.ref b0_4, .ref b1_5, .ref b2_6, .ref b3_7, .ref b4_8, .ref b5_9, .int 0, .int 0])), (b0_4, .inl (cI, 40, .inl gw_10)), (b1_5, .inl (cI, 2, .inl gl_11)), (b2_6, .inl (cI, 6, .inl gd_12)), (b3_7, .inl (cI, 6, .inl gh_13)), (b4_8, .inl (cI, 40, .inl gg_14)), (b5_9, .inl (cI, 40, .inl gs_15)), (q_19, .inr (1, [.ref b0_22, .ref b1_23, .ref b2_24, .ref b3_25, .ref b4_26, .ref b5_27, .ref b6_28, .ref b7_29, .int 0])), (b0_22, .inl (cI, 10, .inl g0_30)), (b1_23, .inl (cI, 10, .inl g1_31)), (b2_24, .inl (cI, 10, .inl g2_32)), (b3_25, .inl (cI, 10, .inl g3_33)), (b4_26, .inl (cI, 10, .inl g4_34)), (b5_27, .inl (cI, 10, .inl g5_35)), (b7_29, .inl (cI, 10, .inl g7_36))]) (va_runIN (As := []) (rest := [.ref q_37, .ref x]) ⟨hx, hb, hml, hown, hts⟩ (c_X2_init l D cI H.size q_37 ) ⟨va_cnB 0 hts gX3_init_X2_init_n27 rfl rfl rfl (nwM_27 hN) (hts _ wd_X3_init_14) (by decide +kernel) ⟨Nat.le_of_ble_eq_true rfl, Nat.le_of_ble_eq_true rfl⟩, rfl, (hts _ wd_X3_init_62)⟩ (preS (wc := [(q_37, .inr (2, [.null, .int 0]))]) hK hP hD hN [16] rfl (by decide)) rfl rfl hl.1 rfl (lv_room (Nat.le_of_ble_eq_true rfl)) dX3_init_31 ⟨Nat.le_of_ble_eq_true rfl, Nat.le_of_ble_eq_true rfl⟩) hP hD hS hA [16] [0, 1, 2, 3, 4, 5, 6, 7, 8, 9, 10, 11, 12, 13, 14, 15] rfl rfl (by decide) (by decide) (fun u H locs w_39 hP hD hS => ?_)
  obtain ⟨b0_40, g0_41⟩ := u
  have hP : va_P D vwCl [(x, .inr (3, [.ref q_1, .ref q_19, .null, .null, .null, .int 0, .int 0, .int 0])), (q_1, .inr (0, [.ref b0_4, .ref b1_5, .ref b2_6, .ref b3_7, .ref b4_8, .ref b5_9, .int 0, .int 0])), (b0_4, .inl (cI, 40, .inl gw_10)), (b1_5, .inl (cI, 2, .inl gl_11)), (b2_6, .inl (cI, 6, .inl gd_12)), (b3_7, .inl (cI, 6, .inl gh_13)), (b4_8, .inl (cI, 40, .inl gg_14)), (b5_9, .inl (cI, 40, .inl gs_15)), (q_19, .inr (1, [.ref b0_22, .ref b1_23, .ref b2_24, .ref b3_25, .ref b4_26, .ref b5_27, .ref b6_28, .ref b7_29, .int 0])), (b0_22, .inl (cI, 10, .inl g0_30)), (b1_23, .inl (cI, 10, .inl g1_31)), (b2_24, .inl (cI, 10, .inl g2_32)), (b3_25, .inl (cI, 10, .inl g3_33)), (b4_26, .inl (cI, 10, .inl g4_34)), (b5_27, .inl (cI, 10, .inl g5_35)), (b7_29, .inl (cI, 10, .inl g7_36)), (q_37, .inr (2, [.ref b0_40, .int 0])), (b0_40, .inl (cI, 10, .inl g0_41))] H := hP
  have hD : va_D A [(x, .inr (3, [.ref q_1, .ref q_19, .null, .null, .null, .int 0, .int 0, .int 0])), (q_1, .inr (0, [.ref b0_4, .ref b1_5, .ref b2_6, .ref b3_7, .ref b4_8, .ref b5_9, .int 0, .int 0])), (b0_4, .inl (cI, 40, .inl gw_10)), (b1_5, .inl (cI, 2, .inl gl_11)), (b2_6, .inl (cI, 6, .inl gd_12)), (b3_7, .inl (cI, 6, .inl gh_13)), (b4_8, .inl (cI, 40, .inl gg_14)), (b5_9, .inl (cI, 40, .inl gs_15)), (q_19, .inr (1, [.ref b0_22, .ref b1_23, .ref b2_24, .ref b3_25, .ref b4_26, .ref b5_27, .ref b6_28, .ref b7_29, .int 0])), (b0_22, .inl (cI, 10, .inl g0_30)), (b1_23, .inl (cI, 10, .inl g1_31)), (b2_24, .inl (cI, 10, .inl g2_32)), (b3_25, .inl (cI, 10, .inl g3_33)), (b4_26, .inl (cI, 10, .inl g4_34)), (b5_27, .inl (cI, 10, .inl g5_35)), (b7_29, .inl (cI, 10, .inl g7_36)), (q_37, .inr (2, [.ref b0_40, .int 0])), (b0_40, .inl (cI, 10, .inl g0_41))] := hD
  refine W.widen (k := 28) (n := 343) (Nat.le_of_ble_eq_true rfl) (Nat.le_of_ble_eq_true rfl) ?_
  refine va_putF (D := D) (ci := 3) (v := .ref q_37) (ty := .object "PourPlan$Sequence") (C := RX3) (T := TX3) (N := 8) hx hb hts iw_X3_init_3 tyX3 tyX3_ok nmX3 hown hK hP hD hS 0 rfl rfl 2 (by decide) (hts _ wd_X3_init_15) (fun _ h9 => h9) rfl hin rfl (by decide +kernel) rfl rfl (Nat.le_of_ble_eq_true rfl) dX3_init_34 (fun H locs hP hD hS => ?_)
  have hP : va_P D vwCl [(x, .inr (3, [.ref q_1, .ref q_19, .ref q_37, .null, .null, .int 0, .int 0, .int 0])), (q_1, .inr (0, [.ref b0_4, .ref b1_5, .ref b2_6, .ref b3_7, .ref b4_8, .ref b5_9, .int 0, .int 0])), (b0_4, .inl (cI, 40, .inl gw_10)), (b1_5, .inl (cI, 2, .inl gl_11)), (b2_6, .inl (cI, 6, .inl gd_12)), (b3_7, .inl (cI, 6, .inl gh_13)), (b4_8, .inl (cI, 40, .inl gg_14)), (b5_9, .inl (cI, 40, .inl gs_15)), (q_19, .inr (1, [.ref b0_22, .ref b1_23, .ref b2_24, .ref b3_25, .ref b4_26, .ref b5_27, .ref b6_28, .ref b7_29, .int 0])), (b0_22, .inl (cI, 10, .inl g0_30)), (b1_23, .inl (cI, 10, .inl g1_31)), (b2_24, .inl (cI, 10, .inl g2_32)), (b3_25, .inl (cI, 10, .inl g3_33)), (b4_26, .inl (cI, 10, .inl g4_34)), (b5_27, .inl (cI, 10, .inl g5_35)), (b7_29, .inl (cI, 10, .inl g7_36)), (q_37, .inr (2, [.ref b0_40, .int 0])), (b0_40, .inl (cI, 10, .inl g0_41))] H := hP
  have hD : va_D A [(x, .inr (3, [.ref q_1, .ref q_19, .ref q_37, .null, .null, .int 0, .int 0, .int 0])), (q_1, .inr (0, [.ref b0_4, .ref b1_5, .ref b2_6, .ref b3_7, .ref b4_8, .ref b5_9, .int 0, .int 0])), (b0_4, .inl (cI, 40, .inl gw_10)), (b1_5, .inl (cI, 2, .inl gl_11)), (b2_6, .inl (cI, 6, .inl gd_12)), (b3_7, .inl (cI, 6, .inl gh_13)), (b4_8, .inl (cI, 40, .inl gg_14)), (b5_9, .inl (cI, 40, .inl gs_15)), (q_19, .inr (1, [.ref b0_22, .ref b1_23, .ref b2_24, .ref b3_25, .ref b4_26, .ref b5_27, .ref b6_28, .ref b7_29, .int 0])), (b0_22, .inl (cI, 10, .inl g0_30)), (b1_23, .inl (cI, 10, .inl g1_31)), (b2_24, .inl (cI, 10, .inl g2_32)), (b3_25, .inl (cI, 10, .inl g3_33)), (b4_26, .inl (cI, 10, .inl g4_34)), (b5_27, .inl (cI, 10, .inl g5_35)), (b7_29, .inl (cI, 10, .inl g7_36)), (q_37, .inr (2, [.ref b0_40, .int 0])), (b0_40, .inl (cI, 10, .inl g0_41))] := hD
  refine lv_aload_n hx hb dX3_init_37 rfl (lv_at hl 0 rfl) ?_
  refine lv_iconst (v := 3) hx hb dX3_init_38 (by decide) ?_
  refine va_newa (atype := .int) (a0 := (3, .inl (fun _ => (0 : Int32)))) (N' := 3) hx hb (hts _ wd_X3_init_16) rfl hK hP hD hS hA (fun _ => rfl) (by decide) (by decide) (by decide) (Nat.le_of_ble_eq_true rfl) (Nat.le_of_ble_eq_true rfl) dX3_init_39 (fun q_42 cA H hK hP hD hS => ?_)
  have ecA := (cA_is (t0 := 0) (t1 := 1) hK rfl rfl).symm
  subst ecA
  have hK := hK.sub (tys' := [(cI, .int)]) [0] rfl
  have hP : va_P D vwCl [(x, .inr (3, [.ref q_1, .ref q_19, .ref q_37, .null, .null, .int 0, .int 0, .int 0])), (q_1, .inr (0, [.ref b0_4, .ref b1_5, .ref b2_6, .ref b3_7, .ref b4_8, .ref b5_9, .int 0, .int 0])), (b0_4, .inl (cI, 40, .inl gw_10)), (b1_5, .inl (cI, 2, .inl gl_11)), (b2_6, .inl (cI, 6, .inl gd_12)), (b3_7, .inl (cI, 6, .inl gh_13)), (b4_8, .inl (cI, 40, .inl gg_14)), (b5_9, .inl (cI, 40, .inl gs_15)), (q_19, .inr (1, [.ref b0_22, .ref b1_23, .ref b2_24, .ref b3_25, .ref b4_26, .ref b5_27, .ref b6_28, .ref b7_29, .int 0])), (b0_22, .inl (cI, 10, .inl g0_30)), (b1_23, .inl (cI, 10, .inl g1_31)), (b2_24, .inl (cI, 10, .inl g2_32)), (b3_25, .inl (cI, 10, .inl g3_33)), (b4_26, .inl (cI, 10, .inl g4_34)), (b5_27, .inl (cI, 10, .inl g5_35)), (b7_29, .inl (cI, 10, .inl g7_36)), (q_37, .inr (2, [.ref b0_40, .int 0])), (b0_40, .inl (cI, 10, .inl g0_41)), (q_42, .inl (cI, 3, .inl (fun _ => (0 : Int32))))] H := hP
  have hD : va_D A [(x, .inr (3, [.ref q_1, .ref q_19, .ref q_37, .null, .null, .int 0, .int 0, .int 0])), (q_1, .inr (0, [.ref b0_4, .ref b1_5, .ref b2_6, .ref b3_7, .ref b4_8, .ref b5_9, .int 0, .int 0])), (b0_4, .inl (cI, 40, .inl gw_10)), (b1_5, .inl (cI, 2, .inl gl_11)), (b2_6, .inl (cI, 6, .inl gd_12)), (b3_7, .inl (cI, 6, .inl gh_13)), (b4_8, .inl (cI, 40, .inl gg_14)), (b5_9, .inl (cI, 40, .inl gs_15)), (q_19, .inr (1, [.ref b0_22, .ref b1_23, .ref b2_24, .ref b3_25, .ref b4_26, .ref b5_27, .ref b6_28, .ref b7_29, .int 0])), (b0_22, .inl (cI, 10, .inl g0_30)), (b1_23, .inl (cI, 10, .inl g1_31)), (b2_24, .inl (cI, 10, .inl g2_32)), (b3_25, .inl (cI, 10, .inl g3_33)), (b4_26, .inl (cI, 10, .inl g4_34)), (b5_27, .inl (cI, 10, .inl g5_35)), (b7_29, .inl (cI, 10, .inl g7_36)), (q_37, .inr (2, [.ref b0_40, .int 0])), (b0_40, .inl (cI, 10, .inl g0_41)), (q_42, .inl (cI, 3, .inl (fun _ => (0 : Int32))))] := hD
  refine W.widen (k := 29) (n := 346) (Nat.le_of_ble_eq_true rfl) (Nat.le_of_ble_eq_true rfl) ?_
  refine lv_dup hx hb dX3_init_41 rfl ?_
  refine lv_iconst (v := 0) hx hb dX3_init_42 (by decide) ?_
  refine lv_bipush (v := 10) hx hb dX3_init_43 (by decide) ?_
  refine va_iast hx hb hK hP hD hS 18 0 rfl rfl (by unfold vp_in; decide) dX3_init_45 (fun H locs hP hD hS => ?_)
  have hP : va_P D vwCl [(x, .inr (3, [.ref q_1, .ref q_19, .ref q_37, .null, .null, .int 0, .int 0, .int 0])), (q_1, .inr (0, [.ref b0_4, .ref b1_5, .ref b2_6, .ref b3_7, .ref b4_8, .ref b5_9, .int 0, .int 0])), (b0_4, .inl (cI, 40, .inl gw_10)), (b1_5, .inl (cI, 2, .inl gl_11)), (b2_6, .inl (cI, 6, .inl gd_12)), (b3_7, .inl (cI, 6, .inl gh_13)), (b4_8, .inl (cI, 40, .inl gg_14)), (b5_9, .inl (cI, 40, .inl gs_15)), (q_19, .inr (1, [.ref b0_22, .ref b1_23, .ref b2_24, .ref b3_25, .ref b4_26, .ref b5_27, .ref b6_28, .ref b7_29, .int 0])), (b0_22, .inl (cI, 10, .inl g0_30)), (b1_23, .inl (cI, 10, .inl g1_31)), (b2_24, .inl (cI, 10, .inl g2_32)), (b3_25, .inl (cI, 10, .inl g3_33)), (b4_26, .inl (cI, 10, .inl g4_34)), (b5_27, .inl (cI, 10, .inl g5_35)), (b7_29, .inl (cI, 10, .inl g7_36)), (q_37, .inr (2, [.ref b0_40, .int 0])), (b0_40, .inl (cI, 10, .inl g0_41)), (q_42, .inl (cI, 3, .inl (upd (fun _ => (0 : Int32)) 0 10)))] H := hP
  have hD : va_D A [(x, .inr (3, [.ref q_1, .ref q_19, .ref q_37, .null, .null, .int 0, .int 0, .int 0])), (q_1, .inr (0, [.ref b0_4, .ref b1_5, .ref b2_6, .ref b3_7, .ref b4_8, .ref b5_9, .int 0, .int 0])), (b0_4, .inl (cI, 40, .inl gw_10)), (b1_5, .inl (cI, 2, .inl gl_11)), (b2_6, .inl (cI, 6, .inl gd_12)), (b3_7, .inl (cI, 6, .inl gh_13)), (b4_8, .inl (cI, 40, .inl gg_14)), (b5_9, .inl (cI, 40, .inl gs_15)), (q_19, .inr (1, [.ref b0_22, .ref b1_23, .ref b2_24, .ref b3_25, .ref b4_26, .ref b5_27, .ref b6_28, .ref b7_29, .int 0])), (b0_22, .inl (cI, 10, .inl g0_30)), (b1_23, .inl (cI, 10, .inl g1_31)), (b2_24, .inl (cI, 10, .inl g2_32)), (b3_25, .inl (cI, 10, .inl g3_33)), (b4_26, .inl (cI, 10, .inl g4_34)), (b5_27, .inl (cI, 10, .inl g5_35)), (b7_29, .inl (cI, 10, .inl g7_36)), (q_37, .inr (2, [.ref b0_40, .int 0])), (b0_40, .inl (cI, 10, .inl g0_41)), (q_42, .inl (cI, 3, .inl (upd (fun _ => (0 : Int32)) 0 10)))] := hD
  refine lv_dup hx hb dX3_init_46 rfl ?_
  refine lv_iconst (v := 1) hx hb dX3_init_47 (by decide) ?_
  refine lv_bipush (v := 10) hx hb dX3_init_48 (by decide) ?_
  refine va_iast hx hb hK hP hD hS 18 0 rfl rfl (by unfold vp_in; decide) dX3_init_50 (fun H locs hP hD hS => ?_)
  have hP : va_P D vwCl [(x, .inr (3, [.ref q_1, .ref q_19, .ref q_37, .null, .null, .int 0, .int 0, .int 0])), (q_1, .inr (0, [.ref b0_4, .ref b1_5, .ref b2_6, .ref b3_7, .ref b4_8, .ref b5_9, .int 0, .int 0])), (b0_4, .inl (cI, 40, .inl gw_10)), (b1_5, .inl (cI, 2, .inl gl_11)), (b2_6, .inl (cI, 6, .inl gd_12)), (b3_7, .inl (cI, 6, .inl gh_13)), (b4_8, .inl (cI, 40, .inl gg_14)), (b5_9, .inl (cI, 40, .inl gs_15)), (q_19, .inr (1, [.ref b0_22, .ref b1_23, .ref b2_24, .ref b3_25, .ref b4_26, .ref b5_27, .ref b6_28, .ref b7_29, .int 0])), (b0_22, .inl (cI, 10, .inl g0_30)), (b1_23, .inl (cI, 10, .inl g1_31)), (b2_24, .inl (cI, 10, .inl g2_32)), (b3_25, .inl (cI, 10, .inl g3_33)), (b4_26, .inl (cI, 10, .inl g4_34)), (b5_27, .inl (cI, 10, .inl g5_35)), (b7_29, .inl (cI, 10, .inl g7_36)), (q_37, .inr (2, [.ref b0_40, .int 0])), (b0_40, .inl (cI, 10, .inl g0_41)), (q_42, .inl (cI, 3, .inl (upd (upd (fun _ => (0 : Int32)) 0 10) 1 10)))] H := hP
  have hD : va_D A [(x, .inr (3, [.ref q_1, .ref q_19, .ref q_37, .null, .null, .int 0, .int 0, .int 0])), (q_1, .inr (0, [.ref b0_4, .ref b1_5, .ref b2_6, .ref b3_7, .ref b4_8, .ref b5_9, .int 0, .int 0])), (b0_4, .inl (cI, 40, .inl gw_10)), (b1_5, .inl (cI, 2, .inl gl_11)), (b2_6, .inl (cI, 6, .inl gd_12)), (b3_7, .inl (cI, 6, .inl gh_13)), (b4_8, .inl (cI, 40, .inl gg_14)), (b5_9, .inl (cI, 40, .inl gs_15)), (q_19, .inr (1, [.ref b0_22, .ref b1_23, .ref b2_24, .ref b3_25, .ref b4_26, .ref b5_27, .ref b6_28, .ref b7_29, .int 0])), (b0_22, .inl (cI, 10, .inl g0_30)), (b1_23, .inl (cI, 10, .inl g1_31)), (b2_24, .inl (cI, 10, .inl g2_32)), (b3_25, .inl (cI, 10, .inl g3_33)), (b4_26, .inl (cI, 10, .inl g4_34)), (b5_27, .inl (cI, 10, .inl g5_35)), (b7_29, .inl (cI, 10, .inl g7_36)), (q_37, .inr (2, [.ref b0_40, .int 0])), (b0_40, .inl (cI, 10, .inl g0_41)), (q_42, .inl (cI, 3, .inl (upd (upd (fun _ => (0 : Int32)) 0 10) 1 10)))] := hD
  refine lv_dup hx hb dX3_init_51 rfl ?_
  refine lv_iconst (v := 2) hx hb dX3_init_52 (by decide) ?_
  refine lv_bipush (v := 10) hx hb dX3_init_53 (by decide) ?_
  refine va_iast hx hb hK hP hD hS 18 0 rfl rfl (by unfold vp_in; decide) dX3_init_55 (fun H locs hP hD hS => ?_)
  have hP : va_P D vwCl [(x, .inr (3, [.ref q_1, .ref q_19, .ref q_37, .null, .null, .int 0, .int 0, .int 0])), (q_1, .inr (0, [.ref b0_4, .ref b1_5, .ref b2_6, .ref b3_7, .ref b4_8, .ref b5_9, .int 0, .int 0])), (b0_4, .inl (cI, 40, .inl gw_10)), (b1_5, .inl (cI, 2, .inl gl_11)), (b2_6, .inl (cI, 6, .inl gd_12)), (b3_7, .inl (cI, 6, .inl gh_13)), (b4_8, .inl (cI, 40, .inl gg_14)), (b5_9, .inl (cI, 40, .inl gs_15)), (q_19, .inr (1, [.ref b0_22, .ref b1_23, .ref b2_24, .ref b3_25, .ref b4_26, .ref b5_27, .ref b6_28, .ref b7_29, .int 0])), (b0_22, .inl (cI, 10, .inl g0_30)), (b1_23, .inl (cI, 10, .inl g1_31)), (b2_24, .inl (cI, 10, .inl g2_32)), (b3_25, .inl (cI, 10, .inl g3_33)), (b4_26, .inl (cI, 10, .inl g4_34)), (b5_27, .inl (cI, 10, .inl g5_35)), (b7_29, .inl (cI, 10, .inl g7_36)), (q_37, .inr (2, [.ref b0_40, .int 0])), (b0_40, .inl (cI, 10, .inl g0_41)), (q_42, .inl (cI, 3, .inl (upd (upd (upd (fun _ => (0 : Int32)) 0 10) 1 10) 2 10)))] H := hP
  have hD : va_D A [(x, .inr (3, [.ref q_1, .ref q_19, .ref q_37, .null, .null, .int 0, .int 0, .int 0])), (q_1, .inr (0, [.ref b0_4, .ref b1_5, .ref b2_6, .ref b3_7, .ref b4_8, .ref b5_9, .int 0, .int 0])), (b0_4, .inl (cI, 40, .inl gw_10)), (b1_5, .inl (cI, 2, .inl gl_11)), (b2_6, .inl (cI, 6, .inl gd_12)), (b3_7, .inl (cI, 6, .inl gh_13)), (b4_8, .inl (cI, 40, .inl gg_14)), (b5_9, .inl (cI, 40, .inl gs_15)), (q_19, .inr (1, [.ref b0_22, .ref b1_23, .ref b2_24, .ref b3_25, .ref b4_26, .ref b5_27, .ref b6_28, .ref b7_29, .int 0])), (b0_22, .inl (cI, 10, .inl g0_30)), (b1_23, .inl (cI, 10, .inl g1_31)), (b2_24, .inl (cI, 10, .inl g2_32)), (b3_25, .inl (cI, 10, .inl g3_33)), (b4_26, .inl (cI, 10, .inl g4_34)), (b5_27, .inl (cI, 10, .inl g5_35)), (b7_29, .inl (cI, 10, .inl g7_36)), (q_37, .inr (2, [.ref b0_40, .int 0])), (b0_40, .inl (cI, 10, .inl g0_41)), (q_42, .inl (cI, 3, .inl (upd (upd (upd (fun _ => (0 : Int32)) 0 10) 1 10) 2 10)))] := hD
  refine va_putF (D := D) (ci := 3) (v := .ref q_42) (ty := .array .int) (C := RX3) (T := TX3) (N := 8) hx hb hts iw_X3_init_3 tyX3 tyX3_ok nmX3 hown hK hP hD hS 0 rfl rfl 3 (by decide) (hts _ wd_X3_init_17) (fun _ h9 => h9) rfl hin rfl (by decide +kernel) rfl rfl (Nat.le_of_ble_eq_true rfl) dX3_init_56 (fun H locs hP hD hS => ?_)
  have hP : va_P D vwCl [(x, .inr (3, [.ref q_1, .ref q_19, .ref q_37, .ref q_42, .null, .int 0, .int 0, .int 0])), (q_1, .inr (0, [.ref b0_4, .ref b1_5, .ref b2_6, .ref b3_7, .ref b4_8, .ref b5_9, .int 0, .int 0])), (b0_4, .inl (cI, 40, .inl gw_10)), (b1_5, .inl (cI, 2, .inl gl_11)), (b2_6, .inl (cI, 6, .inl gd_12)), (b3_7, .inl (cI, 6, .inl gh_13)), (b4_8, .inl (cI, 40, .inl gg_14)), (b5_9, .inl (cI, 40, .inl gs_15)), (q_19, .inr (1, [.ref b0_22, .ref b1_23, .ref b2_24, .ref b3_25, .ref b4_26, .ref b5_27, .ref b6_28, .ref b7_29, .int 0])), (b0_22, .inl (cI, 10, .inl g0_30)), (b1_23, .inl (cI, 10, .inl g1_31)), (b2_24, .inl (cI, 10, .inl g2_32)), (b3_25, .inl (cI, 10, .inl g3_33)), (b4_26, .inl (cI, 10, .inl g4_34)), (b5_27, .inl (cI, 10, .inl g5_35)), (b7_29, .inl (cI, 10, .inl g7_36)), (q_37, .inr (2, [.ref b0_40, .int 0])), (b0_40, .inl (cI, 10, .inl g0_41)), (q_42, .inl (cI, 3, .inl (upd (upd (upd (fun _ => (0 : Int32)) 0 10) 1 10) 2 10)))] H := hP
  have hD : va_D A [(x, .inr (3, [.ref q_1, .ref q_19, .ref q_37, .ref q_42, .null, .int 0, .int 0, .int 0])), (q_1, .inr (0, [.ref b0_4, .ref b1_5, .ref b2_6, .ref b3_7, .ref b4_8, .ref b5_9, .int 0, .int 0])), (b0_4, .inl (cI, 40, .inl gw_10)), (b1_5, .inl (cI, 2, .inl gl_11)), (b2_6, .inl (cI, 6, .inl gd_12)), (b3_7, .inl (cI, 6, .inl gh_13)), (b4_8, .inl (cI, 40, .inl gg_14)), (b5_9, .inl (cI, 40, .inl gs_15)), (q_19, .inr (1, [.ref b0_22, .ref b1_23, .ref b2_24, .ref b3_25, .ref b4_26, .ref b5_27, .ref b6_28, .ref b7_29, .int 0])), (b0_22, .inl (cI, 10, .inl g0_30)), (b1_23, .inl (cI, 10, .inl g1_31)), (b2_24, .inl (cI, 10, .inl g2_32)), (b3_25, .inl (cI, 10, .inl g3_33)), (b4_26, .inl (cI, 10, .inl g4_34)), (b5_27, .inl (cI, 10, .inl g5_35)), (b7_29, .inl (cI, 10, .inl g7_36)), (q_37, .inr (2, [.ref b0_40, .int 0])), (b0_40, .inl (cI, 10, .inl g0_41)), (q_42, .inl (cI, 3, .inl (upd (upd (upd (fun _ => (0 : Int32)) 0 10) 1 10) 2 10)))] := hD
  refine lv_aload_n hx hb dX3_init_59 rfl (lv_at hl 0 rfl) ?_
  refine lv_iconst (v := 5) hx hb dX3_init_60 (by decide) ?_
  refine va_newa (atype := .int) (a0 := (5, .inl (fun _ => (0 : Int32)))) (N' := 5) hx hb (hts _ wd_X3_init_16) rfl hK hP hD hS hA (fun _ => rfl) (by decide) (by decide) (by decide) (Nat.le_of_ble_eq_true rfl) (Nat.le_of_ble_eq_true rfl) dX3_init_61 (fun q_43 cA H hK hP hD hS => ?_)
  have ecA := (cA_is (t0 := 0) (t1 := 1) hK rfl rfl).symm
  subst ecA
  have hK := hK.sub (tys' := [(cI, .int)]) [0] rfl
  have hP : va_P D vwCl [(x, .inr (3, [.ref q_1, .ref q_19, .ref q_37, .ref q_42, .null, .int 0, .int 0, .int 0])), (q_1, .inr (0, [.ref b0_4, .ref b1_5, .ref b2_6, .ref b3_7, .ref b4_8, .ref b5_9, .int 0, .int 0])), (b0_4, .inl (cI, 40, .inl gw_10)), (b1_5, .inl (cI, 2, .inl gl_11)), (b2_6, .inl (cI, 6, .inl gd_12)), (b3_7, .inl (cI, 6, .inl gh_13)), (b4_8, .inl (cI, 40, .inl gg_14)), (b5_9, .inl (cI, 40, .inl gs_15)), (q_19, .inr (1, [.ref b0_22, .ref b1_23, .ref b2_24, .ref b3_25, .ref b4_26, .ref b5_27, .ref b6_28, .ref b7_29, .int 0])), (b0_22, .inl (cI, 10, .inl g0_30)), (b1_23, .inl (cI, 10, .inl g1_31)), (b2_24, .inl (cI, 10, .inl g2_32)), (b3_25, .inl (cI, 10, .inl g3_33)), (b4_26, .inl (cI, 10, .inl g4_34)), (b5_27, .inl (cI, 10, .inl g5_35)), (b7_29, .inl (cI, 10, .inl g7_36)), (q_37, .inr (2, [.ref b0_40, .int 0])), (b0_40, .inl (cI, 10, .inl g0_41)), (q_42, .inl (cI, 3, .inl (upd (upd (upd (fun _ => (0 : Int32)) 0 10) 1 10) 2 10))), (q_43, .inl (cI, 5, .inl (fun _ => (0 : Int32))))] H := hP
  have hD : va_D A [(x, .inr (3, [.ref q_1, .ref q_19, .ref q_37, .ref q_42, .null, .int 0, .int 0, .int 0])), (q_1, .inr (0, [.ref b0_4, .ref b1_5, .ref b2_6, .ref b3_7, .ref b4_8, .ref b5_9, .int 0, .int 0])), (b0_4, .inl (cI, 40, .inl gw_10)), (b1_5, .inl (cI, 2, .inl gl_11)), (b2_6, .inl (cI, 6, .inl gd_12)), (b3_7, .inl (cI, 6, .inl gh_13)), (b4_8, .inl (cI, 40, .inl gg_14)), (b5_9, .inl (cI, 40, .inl gs_15)), (q_19, .inr (1, [.ref b0_22, .ref b1_23, .ref b2_24, .ref b3_25, .ref b4_26, .ref b5_27, .ref b6_28, .ref b7_29, .int 0])), (b0_22, .inl (cI, 10, .inl g0_30)), (b1_23, .inl (cI, 10, .inl g1_31)), (b2_24, .inl (cI, 10, .inl g2_32)), (b3_25, .inl (cI, 10, .inl g3_33)), (b4_26, .inl (cI, 10, .inl g4_34)), (b5_27, .inl (cI, 10, .inl g5_35)), (b7_29, .inl (cI, 10, .inl g7_36)), (q_37, .inr (2, [.ref b0_40, .int 0])), (b0_40, .inl (cI, 10, .inl g0_41)), (q_42, .inl (cI, 3, .inl (upd (upd (upd (fun _ => (0 : Int32)) 0 10) 1 10) 2 10))), (q_43, .inl (cI, 5, .inl (fun _ => (0 : Int32))))] := hD
  refine W.widen (k := 30) (n := 351) (Nat.le_of_ble_eq_true rfl) (Nat.le_of_ble_eq_true rfl) ?_
  refine va_putF (D := D) (ci := 3) (v := .ref q_43) (ty := .array .int) (C := RX3) (T := TX3) (N := 8) hx hb hts iw_X3_init_3 tyX3 tyX3_ok nmX3 hown hK hP hD hS 0 rfl rfl 4 (by decide) (hts _ wd_X3_init_18) (fun _ h9 => h9) rfl hin rfl (by decide +kernel) rfl rfl (Nat.le_of_ble_eq_true rfl) dX3_init_63 (fun H locs hP hD hS => ?_)
  have hP : va_P D vwCl [(x, .inr (3, [.ref q_1, .ref q_19, .ref q_37, .ref q_42, .ref q_43, .int 0, .int 0, .int 0])), (q_1, .inr (0, [.ref b0_4, .ref b1_5, .ref b2_6, .ref b3_7, .ref b4_8, .ref b5_9, .int 0, .int 0])), (b0_4, .inl (cI, 40, .inl gw_10)), (b1_5, .inl (cI, 2, .inl gl_11)), (b2_6, .inl (cI, 6, .inl gd_12)), (b3_7, .inl (cI, 6, .inl gh_13)), (b4_8, .inl (cI, 40, .inl gg_14)), (b5_9, .inl (cI, 40, .inl gs_15)), (q_19, .inr (1, [.ref b0_22, .ref b1_23, .ref b2_24, .ref b3_25, .ref b4_26, .ref b5_27, .ref b6_28, .ref b7_29, .int 0])), (b0_22, .inl (cI, 10, .inl g0_30)), (b1_23, .inl (cI, 10, .inl g1_31)), (b2_24, .inl (cI, 10, .inl g2_32)), (b3_25, .inl (cI, 10, .inl g3_33)), (b4_26, .inl (cI, 10, .inl g4_34)), (b5_27, .inl (cI, 10, .inl g5_35)), (b7_29, .inl (cI, 10, .inl g7_36)), (q_37, .inr (2, [.ref b0_40, .int 0])), (b0_40, .inl (cI, 10, .inl g0_41)), (q_42, .inl (cI, 3, .inl (upd (upd (upd (fun _ => (0 : Int32)) 0 10) 1 10) 2 10))), (q_43, .inl (cI, 5, .inl (fun _ => (0 : Int32))))] H := hP
  have hD : va_D A [(x, .inr (3, [.ref q_1, .ref q_19, .ref q_37, .ref q_42, .ref q_43, .int 0, .int 0, .int 0])), (q_1, .inr (0, [.ref b0_4, .ref b1_5, .ref b2_6, .ref b3_7, .ref b4_8, .ref b5_9, .int 0, .int 0])), (b0_4, .inl (cI, 40, .inl gw_10)), (b1_5, .inl (cI, 2, .inl gl_11)), (b2_6, .inl (cI, 6, .inl gd_12)), (b3_7, .inl (cI, 6, .inl gh_13)), (b4_8, .inl (cI, 40, .inl gg_14)), (b5_9, .inl (cI, 40, .inl gs_15)), (q_19, .inr (1, [.ref b0_22, .ref b1_23, .ref b2_24, .ref b3_25, .ref b4_26, .ref b5_27, .ref b6_28, .ref b7_29, .int 0])), (b0_22, .inl (cI, 10, .inl g0_30)), (b1_23, .inl (cI, 10, .inl g1_31)), (b2_24, .inl (cI, 10, .inl g2_32)), (b3_25, .inl (cI, 10, .inl g3_33)), (b4_26, .inl (cI, 10, .inl g4_34)), (b5_27, .inl (cI, 10, .inl g5_35)), (b7_29, .inl (cI, 10, .inl g7_36)), (q_37, .inr (2, [.ref b0_40, .int 0])), (b0_40, .inl (cI, 10, .inl g0_41)), (q_42, .inl (cI, 3, .inl (upd (upd (upd (fun _ => (0 : Int32)) 0 10) 1 10) 2 10))), (q_43, .inl (cI, 5, .inl (fun _ => (0 : Int32))))] := hD
  refine lv_aload_n hx hb dX3_init_66 rfl (lv_at hl 0 rfl) ?_
  refine lv_bipush (v := 100) hx hb dX3_init_67 (by decide) ?_
  refine va_put (D := D) (ci := 3) (v := .int 100) (ty := .int) (C := RX3) (T := TX3) (N := 8) hx hb hts iw_X3_init_3 tyX3 tyX3_ok nmX3 hown hK hP hD hS 0 rfl rfl 5 (by decide) (hts _ wd_X3_init_19) (fun _ h9 => h9) rfl (by decide +kernel) rfl rfl (Nat.le_of_ble_eq_true rfl) dX3_init_69 (fun H locs hP hD hS => ?_)
  have hP : va_P D vwCl [(x, .inr (3, [.ref q_1, .ref q_19, .ref q_37, .ref q_42, .ref q_43, .int 100, .int 0, .int 0])), (q_1, .inr (0, [.ref b0_4, .ref b1_5, .ref b2_6, .ref b3_7, .ref b4_8, .ref b5_9, .int 0, .int 0])), (b0_4, .inl (cI, 40, .inl gw_10)), (b1_5, .inl (cI, 2, .inl gl_11)), (b2_6, .inl (cI, 6, .inl gd_12)), (b3_7, .inl (cI, 6, .inl gh_13)), (b4_8, .inl (cI, 40, .inl gg_14)), (b5_9, .inl (cI, 40, .inl gs_15)), (q_19, .inr (1, [.ref b0_22, .ref b1_23, .ref b2_24, .ref b3_25, .ref b4_26, .ref b5_27, .ref b6_28, .ref b7_29, .int 0])), (b0_22, .inl (cI, 10, .inl g0_30)), (b1_23, .inl (cI, 10, .inl g1_31)), (b2_24, .inl (cI, 10, .inl g2_32)), (b3_25, .inl (cI, 10, .inl g3_33)), (b4_26, .inl (cI, 10, .inl g4_34)), (b5_27, .inl (cI, 10, .inl g5_35)), (b7_29, .inl (cI, 10, .inl g7_36)), (q_37, .inr (2, [.ref b0_40, .int 0])), (b0_40, .inl (cI, 10, .inl g0_41)), (q_42, .inl (cI, 3, .inl (upd (upd (upd (fun _ => (0 : Int32)) 0 10) 1 10) 2 10))), (q_43, .inl (cI, 5, .inl (fun _ => (0 : Int32))))] H := hP
  have hD : va_D A [(x, .inr (3, [.ref q_1, .ref q_19, .ref q_37, .ref q_42, .ref q_43, .int 100, .int 0, .int 0])), (q_1, .inr (0, [.ref b0_4, .ref b1_5, .ref b2_6, .ref b3_7, .ref b4_8, .ref b5_9, .int 0, .int 0])), (b0_4, .inl (cI, 40, .inl gw_10)), (b1_5, .inl (cI, 2, .inl gl_11)), (b2_6, .inl (cI, 6, .inl gd_12)), (b3_7, .inl (cI, 6, .inl gh_13)), (b4_8, .inl (cI, 40, .inl gg_14)), (b5_9, .inl (cI, 40, .inl gs_15)), (q_19, .inr (1, [.ref b0_22, .ref b1_23, .ref b2_24, .ref b3_25, .ref b4_26, .ref b5_27, .ref b6_28, .ref b7_29, .int 0])), (b0_22, .inl (cI, 10, .inl g0_30)), (b1_23, .inl (cI, 10, .inl g1_31)), (b2_24, .inl (cI, 10, .inl g2_32)), (b3_25, .inl (cI, 10, .inl g3_33)), (b4_26, .inl (cI, 10, .inl g4_34)), (b5_27, .inl (cI, 10, .inl g5_35)), (b7_29, .inl (cI, 10, .inl g7_36)), (q_37, .inr (2, [.ref b0_40, .int 0])), (b0_40, .inl (cI, 10, .inl g0_41)), (q_42, .inl (cI, 3, .inl (upd (upd (upd (fun _ => (0 : Int32)) 0 10) 1 10) 2 10))), (q_43, .inl (cI, 5, .inl (fun _ => (0 : Int32))))] := hD
  refine lv_aload_n hx hb dX3_init_72 rfl (lv_at hl 0 rfl) ?_
  refine lv_iconst (v := 0) hx hb dX3_init_73 (by decide) ?_
  refine va_put (D := D) (ci := 3) (v := .int 0) (ty := .int) (C := RX3) (T := TX3) (N := 8) hx hb hts iw_X3_init_3 tyX3 tyX3_ok nmX3 hown hK hP hD hS 0 rfl rfl 6 (by decide) (hts _ wd_X3_init_20) (fun _ h9 => h9) rfl (by decide +kernel) rfl rfl (Nat.le_of_ble_eq_true rfl) dX3_init_74 (fun H locs hP hD hS => ?_)
  have hP : va_P D vwCl [(x, .inr (3, [.ref q_1, .ref q_19, .ref q_37, .ref q_42, .ref q_43, .int 100, .int 0, .int 0])), (q_1, .inr (0, [.ref b0_4, .ref b1_5, .ref b2_6, .ref b3_7, .ref b4_8, .ref b5_9, .int 0, .int 0])), (b0_4, .inl (cI, 40, .inl gw_10)), (b1_5, .inl (cI, 2, .inl gl_11)), (b2_6, .inl (cI, 6, .inl gd_12)), (b3_7, .inl (cI, 6, .inl gh_13)), (b4_8, .inl (cI, 40, .inl gg_14)), (b5_9, .inl (cI, 40, .inl gs_15)), (q_19, .inr (1, [.ref b0_22, .ref b1_23, .ref b2_24, .ref b3_25, .ref b4_26, .ref b5_27, .ref b6_28, .ref b7_29, .int 0])), (b0_22, .inl (cI, 10, .inl g0_30)), (b1_23, .inl (cI, 10, .inl g1_31)), (b2_24, .inl (cI, 10, .inl g2_32)), (b3_25, .inl (cI, 10, .inl g3_33)), (b4_26, .inl (cI, 10, .inl g4_34)), (b5_27, .inl (cI, 10, .inl g5_35)), (b7_29, .inl (cI, 10, .inl g7_36)), (q_37, .inr (2, [.ref b0_40, .int 0])), (b0_40, .inl (cI, 10, .inl g0_41)), (q_42, .inl (cI, 3, .inl (upd (upd (upd (fun _ => (0 : Int32)) 0 10) 1 10) 2 10))), (q_43, .inl (cI, 5, .inl (fun _ => (0 : Int32))))] H := hP
  have hD : va_D A [(x, .inr (3, [.ref q_1, .ref q_19, .ref q_37, .ref q_42, .ref q_43, .int 100, .int 0, .int 0])), (q_1, .inr (0, [.ref b0_4, .ref b1_5, .ref b2_6, .ref b3_7, .ref b4_8, .ref b5_9, .int 0, .int 0])), (b0_4, .inl (cI, 40, .inl gw_10)), (b1_5, .inl (cI, 2, .inl gl_11)), (b2_6, .inl (cI, 6, .inl gd_12)), (b3_7, .inl (cI, 6, .inl gh_13)), (b4_8, .inl (cI, 40, .inl gg_14)), (b5_9, .inl (cI, 40, .inl gs_15)), (q_19, .inr (1, [.ref b0_22, .ref b1_23, .ref b2_24, .ref b3_25, .ref b4_26, .ref b5_27, .ref b6_28, .ref b7_29, .int 0])), (b0_22, .inl (cI, 10, .inl g0_30)), (b1_23, .inl (cI, 10, .inl g1_31)), (b2_24, .inl (cI, 10, .inl g2_32)), (b3_25, .inl (cI, 10, .inl g3_33)), (b4_26, .inl (cI, 10, .inl g4_34)), (b5_27, .inl (cI, 10, .inl g5_35)), (b7_29, .inl (cI, 10, .inl g7_36)), (q_37, .inr (2, [.ref b0_40, .int 0])), (b0_40, .inl (cI, 10, .inl g0_41)), (q_42, .inl (cI, 3, .inl (upd (upd (upd (fun _ => (0 : Int32)) 0 10) 1 10) 2 10))), (q_43, .inl (cI, 5, .inl (fun _ => (0 : Int32))))] := hD
  refine lv_aload_n hx hb dX3_init_77 rfl (lv_at hl 0 rfl) ?_
  refine lv_iconst (v := 0) hx hb dX3_init_78 (by decide) ?_
  refine va_put (D := D) (ci := 3) (v := .int 0) (ty := .int) (C := RX3) (T := TX3) (N := 8) hx hb hts iw_X3_init_3 tyX3 tyX3_ok nmX3 hown hK hP hD hS 0 rfl rfl 7 (by decide) (hts _ wd_X3_init_21) (fun _ h9 => h9) rfl (by decide +kernel) rfl rfl (Nat.le_of_ble_eq_true rfl) dX3_init_79 (fun H locs hP hD hS => ?_)
  have hP : va_P D vwCl [(x, .inr (3, [.ref q_1, .ref q_19, .ref q_37, .ref q_42, .ref q_43, .int 100, .int 0, .int 0])), (q_1, .inr (0, [.ref b0_4, .ref b1_5, .ref b2_6, .ref b3_7, .ref b4_8, .ref b5_9, .int 0, .int 0])), (b0_4, .inl (cI, 40, .inl gw_10)), (b1_5, .inl (cI, 2, .inl gl_11)), (b2_6, .inl (cI, 6, .inl gd_12)), (b3_7, .inl (cI, 6, .inl gh_13)), (b4_8, .inl (cI, 40, .inl gg_14)), (b5_9, .inl (cI, 40, .inl gs_15)), (q_19, .inr (1, [.ref b0_22, .ref b1_23, .ref b2_24, .ref b3_25, .ref b4_26, .ref b5_27, .ref b6_28, .ref b7_29, .int 0])), (b0_22, .inl (cI, 10, .inl g0_30)), (b1_23, .inl (cI, 10, .inl g1_31)), (b2_24, .inl (cI, 10, .inl g2_32)), (b3_25, .inl (cI, 10, .inl g3_33)), (b4_26, .inl (cI, 10, .inl g4_34)), (b5_27, .inl (cI, 10, .inl g5_35)), (b7_29, .inl (cI, 10, .inl g7_36)), (q_37, .inr (2, [.ref b0_40, .int 0])), (b0_40, .inl (cI, 10, .inl g0_41)), (q_42, .inl (cI, 3, .inl (upd (upd (upd (fun _ => (0 : Int32)) 0 10) 1 10) 2 10))), (q_43, .inl (cI, 5, .inl (fun _ => (0 : Int32))))] H := hP
  have hD : va_D A [(x, .inr (3, [.ref q_1, .ref q_19, .ref q_37, .ref q_42, .ref q_43, .int 100, .int 0, .int 0])), (q_1, .inr (0, [.ref b0_4, .ref b1_5, .ref b2_6, .ref b3_7, .ref b4_8, .ref b5_9, .int 0, .int 0])), (b0_4, .inl (cI, 40, .inl gw_10)), (b1_5, .inl (cI, 2, .inl gl_11)), (b2_6, .inl (cI, 6, .inl gd_12)), (b3_7, .inl (cI, 6, .inl gh_13)), (b4_8, .inl (cI, 40, .inl gg_14)), (b5_9, .inl (cI, 40, .inl gs_15)), (q_19, .inr (1, [.ref b0_22, .ref b1_23, .ref b2_24, .ref b3_25, .ref b4_26, .ref b5_27, .ref b6_28, .ref b7_29, .int 0])), (b0_22, .inl (cI, 10, .inl g0_30)), (b1_23, .inl (cI, 10, .inl g1_31)), (b2_24, .inl (cI, 10, .inl g2_32)), (b3_25, .inl (cI, 10, .inl g3_33)), (b4_26, .inl (cI, 10, .inl g4_34)), (b5_27, .inl (cI, 10, .inl g5_35)), (b7_29, .inl (cI, 10, .inl g7_36)), (q_37, .inr (2, [.ref b0_40, .int 0])), (b0_40, .inl (cI, 10, .inl g0_41)), (q_42, .inl (cI, 3, .inl (upd (upd (upd (fun _ => (0 : Int32)) 0 10) 1 10) 2 10))), (q_43, .inl (cI, 5, .inl (fun _ => (0 : Int32))))] := hD
  refine W.widen (k := 30) (n := 351) (Nat.le_of_ble_eq_true rfl) (Nat.le_of_ble_eq_true rfl) ?_
  exact fi_v (q_1, q_19, q_37, q_42, q_43, b0_4, b1_5, b2_6, b3_7, b4_8, b5_9, b0_22, b1_23, b2_24, b3_25, b4_26, b5_27, b6_28, b7_29, b0_40, gw_10, gl_11, gd_12, gh_13, gg_14, gs_15, g0_30, g1_31, g2_32, g3_33, g4_34, g5_35, g7_36, g0_41, upd (upd (upd (fun _ => (0 : Int32)) 0 10) 1 10) 2 10, fun _ => (0 : Int32)) hx hb hr hlocks hK (hP.sub [0, 1, 2, 3, 4, 5, 6, 7, 8, 9, 10, 11, 12, 13, 14, 15, 16, 17, 18, 19] rfl) (hD.sub [0, 1, 2, 3, 4, 5, 6, 7, 8, 9, 10, 11, 12, 13, 14, 15, 16, 17, 18, 19] (by decide) rfl) hS ⟨(pf_X3_init_1 gw_10 gl_11 h_16 h_17 h_18), (pf_X3_init_2 gw_10 gl_11 h_16 h_17 h_18), (pf_X3_init_3 gw_10 gl_11 h_16 h_17 h_18), (pf_X3_init_4 gw_10 gl_11 h_16 h_17 h_18)⟩ dX3_init_82
