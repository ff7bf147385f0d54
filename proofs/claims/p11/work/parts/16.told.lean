theorem iw_X3_gang_3 : ∀ w ∈ wsX30, w ∈ wsX3_gang := fun w h => (List.mem_cons_of_mem _ (List.mem_append_right _ h))
theorem wd_X3_gang_1 : (.fieldLink RX3 39 "PourPlan" "gangLimit" "I" : Cond) ∈ wsX3_gang := List.mem_of_getElem? (i := 1) rfl
set_option maxHeartbeats 1000000 in
theorem pf_X3_gang_1 (gl : Int32) (n : Int32) (r_1 : Int32) (w_2 : r_1 = bIn n (1 : Int32) (1000 : Int32)) (c_4 : ¬ r_1 = 0) : gl = rGang gl n := by
  grind [bIn, rGang, sGang]
set_option maxHeartbeats 1000000 in
theorem pf_X3_gang_2 (gl : Int32) (n : Int32) (r_1 : Int32) (w_2 : r_1 = bIn n (1 : Int32) (1000 : Int32)) (c_4 : ¬ r_1 = 0) : n = sGang gl n := by
  grind [bIn, rGang, sGang]
set_option maxHeartbeats 1000000 in
theorem pf_X3_gang_3 (gl : Int32) (n : Int32) (r_1 : Int32) (w_2 : r_1 = bIn n (1 : Int32) (1000 : Int32)) (c_4 : r_1 = 0) : (-2 : Int32) = rGang gl n := by
  grind [bIn, rGang, sGang]
set_option maxHeartbeats 1000000 in
theorem pf_X3_gang_4 (gl : Int32) (n : Int32) (r_1 : Int32) (w_2 : r_1 = bIn n (1 : Int32) (1000 : Int32)) (c_4 : r_1 = 0) : gl = sGang gl n := by
  grind [bIn, rGang, sGang]
set_option maxHeartbeats 4000000 in
set_option maxRecDepth 100000 in
theorem c_X3_gang (l : Launch) (D : va_G) (cI cQ : ClassId) (sz : Nat) (x : Nat) (cu : Nat) (pi : Nat) (sq : Nat) (fo : Nat) (bo : Nat) (gl : Int32) (td : Int32) (le : Int32) (n : Int32) : CtI l yX3_gang wsX3_gang 1 22 0 0 [.ref x, .int n] D [(cI, .int), (cQ, .array .int)] [(x, .inr (3, [.ref cu, .ref pi, .ref sq, .ref fo, .ref bo, .int gl, .int td, .int le]))] sz (fun (r : Int32) (u : Int32) => r = rGang gl n ∧ u = sGang gl n) (fun (u : Int32) => [(x, .inr (3, [.ref cu, .ref pi, .ref sq, .ref fo, .ref bo, .int u, .int td, .int le]))]) := by
  refine Met.ofW (cc := cX3_gang) (maxL := 3) (ret := (some .int)) (by decide) rfl ?_
  intro p e s m args below meth c s₁ B hml hv
  obtain ⟨rfl, hsz, hP, hK, hD0, hN⟩ := hv
  have hx := B.exec
  have hb := B.bytes
  have hr := B.returns
  have hts := atoms_spec (ws := wsX3_gang) B.pre
  have hown : s.vm.findClass RX3 = some m.cls := findClass_of_methodNamed B.named
  have hlocks := B.notSynchronized
  subst hsz
  have hD := hD0.self (sz := s.heap.size)
  generalize hAe : va_A [(x, .inr (3, [.ref cu, .ref pi, .ref sq, .ref fo, .ref bo, .int gl, .int td, .int le]))] s.heap.size = A at hD ⊢
  have hA : ∀ q : Nat, s.heap.size ≤ q → A q := fun q h => by rw [← hAe]; exact Or.inr h
  have hS : va_S A s.heap s.heap [] := va_S.rf
  have hl := lv_entry ([.ref x, .int n]) (n := 3) (Nat.le_of_ble_eq_true rfl)
  rw [lg_entry_eq]
  generalize (lg_sl ([.ref x, .int n]) ++ List.replicate (3 - (lg_sl ([.ref x, .int n])).length) Slot.unset).toArray = ls at hl ⊢
  have hl : lv_has ls 3 [(0, .ref x), (1, .int n)] := hl
  have hP0 := hP
  refine lv_iload_n hx hb dX3_gang_0 rfl (lv_at hl 1 rfl) ?_
  refine lv_iconst (v := 1) hx hb dX3_gang_1 (by decide) ?_
  refine lv_sipush (v := 1000) hx hb dX3_gang_2 (by decide) ?_
  refine cc_i (wc := []) (wr := [(x, .inr (3, [.ref cu, .ref pi, .ref sq, .ref fo, .ref bo, .int gl, .int td, .int le]))]) (va_runS (As := [.int n, .int 1, .int 1000]) (rest := []) ⟨hx, hb, hml, hown, hts⟩ (c_X3_isIn l D cI cQ s.heap.size n 1 1000 ) (va_cwS 3 hts gX3_gang_X3_isIn rfl rfl rfl (by decide +kernel) ⟨Nat.le_of_ble_eq_true rfl, Nat.le_of_ble_eq_true rfl⟩) (preS (wc := []) hK hP hD hN [] rfl (by decide)) rfl rfl hl.1 rfl (lv_room (Nat.le_of_ble_eq_true rfl)) dX3_gang_5 ⟨Nat.le_of_ble_eq_true rfl, Nat.le_of_ble_eq_true rfl⟩) hP hD hS hA [] [0] rfl rfl (by decide) (by decide) (fun r_1 u H locs w_2 hP hD hS => ?_)
  have hP : va_P D vwCl [(x, .inr (3, [.ref cu, .ref pi, .ref sq, .ref fo, .ref bo, .int gl, .int td, .int le]))] H := hP
  have hD : va_D A [(x, .inr (3, [.ref cu, .ref pi, .ref sq, .ref fo, .ref bo, .int gl, .int td, .int le]))] := hD
  have w_2 : r_1 = bIn n (1 : Int32) (1000 : Int32) := w_2
  refine lv_if_ne (tgt := 14) hx hb dX3_gang_8 (by decide) (fun c_4 => ?_) (fun c_4 => ?_)
  · refine lv_aload_n hx hb dX3_gang_14 rfl (lv_at hl 0 rfl) ?_
    refine va_get (D := D) (ci := 3) (v := .int gl) (C := RX3) (T := TX3) (N := 8) hx hb hts iw_X3_gang_3 hown hK hP 0 rfl rfl 5 (by decide) (hts _ wd_X3_gang_1) (fun _ h9 => h9) rfl dX3_gang_15 ?_
    refine lv_istore_n (lv' := [(2, .int gl), (0, .ref x), (1, .int n)]) hx hb dX3_gang_18 rfl hl (by decide) rfl (fun ls hl => ?_)
    refine lv_aload_n hx hb dX3_gang_19 rfl (lv_at hl 1 rfl) ?_
    refine lv_iload_n hx hb dX3_gang_20 rfl (lv_at hl 2 rfl) ?_
    refine va_put (D := D) (ci := 3) (v := .int n) (ty := .int) (C := RX3) (T := TX3) (N := 8) hx hb hts iw_X3_gang_3 tyX3 tyX3_ok nmX3 hown hK hP hD hS 0 rfl rfl 5 (by decide) (hts _ wd_X3_gang_1) (fun _ h9 => h9) rfl (by decide +kernel) rfl rfl (Nat.le_of_ble_eq_true rfl) dX3_gang_21 (fun H locs hP hD hS => ?_)
    have hP : va_P D vwCl [(x, .inr (3, [.ref cu, .ref pi, .ref sq, .ref fo, .ref bo, .int n, .int td, .int le]))] H := hP
    have hD : va_D A [(x, .inr (3, [.ref cu, .ref pi, .ref sq, .ref fo, .ref bo, .int n, .int td, .int le]))] := hD
    refine lv_iload_n hx hb dX3_gang_24 rfl (lv_at hl 0 rfl) ?_
    refine W.widen (k := 0) (n := 0) (Nat.le_of_ble_eq_true rfl) (Nat.le_of_ble_eq_true rfl) ?_
    exact fi_i n hx hb hr hlocks hK (hP.sub [0] rfl) (hD.sub [0] (by decide) rfl) hS ⟨(pf_X3_gang_1 gl n r_1 w_2 c_4), (pf_X3_gang_2 gl n r_1 w_2 c_4)⟩ dX3_gang_25
  · refine lv_bipush (v := (-2)) hx hb dX3_gang_11 (by decide) ?_
    refine W.widen (k := 0) (n := 0) (Nat.le_of_ble_eq_true rfl) (Nat.le_of_ble_eq_true rfl) ?_
    exact fi_i gl hx hb hr hlocks hK (hP.sub [0] rfl) (hD.sub [0] (by decide) rfl) hS ⟨(pf_X3_gang_3 gl n r_1 w_2 c_4), (pf_X3_gang_4 gl n r_1 w_2 c_4)⟩ dX3_gang_13

theorem iw_X3_form_3 : ∀ w ∈ wsX30, w ∈ wsX3_form := fun w h => (List.mem_cons_of_mem _ (List.mem_append_right _ h))
theorem wd_X3_form_1 : (.fieldLink RX3 32 "PourPlan" "forms" "[I" : Cond) ∈ wsX3_form := List.mem_of_getElem? (i := 1) rfl
set_option maxHeartbeats 1000000 in
theorem pf_X3_form_1 (s1 : Int32) (n : Int32) (r_1 : Int32) (r_5 : Int32) (w_2 : r_1 = bIn s1 (0 : Int32) (2 : Int32)) (c_4 : ¬ r_1 = 0) (w_6 : r_5 = bIn n (0 : Int32) (50 : Int32)) (c_8 : ¬ r_5 = 0) : vp_in s1 3 := by
  exact vi_in (M := 3) rfl (by grind [bIn, rForm, sForm]) (by grind [bIn, rForm, sForm])
set_option maxHeartbeats 1000000 in
theorem pf_X3_form_2 (ff : Nat → Int32) (s1 : Int32) (n : Int32) (r_1 : Int32) (r_5 : Int32) (v_9 : Int32) (w_2 : r_1 = bIn s1 (0 : Int32) (2 : Int32)) (c_4 : ¬ r_1 = 0) (w_6 : r_5 = bIn n (0 : Int32) (50 : Int32)) (c_8 : ¬ r_5 = 0) (ev_9 : v_9 = ff s1.toNatClampNeg) : vp_in s1 3 := by
  exact vi_in (M := 3) rfl (by grind [bIn, rForm, sForm]) (by grind [bIn, rForm, sForm])
set_option maxHeartbeats 1000000 in
theorem pf_X3_form_3 (ff : Nat → Int32) (s1 : Int32) (n : Int32) (r_1 : Int32) (r_5 : Int32) (v_9 : Int32) (w_2 : r_1 = bIn s1 (0 : Int32) (2 : Int32)) (c_4 : ¬ r_1 = 0) (w_6 : r_5 = bIn n (0 : Int32) (50 : Int32)) (c_8 : ¬ r_5 = 0) (ev_9 : v_9 = ff s1.toNatClampNeg) : v_9 = rForm ff s1 n := by
  grind [bIn, rForm, sForm]
set_option maxHeartbeats 1000000 in
theorem pf_X3_form_4 (ff : Nat → Int32) (s1 : Int32) (n : Int32) (r_1 : Int32) (r_5 : Int32) (v_9 : Int32) (w_2 : r_1 = bIn s1 (0 : Int32) (2 : Int32)) (c_4 : ¬ r_1 = 0) (w_6 : r_5 = bIn n (0 : Int32) (50 : Int32)) (c_8 : ¬ r_5 = 0) (ev_9 : v_9 = ff s1.toNatClampNeg) : (upd ff s1.toNatClampNeg n) = sForm ff s1 n := by
  grind [bIn, rForm, sForm]
set_option maxHeartbeats 1000000 in
theorem pf_X3_form_5 (ff : Nat → Int32) (s1 : Int32) (n : Int32) (r_1 : Int32) (r_5 : Int32) (w_2 : r_1 = bIn s1 (0 : Int32) (2 : Int32)) (c_4 : ¬ r_1 = 0) (w_6 : r_5 = bIn n (0 : Int32) (50 : Int32)) (c_8 : r_5 = 0) : (-2 : Int32) = rForm ff s1 n := by
  grind [bIn, rForm, sForm]
set_option maxHeartbeats 1000000 in
theorem pf_X3_form_6 (ff : Nat → Int32) (s1 : Int32) (n : Int32) (r_1 : Int32) (r_5 : Int32) (w_2 : r_1 = bIn s1 (0 : Int32) (2 : Int32)) (c_4 : ¬ r_1 = 0) (w_6 : r_5 = bIn n (0 : Int32) (50 : Int32)) (c_8 : r_5 = 0) : ff = sForm ff s1 n := by
  grind [bIn, rForm, sForm]
set_option maxHeartbeats 1000000 in
theorem pf_X3_form_7 (ff : Nat → Int32) (s1 : Int32) (n : Int32) (r_1 : Int32) (w_2 : r_1 = bIn s1 (0 : Int32) (2 : Int32)) (c_4 : r_1 = 0) : (-1 : Int32) = rForm ff s1 n := by
  grind [bIn, rForm, sForm]
set_option maxHeartbeats 1000000 in
theorem pf_X3_form_8 (ff : Nat → Int32) (s1 : Int32) (n : Int32) (r_1 : Int32) (w_2 : r_1 = bIn s1 (0 : Int32) (2 : Int32)) (c_4 : r_1 = 0) : ff = sForm ff s1 n := by
  grind [bIn, rForm, sForm]
set_option maxHeartbeats 4000000 in
set_option maxRecDepth 100000 in
theorem c_X3_form (l : Launch) (D : va_G) (cI cQ : ClassId) (sz : Nat) (x : Nat) (fo : Nat) (cu : Nat) (pi : Nat) (sq : Nat) (bo : Nat) (gl : Int32) (td : Int32) (le : Int32) (ff : Nat → Int32) (s1 : Int32) (n : Int32) : CtI l yX3_form wsX3_form 1 22 0 0 [.ref x, .int s1, .int n] D [(cI, .int), (cQ, .array .int)] [(x, .inr (3, [.ref cu, .ref pi, .ref sq, .ref fo, .ref bo, .int gl, .int td, .int le])), (fo, .inl (cI, 3, .inl ff))] sz (fun (r : Int32) (u : (Nat → Int32)) => r = rForm ff s1 n ∧ u = sForm ff s1 n) (fun (u : (Nat → Int32)) => [(x, .inr (3, [.ref cu, .ref pi, .ref sq, .ref fo, .ref bo, .int gl, .int td, .int le])), (fo, .inl (cI, 3, .inl u))]) := by
  refine Met.ofW (cc := cX3_form) (maxL := 4) (ret := (some .int)) (by decide) rfl ?_
  intro p e s m args below meth c s₁ B hml hv
  obtain ⟨rfl, hsz, hP, hK, hD0, hN⟩ := hv
  have hx := B.exec
  have hb := B.bytes
  have hr := B.returns
  have hts := atoms_spec (ws := wsX3_form) B.pre
  have hown : s.vm.findClass RX3 = some m.cls := findClass_of_methodNamed B.named
  have hlocks := B.notSynchronized
  subst hsz
  have hD := hD0.self (sz := s.heap.size)
  generalize hAe : va_A [(x, .inr (3, [.ref cu, .ref pi, .ref sq, .ref fo, .ref bo, .int gl, .int td, .int le])), (fo, .inl (cI, 3, .inl ff))] s.heap.size = A at hD ⊢
  have hA : ∀ q : Nat, s.heap.size ≤ q → A q := fun q h => by rw [← hAe]; exact Or.inr h
  have hS : va_S A s.heap s.heap [] := va_S.rf
  have hl := lv_entry ([.ref x, .int s1, .int n]) (n := 4) (Nat.le_of_ble_eq_true rfl)
  rw [lg_entry_eq]
  generalize (lg_sl ([.ref x, .int s1, .int n]) ++ List.replicate (4 - (lg_sl ([.ref x, .int s1, .int n])).length) Slot.unset).toArray = ls at hl ⊢
  have hl : lv_has ls 4 [(0, .ref x), (1, .int s1), (2, .int n)] := hl
  have hP0 := hP
  refine lv_iload_n hx hb dX3_form_0 rfl (lv_at hl 1 rfl) ?_
  refine lv_iconst (v := 0) hx hb dX3_form_1 (by decide) ?_
  refine lv_iconst (v := 2) hx hb dX3_form_2 (by decide) ?_
  refine cc_i (wc := []) (wr := [(x, .inr (3, [.ref cu, .ref pi, .ref sq, .ref fo, .ref bo, .int gl, .int td, .int le])), (fo, .inl (cI, 3, .inl ff))]) (va_runS (As := [.int s1, .int 0, .int 2]) (rest := []) ⟨hx, hb, hml, hown, hts⟩ (c_X3_isIn l D cI cQ s.heap.size s1 0 2 ) (va_cwS 3 hts gX3_form_X3_isIn rfl rfl rfl (by decide +kernel) ⟨Nat.le_of_ble_eq_true rfl, Nat.le_of_ble_eq_true rfl⟩) (preS (wc := []) hK hP hD hN [] rfl (by decide)) rfl rfl hl.1 rfl (lv_room (Nat.le_of_ble_eq_true rfl)) dX3_form_3 ⟨Nat.le_of_ble_eq_true rfl, Nat.le_of_ble_eq_true rfl⟩) hP hD hS hA [] [0, 1] rfl rfl (by decide) (by decide) (fun r_1 u H locs w_2 hP hD hS => ?_)
  have hP : va_P D vwCl [(x, .inr (3, [.ref cu, .ref pi, .ref sq, .ref fo, .ref bo, .int gl, .int td, .int le])), (fo, .inl (cI, 3, .inl ff))] H := hP
  have hD : va_D A [(x, .inr (3, [.ref cu, .ref pi, .ref sq, .ref fo, .ref bo, .int gl, .int td, .int le])), (fo, .inl (cI, 3, .inl ff))] := hD
  have w_2 : r_1 = bIn s1 (0 : Int32) (2 : Int32) := w_2
  refine lv_if_ne (tgt := 11) hx hb dX3_form_6 (by decide) (fun c_4 => ?_) (fun c_4 => ?_)
  · refine lv_iload_n hx hb dX3_form_11 rfl (lv_at hl 2 rfl) ?_
    refine lv_iconst (v := 0) hx hb dX3_form_12 (by decide) ?_
    refine lv_bipush (v := 50) hx hb dX3_form_13 (by decide) ?_
    refine cc_i (wc := []) (wr := [(x, .inr (3, [.ref cu, .ref pi, .ref sq, .ref fo, .ref bo, .int gl, .int td, .int le])), (fo, .inl (cI, 3, .inl ff))]) (va_runS (As := [.int n, .int 0, .int 50]) (rest := []) ⟨hx, hb, hml, hown, hts⟩ (c_X3_isIn l D cI cQ H.size n 0 50 ) (va_cwS 3 hts gX3_form_X3_isIn rfl rfl rfl (by decide +kernel) ⟨Nat.le_of_ble_eq_true rfl, Nat.le_of_ble_eq_true rfl⟩) (preS (wc := []) hK hP hD hN [] rfl (by decide)) rfl rfl hl.1 rfl (lv_room (Nat.le_of_ble_eq_true rfl)) dX3_form_15 ⟨Nat.le_of_ble_eq_true rfl, Nat.le_of_ble_eq_true rfl⟩) hP hD hS hA [] [0, 1] rfl rfl (by decide) (by decide) (fun r_5 u H locs w_6 hP hD hS => ?_)
    have hP : va_P D vwCl [(x, .inr (3, [.ref cu, .ref pi, .ref sq, .ref fo, .ref bo, .int gl, .int td, .int le])), (fo, .inl (cI, 3, .inl ff))] H := hP
    have hD : va_D A [(x, .inr (3, [.ref cu, .ref pi, .ref sq, .ref fo, .ref bo, .int gl, .int td, .int le])), (fo, .inl (cI, 3, .inl ff))] := hD
    have w_6 : r_5 = bIn n (0 : Int32) (50 : Int32) := w_6
    refine lv_if_ne (tgt := 24) hx hb dX3_form_18 (by decide) (fun c_8 => ?_) (fun c_8 => ?_)
    · refine lv_aload_n hx hb dX3_form_24 rfl (lv_at hl 0 rfl) ?_
      refine va_get (D := D) (ci := 3) (v := .ref fo) (C := RX3) (T := TX3) (N := 8) hx hb hts iw_X3_form_3 hown hK hP 0 rfl rfl 3 (by decide) (hts _ wd_X3_form_1) (fun _ h9 => h9) rfl dX3_form_25 ?_
      refine lv_iload_n hx hb dX3_form_28 rfl (lv_at hl 1 rfl) ?_
      refine va_iald hx hb hK hP 1 0 rfl rfl (pf_X3_form_1 s1 n r_1 r_5 w_2 c_4 w_6 c_8) dX3_form_29 ?_
      refine lv_topi (fun v_9 ev_9 => ?_)
      refine lv_istore_n (lv' := [(3, .int v_9), (0, .ref x), (1, .int s1), (2, .int n)]) hx hb dX3_form_30 rfl hl (by decide) rfl (fun ls hl => ?_)
      refine lv_aload_n hx hb dX3_form_31 rfl (lv_at hl 1 rfl) ?_
      refine va_get (D := D) (ci := 3) (v := .ref fo) (C := RX3) (T := TX3) (N := 8) hx hb hts iw_X3_form_3 hown hK hP 0 rfl rfl 3 (by decide) (hts _ wd_X3_form_1) (fun _ h9 => h9) rfl dX3_form_32 ?_
      refine lv_iload_n hx hb dX3_form_35 rfl (lv_at hl 2 rfl) ?_
      refine lv_iload_n hx hb dX3_form_36 rfl (lv_at hl 3 rfl) ?_
      refine va_iast hx hb hK hP hD hS 1 0 rfl rfl (pf_X3_form_2 ff s1 n r_1 r_5 v_9 w_2 c_4 w_6 c_8 ev_9) dX3_form_37 (fun H locs hP hD hS => ?_)
      have hP : va_P D vwCl [(x, .inr (3, [.ref cu, .ref pi, .ref sq, .ref fo, .ref bo, .int gl, .int td, .int le])), (fo, .inl (cI, 3, .inl (upd ff s1.toNatClampNeg n)))] H := hP
      have hD : va_D A [(x, .inr (3, [.ref cu, .ref pi, .ref sq, .ref fo, .ref bo, .int gl, .int td, .int le])), (fo, .inl (cI, 3, .inl (upd ff s1.toNatClampNeg n)))] := hD
      refine lv_iload_n hx hb dX3_form_38 rfl (lv_at hl 0 rfl) ?_
      refine W.widen (k := 0) (n := 0) (Nat.le_of_ble_eq_true rfl) (Nat.le_of_ble_eq_true rfl) ?_
      exact fi_i (upd ff s1.toNatClampNeg n) hx hb hr hlocks hK (hP.sub [0, 1] rfl) (hD.sub [0, 1] (by decide) rfl) hS ⟨(pf_X3_form_3 ff s1 n r_1 r_5 v_9 w_2 c_4 w_6 c_8 ev_9), (pf_X3_form_4 ff s1 n r_1 r_5 v_9 w_2 c_4 w_6 c_8 ev_9)⟩ dX3_form_39
    · refine lv_bipush (v := (-2)) hx hb dX3_form_21 (by decide) ?_
      refine W.widen (k := 0) (n := 0) (Nat.le_of_ble_eq_true rfl) (Nat.le_of_ble_eq_true rfl) ?_
      exact fi_i ff hx hb hr hlocks hK (hP.sub [0, 1] rfl) (hD.sub [0, 1] (by decide) rfl) hS ⟨(pf_X3_form_5 ff s1 n r_1 r_5 w_2 c_4 w_6 c_8), (pf_X3_form_6 ff s1 n r_1 r_5 w_2 c_4 w_6 c_8)⟩ dX3_form_23
  · refine lv_iconst (v := (-1)) hx hb dX3_form_9 (by decide) ?_
    refine W.widen (k := 0) (n := 0) (Nat.le_of_ble_eq_true rfl) (Nat.le_of_ble_eq_true rfl) ?_
    exact fi_i ff hx hb hr hlocks hK (hP.sub [0, 1] rfl) (hD.sub [0, 1] (by decide) rfl) hS ⟨(pf_X3_form_7 ff s1 n r_1 w_2 c_4), (pf_X3_form_8 ff s1 n r_1 w_2 c_4)⟩ dX3_form_10

theorem iw_X3_level_0 : ∀ w ∈ wsX00, w ∈ wsX3_level := fun w h => (List.mem_cons_of_mem _ (List.mem_append_right _ h))
theorem iw_X3_level_3 : ∀ w ∈ wsX30, w ∈ wsX3_level := fun w h => (List.mem_cons_of_mem _ (List.mem_append_left _ (List.mem_append_right _ h)))
theorem wd_X3_level_1 : (.fieldLink RX3 14 "PourPlan" "curing" "LPourPlan$Curing;" : Cond) ∈ wsX3_level := List.mem_of_getElem? (i := 1) rfl
theorem wd_X3_level_6 : (.instanceMethod yX0_renew : Cond) ∈ wsX3_level := List.mem_of_getElem? (i := 6) rfl
theorem wd_X3_level_7 : (.initialized RX0 : Cond) ∈ wsX3_level := List.mem_of_getElem? (i := 7) rfl
theorem wd_X3_level_8 : (.selects RX0 yX0_renew yX0_renew : Cond) ∈ wsX3_level := List.mem_of_getElem? (i := 8) rfl
set_option maxHeartbeats 1000000 in
theorem pf_X3_level_1 (fs : Nat → Int32) (w : Int32) (v : Int32) (r_1 : Int32) (r_5 : Int32) (hs : okS fs) (w_2 : r_1 = bIn w (0 : Int32) (1 : Int32)) (c_4 : ¬ r_1 = 0) (w_6 : r_5 = bIn v (0 : Int32) (1000 : Int32)) (c_8 : ¬ r_5 = 0) : vp_in w 2 := by
  exact vi_in (M := 2) rfl (by grind [bIn, rLevel, sLev0, sLev1]) (by grind [bIn, rLevel, sLev0, sLev1])
set_option maxHeartbeats 1000000 in
theorem pf_X3_level_2 (fl : Nat → Int32) (fs : Nat → Int32) (w : Int32) (v : Int32) (r_1 : Int32) (r_5 : Int32) (v_9 : Int32) (hs : okS fs) (w_2 : r_1 = bIn w (0 : Int32) (1 : Int32)) (c_4 : ¬ r_1 = 0) (w_6 : r_5 = bIn v (0 : Int32) (1000 : Int32)) (c_8 : ¬ r_5 = 0) (ev_9 : v_9 = fl w.toNatClampNeg) : vp_in w 2 := by
  exact vi_in (M := 2) rfl (by grind [bIn, rLevel, sLev0, sLev1]) (by grind [bIn, rLevel, sLev0, sLev1])
set_option maxHeartbeats 1000000 in
theorem pf_X3_level_3 (fl : Nat → Int32) (fs : Nat → Int32) (w : Int32) (v : Int32) (r_1 : Int32) (r_5 : Int32) (v_9 : Int32) (hs : okS fs) (w_2 : r_1 = bIn w (0 : Int32) (1 : Int32)) (c_4 : ¬ r_1 = 0) (w_6 : r_5 = bIn v (0 : Int32) (1000 : Int32)) (c_8 : ¬ r_5 = 0) (ev_9 : v_9 = fl w.toNatClampNeg) : okS fs := by
  exact hs
set_option maxHeartbeats 1000000 in
theorem pf_X3_level_4 (fl : Nat → Int32) (fs : Nat → Int32) (w : Int32) (v : Int32) (r_1 : Int32) (r_5 : Int32) (v_9 : Int32) (fs2_13 : Nat → Int32) (hs : okS fs) (w_2 : r_1 = bIn w (0 : Int32) (1 : Int32)) (c_4 : ¬ r_1 = 0) (w_6 : r_5 = bIn v (0 : Int32) (1000 : Int32)) (c_8 : ¬ r_5 = 0) (ev_9 : v_9 = fl w.toNatClampNeg) (w_11 : okS fs2_13) : v_9 = rLevel (fl 0) (fl 1) w v := by
  have h3 : w = 0 ∨ w = 1 := by grind [bIn]
  have z0 : (0 : Int32).toNatClampNeg = 0 := rfl
  have z1 : (1 : Int32).toNatClampNeg = 1 := rfl
  rcases h3 with rfl | rfl <;> simp_all [bIn, rLevel, sLev0, sLev1, upd] <;> grind
set_option maxHeartbeats 1000000 in
theorem pf_X3_level_5 (fl : Nat → Int32) (fs : Nat → Int32) (w : Int32) (v : Int32) (r_1 : Int32) (r_5 : Int32) (v_9 : Int32) (fs2_13 : Nat → Int32) (hs : okS fs) (w_2 : r_1 = bIn w (0 : Int32) (1 : Int32)) (c_4 : ¬ r_1 = 0) (w_6 : r_5 = bIn v (0 : Int32) (1000 : Int32)) (c_8 : ¬ r_5 = 0) (ev_9 : v_9 = fl w.toNatClampNeg) (w_11 : okS fs2_13) : (upd fl w.toNatClampNeg v) 0 = sLev0 (fl 0) w v := by
  have h3 : w = 0 ∨ w = 1 := by grind [bIn]
  have z0 : (0 : Int32).toNatClampNeg = 0 := rfl
  have z1 : (1 : Int32).toNatClampNeg = 1 := rfl
  rcases h3 with rfl | rfl <;> simp_all [bIn, rLevel, sLev0, sLev1, upd] <;> grind
set_option maxHeartbeats 1000000 in
theorem pf_X3_level_6 (fl : Nat → Int32) (fs : Nat → Int32) (w : Int32) (v : Int32) (r_1 : Int32) (r_5 : Int32) (v_9 : Int32) (fs2_13 : Nat → Int32) (hs : okS fs) (w_2 : r_1 = bIn w (0 : Int32) (1 : Int32)) (c_4 : ¬ r_1 = 0) (w_6 : r_5 = bIn v (0 : Int32) (1000 : Int32)) (c_8 : ¬ r_5 = 0) (ev_9 : v_9 = fl w.toNatClampNeg) (w_11 : okS fs2_13) : (upd fl w.toNatClampNeg v) 1 = sLev1 (fl 1) w v := by
  have h3 : w = 0 ∨ w = 1 := by grind [bIn]
  have z0 : (0 : Int32).toNatClampNeg = 0 := rfl
  have z1 : (1 : Int32).toNatClampNeg = 1 := rfl
  rcases h3 with rfl | rfl <;> simp_all [bIn, rLevel, sLev0, sLev1, upd] <;> grind
set_option maxHeartbeats 1000000 in
theorem pf_X3_level_7 (fl : Nat → Int32) (fs : Nat → Int32) (w : Int32) (v : Int32) (r_1 : Int32) (r_5 : Int32) (v_9 : Int32) (fs2_13 : Nat → Int32) (hs : okS fs) (w_2 : r_1 = bIn w (0 : Int32) (1 : Int32)) (c_4 : ¬ r_1 = 0) (w_6 : r_5 = bIn v (0 : Int32) (1000 : Int32)) (c_8 : ¬ r_5 = 0) (ev_9 : v_9 = fl w.toNatClampNeg) (w_11 : okS fs2_13) : okS fs2_13 := by
  first
  | (grind [bIn, rLevel, sLev0, sLev1])
  | (first
     | exact hs
     | assumption)
set_option maxHeartbeats 1000000 in
theorem pf_X3_level_8 (fl : Nat → Int32) (fs : Nat → Int32) (w : Int32) (v : Int32) (r_1 : Int32) (r_5 : Int32) (hs : okS fs) (w_2 : r_1 = bIn w (0 : Int32) (1 : Int32)) (c_4 : ¬ r_1 = 0) (w_6 : r_5 = bIn v (0 : Int32) (1000 : Int32)) (c_8 : r_5 = 0) : (-2 : Int32) = rLevel (fl 0) (fl 1) w v := by
  grind [bIn, rLevel, sLev0, sLev1]
set_option maxHeartbeats 1000000 in
theorem pf_X3_level_9 (fl : Nat → Int32) (fs : Nat → Int32) (w : Int32) (v : Int32) (r_1 : Int32) (r_5 : Int32) (hs : okS fs) (w_2 : r_1 = bIn w (0 : Int32) (1 : Int32)) (c_4 : ¬ r_1 = 0) (w_6 : r_5 = bIn v (0 : Int32) (1000 : Int32)) (c_8 : r_5 = 0) : fl 0 = sLev0 (fl 0) w v := by
  grind [bIn, rLevel, sLev0, sLev1]
set_option maxHeartbeats 1000000 in
theorem pf_X3_level_10 (fl : Nat → Int32) (fs : Nat → Int32) (w : Int32) (v : Int32) (r_1 : Int32) (r_5 : Int32) (hs : okS fs) (w_2 : r_1 = bIn w (0 : Int32) (1 : Int32)) (c_4 : ¬ r_1 = 0) (w_6 : r_5 = bIn v (0 : Int32) (1000 : Int32)) (c_8 : r_5 = 0) : fl 1 = sLev1 (fl 1) w v := by
  grind [bIn, rLevel, sLev0, sLev1]
set_option maxHeartbeats 1000000 in
theorem pf_X3_level_11 (fs : Nat → Int32) (w : Int32) (v : Int32) (r_1 : Int32) (r_5 : Int32) (hs : okS fs) (w_2 : r_1 = bIn w (0 : Int32) (1 : Int32)) (c_4 : ¬ r_1 = 0) (w_6 : r_5 = bIn v (0 : Int32) (1000 : Int32)) (c_8 : r_5 = 0) : okS fs := by
  first
  | (grind [bIn, rLevel, sLev0, sLev1])
  | (first
     | exact hs
     | assumption)
set_option maxHeartbeats 1000000 in
theorem pf_X3_level_12 (fl : Nat → Int32) (fs : Nat → Int32) (w : Int32) (v : Int32) (r_1 : Int32) (hs : okS fs) (w_2 : r_1 = bIn w (0 : Int32) (1 : Int32)) (c_4 : r_1 = 0) : (-1 : Int32) = rLevel (fl 0) (fl 1) w v := by
  grind [bIn, rLevel, sLev0, sLev1]
set_option maxHeartbeats 1000000 in
theorem pf_X3_level_13 (fl : Nat → Int32) (fs : Nat → Int32) (w : Int32) (v : Int32) (r_1 : Int32) (hs : okS fs) (w_2 : r_1 = bIn w (0 : Int32) (1 : Int32)) (c_4 : r_1 = 0) : fl 0 = sLev0 (fl 0) w v := by
  grind [bIn, rLevel, sLev0, sLev1]
set_option maxHeartbeats 1000000 in
theorem pf_X3_level_14 (fl : Nat → Int32) (fs : Nat → Int32) (w : Int32) (v : Int32) (r_1 : Int32) (hs : okS fs) (w_2 : r_1 = bIn w (0 : Int32) (1 : Int32)) (c_4 : r_1 = 0) : fl 1 = sLev1 (fl 1) w v := by
  grind [bIn, rLevel, sLev0, sLev1]
set_option maxHeartbeats 1000000 in
theorem pf_X3_level_15 (fs : Nat → Int32) (w : Int32) (r_1 : Int32) (hs : okS fs) (w_2 : r_1 = bIn w (0 : Int32) (1 : Int32)) (c_4 : r_1 = 0) : okS fs := by
  first
  | (grind [bIn, rLevel, sLev0, sLev1])
  | (first
     | exact hs
     | assumption)
set_option maxHeartbeats 4000000 in
set_option maxRecDepth 100000 in
theorem c_X3_level (l : Launch) (D : va_G) (cI cQ : ClassId) (sz : Nat) (x : Nat) (cu : Nat) (a0 : Nat) (a1 : Nat) (a2 : Nat) (a3 : Nat) (a4 : Nat) (a5 : Nat) (pi : Nat) (sq : Nat) (fo : Nat) (bo : Nat) (gl : Int32) (td : Int32) (le : Int32) (bw : Int32) (pts : Int32) (fw : Nat → Int32) (fl : Nat → Int32) (fd : Nat → Int32) (fh : Nat → Int32) (fg : Nat → Int32) (fs : Nat → Int32) (w : Int32) (v : Int32) (hs : okS fs) : CtI l yX3_level wsX3_level 3 70 0 0 [.ref x, .int w, .int v] D [(cI, .int), (cQ, .array .int)] [(x, .inr (3, [.ref cu, .ref pi, .ref sq, .ref fo, .ref bo, .int gl, .int td, .int le])), (cu, .inr (0, [.ref a0, .ref a1, .ref a2, .ref a3, .ref a4, .ref a5, .int bw, .int pts])), (a0, .inl (cI, 40, .inl fw)), (a1, .inl (cI, 2, .inl fl)), (a2, .inl (cI, 6, .inl fd)), (a3, .inl (cI, 6, .inl fh)), (a4, .inl (cI, 40, .inl fg)), (a5, .inl (cI, 40, .inl fs))] sz (fun (r : Int32) (u : (Nat → Int32) × (Nat → Int32) × (Nat → Int32)) => r = rLevel (fl 0) (fl 1) w v ∧ u.1 0 = sLev0 (fl 0) w v ∧ u.1 1 = sLev1 (fl 1) w v ∧ okS u.2.2) (fun (u : (Nat → Int32) × (Nat → Int32) × (Nat → Int32)) => [(x, .inr (3, [.ref cu, .ref pi, .ref sq, .ref fo, .ref bo, .int gl, .int td, .int le])), (cu, .inr (0, [.ref a0, .ref a1, .ref a2, .ref a3, .ref a4, .ref a5, .int bw, .int pts])), (a0, .inl (cI, 40, .inl fw)), (a1, .inl (cI, 2, .inl u.1)), (a2, .inl (cI, 6, .inl fd)), (a3, .inl (cI, 6, .inl fh)), (a4, .inl (cI, 40, .inl u.2.1)), (a5, .inl (cI, 40, .inl u.2.2))]) := by
  refine Met.ofW (cc := cX3_level) (maxL := 4) (ret := (some .int)) (by decide) rfl ?_
  intro p e s m args below meth c s₁ B hml hv
  obtain ⟨rfl, hsz, hP, hK, hD0, hN⟩ := hv
  have hx := B.exec
  have hb := B.bytes
  have hr := B.returns
  have hts := atoms_spec (ws := wsX3_level) B.pre
  have hown : s.vm.findClass RX3 = some m.cls := findClass_of_methodNamed B.named
  have hlocks := B.notSynchronized
  subst hsz
  have hD := hD0.self (sz := s.heap.size)
  generalize hAe : va_A [(x, .inr (3, [.ref cu, .ref pi, .ref sq, .ref fo, .ref bo, .int gl, .int td, .int le])), (cu, .inr (0, [.ref a0, .ref a1, .ref a2, .ref a3, .ref a4, .ref a5, .int bw, .int pts])), (a0, .inl (cI, 40, .inl fw)), (a1, .inl (cI, 2, .inl fl)), (a2, .inl (cI, 6, .inl fd)), (a3, .inl (cI, 6, .inl fh)), (a4, .inl (cI, 40, .inl fg)), (a5, .inl (cI, 40, .inl fs))] s.heap.size = A at hD ⊢
  have hA : ∀ q : Nat, s.heap.size ≤ q → A q := fun q h => by rw [← hAe]; exact Or.inr h
  have hS : va_S A s.heap s.heap [] := va_S.rf
  have hl := lv_entry ([.ref x, .int w, .int v]) (n := 4) (Nat.le_of_ble_eq_true rfl)
  rw [lg_entry_eq]
  generalize (lg_sl ([.ref x, .int w, .int v]) ++ List.replicate (4 - (lg_sl ([.ref x, .int w, .int v])).length) Slot.unset).toArray = ls at hl ⊢
  have hl : lv_has ls 4 [(0, .ref x), (1, .int w), (2, .int v)] := hl
  have hP0 := hP
  refine lv_iload_n hx hb dX3_level_0 rfl (lv_at hl 1 rfl) ?_
  refine lv_iconst (v := 0) hx hb dX3_level_1 (by decide) ?_
  refine lv_iconst (v := 1) hx hb dX3_level_2 (by decide) ?_
  refine cc_i (wc := []) (wr := [(x, .inr (3, [.ref cu, .ref pi, .ref sq, .ref fo, .ref bo, .int gl, .int td, .int le])), (cu, .inr (0, [.ref a0, .ref a1, .ref a2, .ref a3, .ref a4, .ref a5, .int bw, .int pts])), (a0, .inl (cI, 40, .inl fw)), (a1, .inl (cI, 2, .inl fl)), (a2, .inl (cI, 6, .inl fd)), (a3, .inl (cI, 6, .inl fh)), (a4, .inl (cI, 40, .inl fg)), (a5, .inl (cI, 40, .inl fs))]) (va_runS (As := [.int w, .int 0, .int 1]) (rest := []) ⟨hx, hb, hml, hown, hts⟩ (c_X3_isIn l D cI cQ s.heap.size w 0 1 ) (va_cwS 3 hts gX3_level_X3_isIn rfl rfl rfl (by decide +kernel) ⟨Nat.le_of_ble_eq_true rfl, Nat.le_of_ble_eq_true rfl⟩) (preS (wc := []) hK hP hD hN [] rfl (by decide)) rfl rfl hl.1 rfl (lv_room (Nat.le_of_ble_eq_true rfl)) dX3_level_3 ⟨Nat.le_of_ble_eq_true rfl, Nat.le_of_ble_eq_true rfl⟩) hP hD hS hA [] [0, 1, 2, 3, 4, 5, 6, 7] rfl rfl (by decide) (by decide) (fun r_1 u H locs w_2 hP hD hS => ?_)
  have hP : va_P D vwCl [(x, .inr (3, [.ref cu, .ref pi, .ref sq, .ref fo, .ref bo, .int gl, .int td, .int le])), (cu, .inr (0, [.ref a0, .ref a1, .ref a2, .ref a3, .ref a4, .ref a5, .int bw, .int pts])), (a0, .inl (cI, 40, .inl fw)), (a1, .inl (cI, 2, .inl fl)), (a2, .inl (cI, 6, .inl fd)), (a3, .inl (cI, 6, .inl fh)), (a4, .inl (cI, 40, .inl fg)), (a5, .inl (cI, 40, .inl fs))] H := hP
  have hD : va_D A [(x, .inr (3, [.ref cu, .ref pi, .ref sq, .ref fo, .ref bo, .int gl, .int td, .int le])), (cu, .inr (0, [.ref a0, .ref a1, .ref a2, .ref a3, .ref a4, .ref a5, .int bw, .int pts])), (a0, .inl (cI, 40, .inl fw)), (a1, .inl (cI, 2, .inl fl)), (a2, .inl (cI, 6, .inl fd)), (a3, .inl (cI, 6, .inl fh)), (a4, .inl (cI, 40, .inl fg)), (a5, .inl (cI, 40, .inl fs))] := hD
  have w_2 : r_1 = bIn w (0 : Int32) (1 : Int32) := w_2
  refine lv_if_ne (tgt := 11) hx hb dX3_level_6 (by decide) (fun c_4 => ?_) (fun c_4 => ?_)
  · refine lv_iload_n hx hb dX3_level_11 rfl (lv_at hl 2 rfl) ?_
    refine lv_iconst (v := 0) hx hb dX3_level_12 (by decide) ?_
    refine lv_sipush (v := 1000) hx hb dX3_level_13 (by decide) ?_
    refine cc_i (wc := []) (wr := [(x, .inr (3, [.ref cu, .ref pi, .ref sq, .ref fo, .ref bo, .int gl, .int td, .int le])), (cu, .inr (0, [.ref a0, .ref a1, .ref a2, .ref a3, .ref a4, .ref a5, .int bw, .int pts])), (a0, .inl (cI, 40, .inl fw)), (a1, .inl (cI, 2, .inl fl)), (a2, .inl (cI, 6, .inl fd)), (a3, .inl (cI, 6, .inl fh)), (a4, .inl (cI, 40, .inl fg)), (a5, .inl (cI, 40, .inl fs))]) (va_runS (As := [.int v, .int 0, .int 1000]) (rest := []) ⟨hx, hb, hml, hown, hts⟩ (c_X3_isIn l D cI cQ H.size v 0 1000 ) (va_cwS 3 hts gX3_level_X3_isIn rfl rfl rfl (by decide +kernel) ⟨Nat.le_of_ble_eq_true rfl, Nat.le_of_ble_eq_true rfl⟩) (preS (wc := []) hK hP hD hN [] rfl (by decide)) rfl rfl hl.1 rfl (lv_room (Nat.le_of_ble_eq_true rfl)) dX3_level_16 ⟨Nat.le_of_ble_eq_true rfl, Nat.le_of_ble_eq_true rfl⟩) hP hD hS hA [] [0, 1, 2, 3, 4, 5, 6, 7] rfl rfl (by decide) (by decide) (fun r_5 u H locs w_6 hP hD hS => ?_)
    have hP : va_P D vwCl [(x, .inr (3, [.ref cu, .ref pi, .ref sq, .ref fo, .ref bo, .int gl, .int td, .int le])), (cu, .inr (0, [.ref a0, .ref a1, .ref a2, .ref a3, .ref a4, .ref a5, .int bw, .int pts])), (a0, .inl (cI, 40, .inl fw)), (a1, .inl (cI, 2, .inl fl)), (a2, .inl (cI, 6, .inl fd)), (a3, .inl (cI, 6, .inl fh)), (a4, .inl (cI, 40, .inl fg)), (a5, .inl (cI, 40, .inl fs))] H := hP
    have hD : va_D A [(x, .inr (3, [.ref cu, .ref pi, .ref sq, .ref fo, .ref bo, .int gl, .int td, .int le])), (cu, .inr (0, [.ref a0, .ref a1, .ref a2, .ref a3, .ref a4, .ref a5, .int bw, .int pts])), (a0, .inl (cI, 40, .inl fw)), (a1, .inl (cI, 2, .inl fl)), (a2, .inl (cI, 6, .inl fd)), (a3, .inl (cI, 6, .inl fh)), (a4, .inl (cI, 40, .inl fg)), (a5, .inl (cI, 40, .inl fs))] := hD
    have w_6 : r_5 = bIn v (0 : Int32) (1000 : Int32) := w_6
    refine lv_if_ne (tgt := 25) hx hb dX3_level_19 (by decide) (fun c_8 => ?_) (fun c_8 => ?_)
    · refine lv_aload_n hx hb dX3_level_25 rfl (lv_at hl 0 rfl) ?_
      refine va_get (D := D) (ci := 3) (v := .ref cu) (C := RX3) (T := TX3) (N := 8) hx hb hts iw_X3_level_3 hown hK hP 0 rfl rfl 0 (by decide) (hts _ wd_X3_level_1) (fun _ h9 => h9) rfl dX3_level_26 ?_
      refine va_getN (D := D) (ci := 0) (v := .ref a1) (C := RX0) (T := TX0) (N := 8) hx hb hts iw_X3_level_0 hown hK hP 1 rfl rfl 1 (by decide) (va_Nw.use rfl (nwF_76 hN)) (fun _ h9 => h9) rfl dX3_level_29 ?_
      refine lv_iload_n hx hb dX3_level_32 rfl (lv_at hl 1 rfl) ?_
      refine va_iald hx hb hK hP 3 0 rfl rfl (pf_X3_level_1 fs w v r_1 r_5 hs w_2 c_4 w_6 c_8) dX3_level_33 ?_
      refine lv_topi (fun v_9 ev_9 => ?_)
      refine lv_istore_n (lv' := [(3, .int v_9), (0, .ref x), (1, .int w), (2, .int v)]) hx hb dX3_level_34 rfl hl (by decide) rfl (fun ls hl => ?_)
      refine lv_aload_n hx hb dX3_level_35 rfl (lv_at hl 1 rfl) ?_
      refine va_get (D := D) (ci := 3) (v := .ref cu) (C := RX3) (T := TX3) (N := 8) hx hb hts iw_X3_level_3 hown hK hP 0 rfl rfl 0 (by decide) (hts _ wd_X3_level_1) (fun _ h9 => h9) rfl dX3_level_36 ?_
      refine va_getN (D := D) (ci := 0) (v := .ref a1) (C := RX0) (T := TX0) (N := 8) hx hb hts iw_X3_level_0 hown hK hP 1 rfl rfl 1 (by decide) (va_Nw.use rfl (nwF_76 hN)) (fun _ h9 => h9) rfl dX3_level_39 ?_
      refine lv_iload_n hx hb dX3_level_42 rfl (lv_at hl 2 rfl) ?_
      refine lv_iload_n hx hb dX3_level_43 rfl (lv_at hl 3 rfl) ?_
      refine va_iast hx hb hK hP hD hS 3 0 rfl rfl (pf_X3_level_2 fl fs w v r_1 r_5 v_9 hs w_2 c_4 w_6 c_8 ev_9) dX3_level_44 (fun H locs hP hD hS => ?_)
      have hP : va_P D vwCl [(x, .inr (3, [.ref cu, .ref pi, .ref sq, .ref fo, .ref bo, .int gl, .int td, .int le])), (cu, .inr (0, [.ref a0, .ref a1, .ref a2, .ref a3, .ref a4, .ref a5, .int bw, .int pts])), (a0, .inl (cI, 40, .inl fw)), (a1, .inl (cI, 2, .inl (upd fl w.toNatClampNeg v))), (a2, .inl (cI, 6, .inl fd)), (a3, .inl (cI, 6, .inl fh)), (a4, .inl (cI, 40, .inl fg)), (a5, .inl (cI, 40, .inl fs))] H := hP
      have hD : va_D A [(x, .inr (3, [.ref cu, .ref pi, .ref sq, .ref fo, .ref bo, .int gl, .int td, .int le])), (cu, .inr (0, [.ref a0, .ref a1, .ref a2, .ref a3, .ref a4, .ref a5, .int bw, .int pts])), (a0, .inl (cI, 40, .inl fw)), (a1, .inl (cI, 2, .inl (upd fl w.toNatClampNeg v))), (a2, .inl (cI, 6, .inl fd)), (a3, .inl (cI, 6, .inl fh)), (a4, .inl (cI, 40, .inl fg)), (a5, .inl (cI, 40, .inl fs))] := hD
      refine lv_aload_n hx hb dX3_level_45 rfl (lv_at hl 1 rfl) ?_
      refine va_get (D := D) (ci := 3) (v := .ref cu) (C := RX3) (T := TX3) (N := 8) hx hb hts iw_X3_level_3 hown hK hP 0 rfl rfl 0 (by decide) (hts _ wd_X3_level_1) (fun _ h9 => h9) rfl dX3_level_46 ?_
      refine cc_v (wc := [(cu, .inr (0, [.ref a0, .ref a1, .ref a2, .ref a3, .ref a4, .ref a5, .int bw, .int pts])), (a0, .inl (cI, 40, .inl fw)), (a1, .inl (cI, 2, .inl (upd fl w.toNatClampNeg v))), (a2, .inl (cI, 6, .inl fd)), (a3, .inl (cI, 6, .inl fh)), (a4, .inl (cI, 40, .inl fg)), (a5, .inl (cI, 40, .inl fs))]) (wr := [(x, .inr (3, [.ref cu, .ref pi, .ref sq, .ref fo, .ref bo, .int gl, .int td, .int le]))]) (va_runVN (As := []) (rest := []) ⟨hx, hb, hml, hown, hts⟩ (c_X0_renew l D cI cQ H.size cu a0 a1 a2 a3 a4 a5 bw pts fw (upd fl w.toNatClampNeg v) fd fh fg fs (pf_X3_level_3 fl fs w v r_1 r_5 v_9 hs w_2 c_4 w_6 c_8 ev_9)) ⟨va_cnB 0 hts gX3_level_X0_renew_n79 rfl rfl rfl (nwM_79 hN) (hts _ wd_X3_level_7) (by decide +kernel) ⟨Nat.le_of_ble_eq_true rfl, Nat.le_of_ble_eq_true rfl⟩, (hts _ wd_X3_level_6), (hts _ wd_X3_level_8)⟩ (preV (wc := [(cu, .inr (0, [.ref a0, .ref a1, .ref a2, .ref a3, .ref a4, .ref a5, .int bw, .int pts])), (a0, .inl (cI, 40, .inl fw)), (a1, .inl (cI, 2, .inl (upd fl w.toNatClampNeg v))), (a2, .inl (cI, 6, .inl fd)), (a3, .inl (cI, 6, .inl fh)), (a4, .inl (cI, 40, .inl fg)), (a5, .inl (cI, 40, .inl fs))]) (ci := 0) (q0 := 1) hK hP hD hN [1, 2, 3, 4, 5, 6, 7] rfl (by decide) rfl rfl) rfl rfl hl.1 rfl (lv_room (Nat.le_of_ble_eq_true rfl)) dX3_level_49 ⟨Nat.le_of_ble_eq_true rfl, Nat.le_of_ble_eq_true rfl⟩) hP hD hS hA [1, 2, 3, 4, 5, 6, 7] [0] rfl rfl (by decide) (by decide) (fun u H locs w_11 hP hD hS => ?_)
      obtain ⟨fg2_12, fs2_13⟩ := u
      have hP : va_P D vwCl [(x, .inr (3, [.ref cu, .ref pi, .ref sq, .ref fo, .ref bo, .int gl, .int td, .int le])), (cu, .inr (0, [.ref a0, .ref a1, .ref a2, .ref a3, .ref a4, .ref a5, .int bw, .int pts])), (a0, .inl (cI, 40, .inl fw)), (a1, .inl (cI, 2, .inl (upd fl w.toNatClampNeg v))), (a2, .inl (cI, 6, .inl fd)), (a3, .inl (cI, 6, .inl fh)), (a4, .inl (cI, 40, .inl fg2_12)), (a5, .inl (cI, 40, .inl fs2_13))] H := hP
      have hD : va_D A [(x, .inr (3, [.ref cu, .ref pi, .ref sq, .ref fo, .ref bo, .int gl, .int td, .int le])), (cu, .inr (0, [.ref a0, .ref a1, .ref a2, .ref a3, .ref a4, .ref a5, .int bw, .int pts])), (a0, .inl (cI, 40, .inl fw)), (a1, .inl (cI, 2, .inl (upd fl w.toNatClampNeg v))), (a2, .inl (cI, 6, .inl fd)), (a3, .inl (cI, 6, .inl fh)), (a4, .inl (cI, 40, .inl fg2_12)), (a5, .inl (cI, 40, .inl fs2_13))] := hD
      have w_11 : okS fs2_13 := w_11
      refine lv_iload_n hx hb dX3_level_52 rfl (lv_at hl 0 rfl) ?_
      refine W.widen (k := 0) (n := 0) (Nat.le_of_ble_eq_true rfl) (Nat.le_of_ble_eq_true rfl) ?_
      exact fi_i (upd fl w.toNatClampNeg v, fg2_12, fs2_13) hx hb hr hlocks hK (hP.sub [0, 1, 2, 3, 4, 5, 6, 7] rfl) (hD.sub [0, 1, 2, 3, 4, 5, 6, 7] (by decide) rfl) hS ⟨(pf_X3_level_4 fl fs w v r_1 r_5 v_9 fs2_13 hs w_2 c_4 w_6 c_8 ev_9 w_11), (pf_X3_level_5 fl fs w v r_1 r_5 v_9 fs2_13 hs w_2 c_4 w_6 c_8 ev_9 w_11), (pf_X3_level_6 fl fs w v r_1 r_5 v_9 fs2_13 hs w_2 c_4 w_6 c_8 ev_9 w_11), (pf_X3_level_7 fl fs w v r_1 r_5 v_9 fs2_13 hs w_2 c_4 w_6 c_8 ev_9 w_11)⟩ dX3_level_53
    · refine lv_bipush (v := (-2)) hx hb dX3_level_22 (by decide) ?_
      refine W.widen (k := 0) (n := 0) (Nat.le_of_ble_eq_true rfl) (Nat.le_of_ble_eq_true rfl) ?_
      exact fi_i (fl, fg, fs) hx hb hr hlocks hK (hP.sub [0, 1, 2, 3, 4, 5, 6, 7] rfl) (hD.sub [0, 1, 2, 3, 4, 5, 6, 7] (by decide) rfl) hS ⟨(pf_X3_level_8 fl fs w v r_1 r_5 hs w_2 c_4 w_6 c_8), (pf_X3_level_9 fl fs w v r_1 r_5 hs w_2 c_4 w_6 c_8), (pf_X3_level_10 fl fs w v r_1 r_5 hs w_2 c_4 w_6 c_8), (pf_X3_level_11 fs w v r_1 r_5 hs w_2 c_4 w_6 c_8)⟩ dX3_level_24
  · refine lv_iconst (v := (-1)) hx hb dX3_level_9 (by decide) ?_
    refine W.widen (k := 0) (n := 0) (Nat.le_of_ble_eq_true rfl) (Nat.le_of_ble_eq_true rfl) ?_
    exact fi_i (fl, fg, fs) hx hb hr hlocks hK (hP.sub [0, 1, 2, 3, 4, 5, 6, 7] rfl) (hD.sub [0, 1, 2, 3, 4, 5, 6, 7] (by decide) rfl) hS ⟨(pf_X3_level_12 fl fs w v r_1 hs w_2 c_4), (pf_X3_level_13 fl fs w v r_1 hs w_2 c_4), (pf_X3_level_14 fl fs w v r_1 hs w_2 c_4), (pf_X3_level_15 fs w r_1 hs w_2 c_4)⟩ dX3_level_10

theorem iw_X3_warm_0 : ∀ w ∈ wsX00, w ∈ wsX3_warm := fun w h => (List.mem_cons_of_mem _ (List.mem_append_right _ h))
theorem iw_X3_warm_3 : ∀ w ∈ wsX30, w ∈ wsX3_warm := fun w h => (List.mem_cons_of_mem _ (List.mem_append_left _ (List.mem_append_right _ h)))
theorem wd_X3_warm_1 : (.constant RX3 87 (-2147483648) : Cond) ∈ wsX3_warm := List.mem_of_getElem? (i := 1) rfl
theorem wd_X3_warm_2 : (.constant RX3 88 (-2147483647) : Cond) ∈ wsX3_warm := List.mem_of_getElem? (i := 2) rfl
theorem wd_X3_warm_3 : (.fieldLink RX3 14 "PourPlan" "curing" "LPourPlan$Curing;" : Cond) ∈ wsX3_warm := List.mem_of_getElem? (i := 3) rfl
theorem wd_X3_warm_11 : (.instanceMethod yX0_renew : Cond) ∈ wsX3_warm := List.mem_of_getElem? (i := 11) rfl
theorem wd_X3_warm_12 : (.initialized RX0 : Cond) ∈ wsX3_warm := List.mem_of_getElem? (i := 12) rfl
theorem wd_X3_warm_13 : (.selects RX0 yX0_renew yX0_renew : Cond) ∈ wsX3_warm := List.mem_of_getElem? (i := 13) rfl
set_option maxHeartbeats 1000000 in
theorem pf_X3_warm_1 (fs : Nat → Int32) (d : Int32) (w : Int32) (r_1 : Int32) (r_5 : Int32) (hs : okS fs) (w_2 : r_1 = bIn d 0 39) (c_4 : ¬ r_1 = 0) (w_6 : r_5 = bIn w (-30 : Int32) (50 : Int32)) (c_8 : ¬ r_5 = 0) : vp_in d 40 := by
  exact vi_in (M := 40) rfl (by grind [bIn, rWarm, sWarm]) (by grind [bIn, rWarm, sWarm])
set_option maxHeartbeats 1000000 in
theorem pf_X3_warm_2 (fw : Nat → Int32) (fs : Nat → Int32) (d : Int32) (w : Int32) (r_1 : Int32) (r_5 : Int32) (v_9 : Int32) (hs : okS fs) (w_2 : r_1 = bIn d 0 39) (c_4 : ¬ r_1 = 0) (w_6 : r_5 = bIn w (-30 : Int32) (50 : Int32)) (c_8 : ¬ r_5 = 0) (ev_9 : v_9 = fw d.toNatClampNeg) : vp_in d 40 := by
  exact vi_in (M := 40) rfl (by grind [bIn, rWarm, sWarm]) (by grind [bIn, rWarm, sWarm])
set_option maxHeartbeats 1000000 in
theorem pf_X3_warm_3 (fw : Nat → Int32) (fs : Nat → Int32) (d : Int32) (w : Int32) (r_1 : Int32) (r_5 : Int32) (v_9 : Int32) (hs : okS fs) (w_2 : r_1 = bIn d 0 39) (c_4 : ¬ r_1 = 0) (w_6 : r_5 = bIn w (-30 : Int32) (50 : Int32)) (c_8 : ¬ r_5 = 0) (ev_9 : v_9 = fw d.toNatClampNeg) : okS fs := by
  exact hs
set_option maxHeartbeats 1000000 in
theorem pf_X3_warm_4 (fw : Nat → Int32) (fs : Nat → Int32) (d : Int32) (w : Int32) (r_1 : Int32) (r_5 : Int32) (v_9 : Int32) (fs2_13 : Nat → Int32) (hs : okS fs) (w_2 : r_1 = bIn d 0 39) (c_4 : ¬ r_1 = 0) (w_6 : r_5 = bIn w (-30 : Int32) (50 : Int32)) (c_8 : ¬ r_5 = 0) (ev_9 : v_9 = fw d.toNatClampNeg) (w_11 : okS fs2_13) : v_9 = rWarm fw d w := by
  grind [bIn, rWarm, sWarm]
set_option maxHeartbeats 1000000 in
theorem pf_X3_warm_5 (fw : Nat → Int32) (fs : Nat → Int32) (d : Int32) (w : Int32) (r_1 : Int32) (r_5 : Int32) (v_9 : Int32) (fs2_13 : Nat → Int32) (hs : okS fs) (w_2 : r_1 = bIn d 0 39) (c_4 : ¬ r_1 = 0) (w_6 : r_5 = bIn w (-30 : Int32) (50 : Int32)) (c_8 : ¬ r_5 = 0) (ev_9 : v_9 = fw d.toNatClampNeg) (w_11 : okS fs2_13) : (upd fw d.toNatClampNeg w) = sWarm fw d w := by
  grind [bIn, rWarm, sWarm]
set_option maxHeartbeats 1000000 in
theorem pf_X3_warm_6 (fw : Nat → Int32) (fs : Nat → Int32) (d : Int32) (w : Int32) (r_1 : Int32) (r_5 : Int32) (v_9 : Int32) (fs2_13 : Nat → Int32) (hs : okS fs) (w_2 : r_1 = bIn d 0 39) (c_4 : ¬ r_1 = 0) (w_6 : r_5 = bIn w (-30 : Int32) (50 : Int32)) (c_8 : ¬ r_5 = 0) (ev_9 : v_9 = fw d.toNatClampNeg) (w_11 : okS fs2_13) : okS fs2_13 := by
  first
  | (grind [bIn, rWarm, sWarm])
  | (first
     | exact hs
     | assumption)
set_option maxHeartbeats 1000000 in
theorem pf_X3_warm_7 (fw : Nat → Int32) (fs : Nat → Int32) (d : Int32) (w : Int32) (r_1 : Int32) (r_5 : Int32) (hs : okS fs) (w_2 : r_1 = bIn d 0 39) (c_4 : ¬ r_1 = 0) (w_6 : r_5 = bIn w (-30 : Int32) (50 : Int32)) (c_8 : r_5 = 0) : (-2147483647 : Int32) = rWarm fw d w := by
  grind [bIn, rWarm, sWarm]
set_option maxHeartbeats 1000000 in
theorem pf_X3_warm_8 (fw : Nat → Int32) (fs : Nat → Int32) (d : Int32) (w : Int32) (r_1 : Int32) (r_5 : Int32) (hs : okS fs) (w_2 : r_1 = bIn d 0 39) (c_4 : ¬ r_1 = 0) (w_6 : r_5 = bIn w (-30 : Int32) (50 : Int32)) (c_8 : r_5 = 0) : fw = sWarm fw d w := by
  grind [bIn, rWarm, sWarm]
set_option maxHeartbeats 1000000 in
theorem pf_X3_warm_9 (fs : Nat → Int32) (d : Int32) (w : Int32) (r_1 : Int32) (r_5 : Int32) (hs : okS fs) (w_2 : r_1 = bIn d 0 39) (c_4 : ¬ r_1 = 0) (w_6 : r_5 = bIn w (-30 : Int32) (50 : Int32)) (c_8 : r_5 = 0) : okS fs := by
  first
  | (grind [bIn, rWarm, sWarm])
  | (first
     | exact hs
     | assumption)
set_option maxHeartbeats 1000000 in
theorem pf_X3_warm_10 (fw : Nat → Int32) (fs : Nat → Int32) (d : Int32) (w : Int32) (r_1 : Int32) (hs : okS fs) (w_2 : r_1 = bIn d 0 39) (c_4 : r_1 = 0) : (-2147483648 : Int32) = rWarm fw d w := by
  grind [bIn, rWarm, sWarm]
set_option maxHeartbeats 1000000 in
theorem pf_X3_warm_11 (fw : Nat → Int32) (fs : Nat → Int32) (d : Int32) (w : Int32) (r_1 : Int32) (hs : okS fs) (w_2 : r_1 = bIn d 0 39) (c_4 : r_1 = 0) : fw = sWarm fw d w := by
  grind [bIn, rWarm, sWarm]
set_option maxHeartbeats 1000000 in
theorem pf_X3_warm_12 (fs : Nat → Int32) (d : Int32) (r_1 : Int32) (hs : okS fs) (w_2 : r_1 = bIn d 0 39) (c_4 : r_1 = 0) : okS fs := by
  first
  | (grind [bIn, rWarm, sWarm])
  | (first
     | exact hs
     | assumption)
set_option maxHeartbeats 4000000 in
set_option maxRecDepth 100000 in
theorem c_X3_warm (l : Launch) (D : va_G) (cI cQ : ClassId) (sz : Nat) (x : Nat) (cu : Nat) (a0 : Nat) (a1 : Nat) (a2 : Nat) (a3 : Nat) (a4 : Nat) (a5 : Nat) (pi : Nat) (sq : Nat) (fo : Nat) (bo : Nat) (gl : Int32) (td : Int32) (le : Int32) (bw : Int32) (pts : Int32) (fw : Nat → Int32) (fl : Nat → Int32) (fd : Nat → Int32) (fh : Nat → Int32) (fg : Nat → Int32) (fs : Nat → Int32) (d : Int32) (w : Int32) (hs : okS fs) : CtI l yX3_warm wsX3_warm 3 70 0 0 [.ref x, .int d, .int w] D [(cI, .int), (cQ, .array .int)] [(x, .inr (3, [.ref cu, .ref pi, .ref sq, .ref fo, .ref bo, .int gl, .int td, .int le])), (cu, .inr (0, [.ref a0, .ref a1, .ref a2, .ref a3, .ref a4, .ref a5, .int bw, .int pts])), (a0, .inl (cI, 40, .inl fw)), (a1, .inl (cI, 2, .inl fl)), (a2, .inl (cI, 6, .inl fd)), (a3, .inl (cI, 6, .inl fh)), (a4, .inl (cI, 40, .inl fg)), (a5, .inl (cI, 40, .inl fs))] sz (fun (r : Int32) (u : (Nat → Int32) × (Nat → Int32) × (Nat → Int32)) => r = rWarm fw d w ∧ u.1 = sWarm fw d w ∧ okS u.2.2) (fun (u : (Nat → Int32) × (Nat → Int32) × (Nat → Int32)) => [(x, .inr (3, [.ref cu, .ref pi, .ref sq, .ref fo, .ref bo, .int gl, .int td, .int le])), (cu, .inr (0, [.ref a0, .ref a1, .ref a2, .ref a3, .ref a4, .ref a5, .int bw, .int pts])), (a0, .inl (cI, 40, .inl u.1)), (a1, .inl (cI, 2, .inl fl)), (a2, .inl (cI, 6, .inl fd)), (a3, .inl (cI, 6, .inl fh)), (a4, .inl (cI, 40, .inl u.2.1)), (a5, .inl (cI, 40, .inl u.2.2))]) := by
  refine Met.ofW (cc := cX3_warm) (maxL := 4) (ret := (some .int)) (by decide) rfl ?_
  intro p e s m args below meth c s₁ B hml hv
  obtain ⟨rfl, hsz, hP, hK, hD0, hN⟩ := hv
  have hx := B.exec
  have hb := B.bytes
  have hr := B.returns
  have hts := atoms_spec (ws := wsX3_warm) B.pre
  have hown : s.vm.findClass RX3 = some m.cls := findClass_of_methodNamed B.named
  have hlocks := B.notSynchronized
  subst hsz
  have hD := hD0.self (sz := s.heap.size)
  generalize hAe : va_A [(x, .inr (3, [.ref cu, .ref pi, .ref sq, .ref fo, .ref bo, .int gl, .int td, .int le])), (cu, .inr (0, [.ref a0, .ref a1, .ref a2, .ref a3, .ref a4, .ref a5, .int bw, .int pts])), (a0, .inl (cI, 40, .inl fw)), (a1, .inl (cI, 2, .inl fl)), (a2, .inl (cI, 6, .inl fd)), (a3, .inl (cI, 6, .inl fh)), (a4, .inl (cI, 40, .inl fg)), (a5, .inl (cI, 40, .inl fs))] s.heap.size = A at hD ⊢
  have hA : ∀ q : Nat, s.heap.size ≤ q → A q := fun q h => by rw [← hAe]; exact Or.inr h
  have hS : va_S A s.heap s.heap [] := va_S.rf
  have hl := lv_entry ([.ref x, .int d, .int w]) (n := 4) (Nat.le_of_ble_eq_true rfl)
  rw [lg_entry_eq]
  generalize (lg_sl ([.ref x, .int d, .int w]) ++ List.replicate (4 - (lg_sl ([.ref x, .int d, .int w])).length) Slot.unset).toArray = ls at hl ⊢
  have hl : lv_has ls 4 [(0, .ref x), (1, .int d), (2, .int w)] := hl
  have hP0 := hP
  refine lv_iload_n hx hb dX3_warm_0 rfl (lv_at hl 1 rfl) ?_
  refine cc_i (wc := []) (wr := [(x, .inr (3, [.ref cu, .ref pi, .ref sq, .ref fo, .ref bo, .int gl, .int td, .int le])), (cu, .inr (0, [.ref a0, .ref a1, .ref a2, .ref a3, .ref a4, .ref a5, .int bw, .int pts])), (a0, .inl (cI, 40, .inl fw)), (a1, .inl (cI, 2, .inl fl)), (a2, .inl (cI, 6, .inl fd)), (a3, .inl (cI, 6, .inl fh)), (a4, .inl (cI, 40, .inl fg)), (a5, .inl (cI, 40, .inl fs))]) (va_runS (As := [.int d]) (rest := []) ⟨hx, hb, hml, hown, hts⟩ (c_X3_isDay l D cI cQ s.heap.size d ) (va_cwS 1 hts gX3_warm_X3_isDay rfl rfl rfl (by decide +kernel) ⟨Nat.le_of_ble_eq_true rfl, Nat.le_of_ble_eq_true rfl⟩) (preS (wc := []) hK hP hD hN [] rfl (by decide)) rfl rfl hl.1 rfl (lv_room (Nat.le_of_ble_eq_true rfl)) dX3_warm_1 ⟨Nat.le_of_ble_eq_true rfl, Nat.le_of_ble_eq_true rfl⟩) hP hD hS hA [] [0, 1, 2, 3, 4, 5, 6, 7] rfl rfl (by decide) (by decide) (fun r_1 u H locs w_2 hP hD hS => ?_)
  have hP : va_P D vwCl [(x, .inr (3, [.ref cu, .ref pi, .ref sq, .ref fo, .ref bo, .int gl, .int td, .int le])), (cu, .inr (0, [.ref a0, .ref a1, .ref a2, .ref a3, .ref a4, .ref a5, .int bw, .int pts])), (a0, .inl (cI, 40, .inl fw)), (a1, .inl (cI, 2, .inl fl)), (a2, .inl (cI, 6, .inl fd)), (a3, .inl (cI, 6, .inl fh)), (a4, .inl (cI, 40, .inl fg)), (a5, .inl (cI, 40, .inl fs))] H := hP
  have hD : va_D A [(x, .inr (3, [.ref cu, .ref pi, .ref sq, .ref fo, .ref bo, .int gl, .int td, .int le])), (cu, .inr (0, [.ref a0, .ref a1, .ref a2, .ref a3, .ref a4, .ref a5, .int bw, .int pts])), (a0, .inl (cI, 40, .inl fw)), (a1, .inl (cI, 2, .inl fl)), (a2, .inl (cI, 6, .inl fd)), (a3, .inl (cI, 6, .inl fh)), (a4, .inl (cI, 40, .inl fg)), (a5, .inl (cI, 40, .inl fs))] := hD
  have w_2 : r_1 = bIn d 0 39 := w_2
  refine lv_if_ne (tgt := 10) hx hb dX3_warm_4 (by decide) (fun c_4 => ?_) (fun c_4 => ?_)
  · refine lv_iload_n hx hb dX3_warm_10 rfl (lv_at hl 2 rfl) ?_
    refine lv_bipush (v := (-30)) hx hb dX3_warm_11 (by decide) ?_
    refine lv_bipush (v := 50) hx hb dX3_warm_13 (by decide) ?_
    refine cc_i (wc := []) (wr := [(x, .inr (3, [.ref cu, .ref pi, .ref sq, .ref fo, .ref bo, .int gl, .int td, .int le])), (cu, .inr (0, [.ref a0, .ref a1, .ref a2, .ref a3, .ref a4, .ref a5, .int bw, .int pts])), (a0, .inl (cI, 40, .inl fw)), (a1, .inl (cI, 2, .inl fl)), (a2, .inl (cI, 6, .inl fd)), (a3, .inl (cI, 6, .inl fh)), (a4, .inl (cI, 40, .inl fg)), (a5, .inl (cI, 40, .inl fs))]) (va_runS (As := [.int w, .int (-30), .int 50]) (rest := []) ⟨hx, hb, hml, hown, hts⟩ (c_X3_isIn l D cI cQ H.size w (-30) 50 ) (va_cwS 3 hts gX3_warm_X3_isIn rfl rfl rfl (by decide +kernel) ⟨Nat.le_of_ble_eq_true rfl, Nat.le_of_ble_eq_true rfl⟩) (preS (wc := []) hK hP hD hN [] rfl (by decide)) rfl rfl hl.1 rfl (lv_room (Nat.le_of_ble_eq_true rfl)) dX3_warm_15 ⟨Nat.le_of_ble_eq_true rfl, Nat.le_of_ble_eq_true rfl⟩) hP hD hS hA [] [0, 1, 2, 3, 4, 5, 6, 7] rfl rfl (by decide) (by decide) (fun r_5 u H locs w_6 hP hD hS => ?_)
    have hP : va_P D vwCl [(x, .inr (3, [.ref cu, .ref pi, .ref sq, .ref fo, .ref bo, .int gl, .int td, .int le])), (cu, .inr (0, [.ref a0, .ref a1, .ref a2, .ref a3, .ref a4, .ref a5, .int bw, .int pts])), (a0, .inl (cI, 40, .inl fw)), (a1, .inl (cI, 2, .inl fl)), (a2, .inl (cI, 6, .inl fd)), (a3, .inl (cI, 6, .inl fh)), (a4, .inl (cI, 40, .inl fg)), (a5, .inl (cI, 40, .inl fs))] H := hP
    have hD : va_D A [(x, .inr (3, [.ref cu, .ref pi, .ref sq, .ref fo, .ref bo, .int gl, .int td, .int le])), (cu, .inr (0, [.ref a0, .ref a1, .ref a2, .ref a3, .ref a4, .ref a5, .int bw, .int pts])), (a0, .inl (cI, 40, .inl fw)), (a1, .inl (cI, 2, .inl fl)), (a2, .inl (cI, 6, .inl fd)), (a3, .inl (cI, 6, .inl fh)), (a4, .inl (cI, 40, .inl fg)), (a5, .inl (cI, 40, .inl fs))] := hD
    have w_6 : r_5 = bIn w (-30 : Int32) (50 : Int32) := w_6
    refine lv_if_ne (tgt := 24) hx hb dX3_warm_18 (by decide) (fun c_8 => ?_) (fun c_8 => ?_)
    · refine lv_aload_n hx hb dX3_warm_24 rfl (lv_at hl 0 rfl) ?_
      refine va_get (D := D) (ci := 3) (v := .ref cu) (C := RX3) (T := TX3) (N := 8) hx hb hts iw_X3_warm_3 hown hK hP 0 rfl rfl 0 (by decide) (hts _ wd_X3_warm_3) (fun _ h9 => h9) rfl dX3_warm_25 ?_
      refine va_getN (D := D) (ci := 0) (v := .ref a0) (C := RX0) (T := TX0) (N := 8) hx hb hts iw_X3_warm_0 hown hK hP 1 rfl rfl 0 (by decide) (va_Nw.use rfl (nwF_89 hN)) (fun _ h9 => h9) rfl dX3_warm_28 ?_
      refine lv_iload_n hx hb dX3_warm_31 rfl (lv_at hl 1 rfl) ?_
      refine va_iald hx hb hK hP 2 0 rfl rfl (pf_X3_warm_1 fs d w r_1 r_5 hs w_2 c_4 w_6 c_8) dX3_warm_32 ?_
      refine lv_topi (fun v_9 ev_9 => ?_)
      refine lv_istore_n (lv' := [(3, .int v_9), (0, .ref x), (1, .int d), (2, .int w)]) hx hb dX3_warm_33 rfl hl (by decide) rfl (fun ls hl => ?_)
      refine lv_aload_n hx hb dX3_warm_34 rfl (lv_at hl 1 rfl) ?_
      refine va_get (D := D) (ci := 3) (v := .ref cu) (C := RX3) (T := TX3) (N := 8) hx hb hts iw_X3_warm_3 hown hK hP 0 rfl rfl 0 (by decide) (hts _ wd_X3_warm_3) (fun _ h9 => h9) rfl dX3_warm_35 ?_
      refine va_getN (D := D) (ci := 0) (v := .ref a0) (C := RX0) (T := TX0) (N := 8) hx hb hts iw_X3_warm_0 hown hK hP 1 rfl rfl 0 (by decide) (va_Nw.use rfl (nwF_89 hN)) (fun _ h9 => h9) rfl dX3_warm_38 ?_
      refine lv_iload_n hx hb dX3_warm_41 rfl (lv_at hl 2 rfl) ?_
      refine lv_iload_n hx hb dX3_warm_42 rfl (lv_at hl 3 rfl) ?_
      refine va_iast hx hb hK hP hD hS 2 0 rfl rfl (pf_X3_warm_2 fw fs d w r_1 r_5 v_9 hs w_2 c_4 w_6 c_8 ev_9) dX3_warm_43 (fun H locs hP hD hS => ?_)
      have hP : va_P D vwCl [(x, .inr (3, [.ref cu, .ref pi, .ref sq, .ref fo, .ref bo, .int gl, .int td, .int le])), (cu, .inr (0, [.ref a0, .ref a1, .ref a2, .ref a3, .ref a4, .ref a5, .int bw, .int pts])), (a0, .inl (cI, 40, .inl (upd fw d.toNatClampNeg w))), (a1, .inl (cI, 2, .inl fl)), (a2, .inl (cI, 6, .inl fd)), (a3, .inl (cI, 6, .inl fh)), (a4, .inl (cI, 40, .inl fg)), (a5, .inl (cI, 40, .inl fs))] H := hP
      have hD : va_D A [(x, .inr (3, [.ref cu, .ref pi, .ref sq, .ref fo, .ref bo, .int gl, .int td, .int le])), (cu, .inr (0, [.ref a0, .ref a1, .ref a2, .ref a3, .ref a4, .ref a5, .int bw, .int pts])), (a0, .inl (cI, 40, .inl (upd fw d.toNatClampNeg w))), (a1, .inl (cI, 2, .inl fl)), (a2, .inl (cI, 6, .inl fd)), (a3, .inl (cI, 6, .inl fh)), (a4, .inl (cI, 40, .inl fg)), (a5, .inl (cI, 40, .inl fs))] := hD
      refine lv_aload_n hx hb dX3_warm_44 rfl (lv_at hl 1 rfl) ?_
      refine va_get (D := D) (ci := 3) (v := .ref cu) (C := RX3) (T := TX3) (N := 8) hx hb hts iw_X3_warm_3 hown hK hP 0 rfl rfl 0 (by decide) (hts _ wd_X3_warm_3) (fun _ h9 => h9) rfl dX3_warm_45 ?_
      refine cc_v (wc := [(cu, .inr (0, [.ref a0, .ref a1, .ref a2, .ref a3, .ref a4, .ref a5, .int bw, .int pts])), (a0, .inl (cI, 40, .inl (upd fw d.toNatClampNeg w))), (a1, .inl (cI, 2, .inl fl)), (a2, .inl (cI, 6, .inl fd)), (a3, .inl (cI, 6, .inl fh)), (a4, .inl (cI, 40, .inl fg)), (a5, .inl (cI, 40, .inl fs))]) (wr := [(x, .inr (3, [.ref cu, .ref pi, .ref sq, .ref fo, .ref bo, .int gl, .int td, .int le]))]) (va_runVN (As := []) (rest := []) ⟨hx, hb, hml, hown, hts⟩ (c_X0_renew l D cI cQ H.size cu a0 a1 a2 a3 a4 a5 bw pts (upd fw d.toNatClampNeg w) fl fd fh fg fs (pf_X3_warm_3 fw fs d w r_1 r_5 v_9 hs w_2 c_4 w_6 c_8 ev_9)) ⟨va_cnB 0 hts gX3_warm_X0_renew_n79 rfl rfl rfl (nwM_79 hN) (hts _ wd_X3_warm_12) (by decide +kernel) ⟨Nat.le_of_ble_eq_true rfl, Nat.le_of_ble_eq_true rfl⟩, (hts _ wd_X3_warm_11), (hts _ wd_X3_warm_13)⟩ (preV (wc := [(cu, .inr (0, [.ref a0, .ref a1, .ref a2, .ref a3, .ref a4, .ref a5, .int bw, .int pts])), (a0, .inl (cI, 40, .inl (upd fw d.toNatClampNeg w))), (a1, .inl (cI, 2, .inl fl)), (a2, .inl (cI, 6, .inl fd)), (a3, .inl (cI, 6, .inl fh)), (a4, .inl (cI, 40, .inl fg)), (a5, .inl (cI, 40, .inl fs))]) (ci := 0) (q0 := 1) hK hP hD hN [1, 2, 3, 4, 5, 6, 7] rfl (by decide) rfl rfl) rfl rfl hl.1 rfl (lv_room (Nat.le_of_ble_eq_true rfl)) dX3_warm_48 ⟨Nat.le_of_ble_eq_true rfl, Nat.le_of_ble_eq_true rfl⟩) hP hD hS hA [1, 2, 3, 4, 5, 6, 7] [0] rfl rfl (by decide) (by decide) (fun u H locs w_11 hP hD hS => ?_)
      obtain ⟨fg2_12, fs2_13⟩ := u
      have hP : va_P D vwCl [(x, .inr (3, [.ref cu, .ref pi, .ref sq, .ref fo, .ref bo, .int gl, .int td, .int le])), (cu, .inr (0, [.ref a0, .ref a1, .ref a2, .ref a3, .ref a4, .ref a5, .int bw, .int pts])), (a0, .inl (cI, 40, .inl (upd fw d.toNatClampNeg w))), (a1, .inl (cI, 2, .inl fl)), (a2, .inl (cI, 6, .inl fd)), (a3, .inl (cI, 6, .inl fh)), (a4, .inl (cI, 40, .inl fg2_12)), (a5, .inl (cI, 40, .inl fs2_13))] H := hP
      have hD : va_D A [(x, .inr (3, [.ref cu, .ref pi, .ref sq, .ref fo, .ref bo, .int gl, .int td, .int le])), (cu, .inr (0, [.ref a0, .ref a1, .ref a2, .ref a3, .ref a4, .ref a5, .int bw, .int pts])), (a0, .inl (cI, 40, .inl (upd fw d.toNatClampNeg w))), (a1, .inl (cI, 2, .inl fl)), (a2, .inl (cI, 6, .inl fd)), (a3, .inl (cI, 6, .inl fh)), (a4, .inl (cI, 40, .inl fg2_12)), (a5, .inl (cI, 40, .inl fs2_13))] := hD
      have w_11 : okS fs2_13 := w_11
      refine lv_iload_n hx hb dX3_warm_51 rfl (lv_at hl 0 rfl) ?_
      refine W.widen (k := 0) (n := 0) (Nat.le_of_ble_eq_true rfl) (Nat.le_of_ble_eq_true rfl) ?_
      exact fi_i (upd fw d.toNatClampNeg w, fg2_12, fs2_13) hx hb hr hlocks hK (hP.sub [0, 1, 2, 3, 4, 5, 6, 7] rfl) (hD.sub [0, 1, 2, 3, 4, 5, 6, 7] (by decide) rfl) hS ⟨(pf_X3_warm_4 fw fs d w r_1 r_5 v_9 fs2_13 hs w_2 c_4 w_6 c_8 ev_9 w_11), (pf_X3_warm_5 fw fs d w r_1 r_5 v_9 fs2_13 hs w_2 c_4 w_6 c_8 ev_9 w_11), (pf_X3_warm_6 fw fs d w r_1 r_5 v_9 fs2_13 hs w_2 c_4 w_6 c_8 ev_9 w_11)⟩ dX3_warm_52
    · refine lv_ldc hx hb hown (hts _ wd_X3_warm_2) dX3_warm_21 ?_
      refine W.widen (k := 0) (n := 0) (Nat.le_of_ble_eq_true rfl) (Nat.le_of_ble_eq_true rfl) ?_
      exact fi_i (fw, fg, fs) hx hb hr hlocks hK (hP.sub [0, 1, 2, 3, 4, 5, 6, 7] rfl) (hD.sub [0, 1, 2, 3, 4, 5, 6, 7] (by decide) rfl) hS ⟨(pf_X3_warm_7 fw fs d w r_1 r_5 hs w_2 c_4 w_6 c_8), (pf_X3_warm_8 fw fs d w r_1 r_5 hs w_2 c_4 w_6 c_8), (pf_X3_warm_9 fs d w r_1 r_5 hs w_2 c_4 w_6 c_8)⟩ dX3_warm_23
  · refine lv_ldc hx hb hown (hts _ wd_X3_warm_1) dX3_warm_7 ?_
    refine W.widen (k := 0) (n := 0) (Nat.le_of_ble_eq_true rfl) (Nat.le_of_ble_eq_true rfl) ?_
    exact fi_i (fw, fg, fs) hx hb hr hlocks hK (hP.sub [0, 1, 2, 3, 4, 5, 6, 7] rfl) (hD.sub [0, 1, 2, 3, 4, 5, 6, 7] (by decide) rfl) hS ⟨(pf_X3_warm_10 fw fs d w r_1 hs w_2 c_4), (pf_X3_warm_11 fw fs d w r_1 hs w_2 c_4), (pf_X3_warm_12 fs d r_1 hs w_2 c_4)⟩ dX3_warm_9

theorem iw_X3_base_0 : ∀ w ∈ wsX00, w ∈ wsX3_base := fun w h => (List.mem_cons_of_mem _ (List.mem_append_right _ h))
theorem iw_X3_base_3 : ∀ w ∈ wsX30, w ∈ wsX3_base := fun w h => (List.mem_cons_of_mem _ (List.mem_append_left _ (List.mem_append_right _ h)))
theorem wd_X3_base_1 : (.fieldLink RX3 14 "PourPlan" "curing" "LPourPlan$Curing;" : Cond) ∈ wsX3_base := List.mem_of_getElem? (i := 1) rfl
theorem wd_X3_base_6 : (.instanceMethod yX0_renew : Cond) ∈ wsX3_base := List.mem_of_getElem? (i := 6) rfl
theorem wd_X3_base_7 : (.initialized RX0 : Cond) ∈ wsX3_base := List.mem_of_getElem? (i := 7) rfl
theorem wd_X3_base_8 : (.selects RX0 yX0_renew yX0_renew : Cond) ∈ wsX3_base := List.mem_of_getElem? (i := 8) rfl
set_option maxHeartbeats 1000000 in
theorem pf_X3_base_1 (fs : Nat → Int32) (b1 : Int32) (r_1 : Int32) (hs : okS fs) (w_2 : r_1 = bIn b1 (0 : Int32) (20 : Int32)) (c_4 : ¬ r_1 = 0) : okS fs := by
  exact hs
set_option maxHeartbeats 1000000 in
theorem pf_X3_base_2 (bw : Int32) (fs : Nat → Int32) (b1 : Int32) (r_1 : Int32) (fs2_8 : Nat → Int32) (hs : okS fs) (w_2 : r_1 = bIn b1 (0 : Int32) (20 : Int32)) (c_4 : ¬ r_1 = 0) (w_6 : okS fs2_8) : bw = rBase bw b1 := by
  grind [bIn, rBase, sBase]
set_option maxHeartbeats 1000000 in
theorem pf_X3_base_3 (bw : Int32) (fs : Nat → Int32) (b1 : Int32) (r_1 : Int32) (fs2_8 : Nat → Int32) (hs : okS fs) (w_2 : r_1 = bIn b1 (0 : Int32) (20 : Int32)) (c_4 : ¬ r_1 = 0) (w_6 : okS fs2_8) : b1 = sBase bw b1 := by
  grind [bIn, rBase, sBase]
set_option maxHeartbeats 1000000 in
theorem pf_X3_base_4 (fs : Nat → Int32) (b1 : Int32) (r_1 : Int32) (fs2_8 : Nat → Int32) (hs : okS fs) (w_2 : r_1 = bIn b1 (0 : Int32) (20 : Int32)) (c_4 : ¬ r_1 = 0) (w_6 : okS fs2_8) : okS fs2_8 := by
  first
  | (grind [bIn, rBase, sBase])
  | (first
     | exact hs
     | assumption)
set_option maxHeartbeats 1000000 in
theorem pf_X3_base_5 (bw : Int32) (fs : Nat → Int32) (b1 : Int32) (r_1 : Int32) (hs : okS fs) (w_2 : r_1 = bIn b1 (0 : Int32) (20 : Int32)) (c_4 : r_1 = 0) : (-2 : Int32) = rBase bw b1 := by
  grind [bIn, rBase, sBase]
set_option maxHeartbeats 1000000 in
theorem pf_X3_base_6 (bw : Int32) (fs : Nat → Int32) (b1 : Int32) (r_1 : Int32) (hs : okS fs) (w_2 : r_1 = bIn b1 (0 : Int32) (20 : Int32)) (c_4 : r_1 = 0) : bw = sBase bw b1 := by
  grind [bIn, rBase, sBase]
set_option maxHeartbeats 1000000 in
theorem pf_X3_base_7 (fs : Nat → Int32) (b1 : Int32) (r_1 : Int32) (hs : okS fs) (w_2 : r_1 = bIn b1 (0 : Int32) (20 : Int32)) (c_4 : r_1 = 0) : okS fs := by
  first
  | (grind [bIn, rBase, sBase])
  | (first
     | exact hs
     | assumption)
set_option maxHeartbeats 4000000 in
set_option maxRecDepth 100000 in
theorem c_X3_base (l : Launch) (D : va_G) (cI cQ : ClassId) (sz : Nat) (x : Nat) (cu : Nat) (a0 : Nat) (a1 : Nat) (a2 : Nat) (a3 : Nat) (a4 : Nat) (a5 : Nat) (pi : Nat) (sq : Nat) (fo : Nat) (bo : Nat) (gl : Int32) (td : Int32) (le : Int32) (bw : Int32) (pts : Int32) (fw : Nat → Int32) (fl : Nat → Int32) (fd : Nat → Int32) (fh : Nat → Int32) (fg : Nat → Int32) (fs : Nat → Int32) (b1 : Int32) (hs : okS fs) : CtI l yX3_base wsX3_base 3 70 0 0 [.ref x, .int b1] D [(cI, .int), (cQ, .array .int)] [(x, .inr (3, [.ref cu, .ref pi, .ref sq, .ref fo, .ref bo, .int gl, .int td, .int le])), (cu, .inr (0, [.ref a0, .ref a1, .ref a2, .ref a3, .ref a4, .ref a5, .int bw, .int pts])), (a0, .inl (cI, 40, .inl fw)), (a1, .inl (cI, 2, .inl fl)), (a2, .inl (cI, 6, .inl fd)), (a3, .inl (cI, 6, .inl fh)), (a4, .inl (cI, 40, .inl fg)), (a5, .inl (cI, 40, .inl fs))] sz (fun (r : Int32) (u : Int32 × (Nat → Int32) × (Nat → Int32)) => r = rBase bw b1 ∧ u.1 = sBase bw b1 ∧ okS u.2.2) (fun (u : Int32 × (Nat → Int32) × (Nat → Int32)) => [(x, .inr (3, [.ref cu, .ref pi, .ref sq, .ref fo, .ref bo, .int gl, .int td, .int le])), (cu, .inr (0, [.ref a0, .ref a1, .ref a2, .ref a3, .ref a4, .ref a5, .int u.1, .int pts])), (a0, .inl (cI, 40, .inl fw)), (a1, .inl (cI, 2, .inl fl)), (a2, .inl (cI, 6, .inl fd)), (a3, .inl (cI, 6, .inl fh)), (a4, .inl (cI, 40, .inl u.2.1)), (a5, .inl (cI, 40, .inl u.2.2))]) := by
  refine Met.ofW (cc := cX3_base) (maxL := 3) (ret := (some .int)) (by decide) rfl ?_
  intro p e s m args below meth c s₁ B hml hv
  obtain ⟨rfl, hsz, hP, hK, hD0, hN⟩ := hv
  have hx := B.exec
  have hb := B.bytes
  have hr := B.returns
  have hts := atoms_spec (ws := wsX3_base) B.pre
  have hown : s.vm.findClass RX3 = some m.cls := findClass_of_methodNamed B.named
  have hlocks := B.notSynchronized
  subst hsz
  have hD := hD0.self (sz := s.heap.size)
  generalize hAe : va_A [(x, .inr (3, [.ref cu, .ref pi, .ref sq, .ref fo, .ref bo, .int gl, .int td, .int le])), (cu, .inr (0, [.ref a0, .ref a1, .ref a2, .ref a3, .ref a4, .ref a5, .int bw, .int pts])), (a0, .inl (cI, 40, .inl fw)), (a1, .inl (cI, 2, .inl fl)), (a2, .inl (cI, 6, .inl fd)), (a3, .inl (cI, 6, .inl fh)), (a4, .inl (cI, 40, .inl fg)), (a5, .inl (cI, 40, .inl fs))] s.heap.size = A at hD ⊢
  have hA : ∀ q : Nat, s.heap.size ≤ q → A q := fun q h => by rw [← hAe]; exact Or.inr h
  have hS : va_S A s.heap s.heap [] := va_S.rf
  have hl := lv_entry ([.ref x, .int b1]) (n := 3) (Nat.le_of_ble_eq_true rfl)
  rw [lg_entry_eq]
  generalize (lg_sl ([.ref x, .int b1]) ++ List.replicate (3 - (lg_sl ([.ref x, .int b1])).length) Slot.unset).toArray = ls at hl ⊢
  have hl : lv_has ls 3 [(0, .ref x), (1, .int b1)] := hl
  have hP0 := hP
  refine lv_iload_n hx hb dX3_base_0 rfl (lv_at hl 1 rfl) ?_
  refine lv_iconst (v := 0) hx hb dX3_base_1 (by decide) ?_
  refine lv_bipush (v := 20) hx hb dX3_base_2 (by decide) ?_
  refine cc_i (wc := []) (wr := [(x, .inr (3, [.ref cu, .ref pi, .ref sq, .ref fo, .ref bo, .int gl, .int td, .int le])), (cu, .inr (0, [.ref a0, .ref a1, .ref a2, .ref a3, .ref a4, .ref a5, .int bw, .int pts])), (a0, .inl (cI, 40, .inl fw)), (a1, .inl (cI, 2, .inl fl)), (a2, .inl (cI, 6, .inl fd)), (a3, .inl (cI, 6, .inl fh)), (a4, .inl (cI, 40, .inl fg)), (a5, .inl (cI, 40, .inl fs))]) (va_runS (As := [.int b1, .int 0, .int 20]) (rest := []) ⟨hx, hb, hml, hown, hts⟩ (c_X3_isIn l D cI cQ s.heap.size b1 0 20 ) (va_cwS 3 hts gX3_base_X3_isIn rfl rfl rfl (by decide +kernel) ⟨Nat.le_of_ble_eq_true rfl, Nat.le_of_ble_eq_true rfl⟩) (preS (wc := []) hK hP hD hN [] rfl (by decide)) rfl rfl hl.1 rfl (lv_room (Nat.le_of_ble_eq_true rfl)) dX3_base_4 ⟨Nat.le_of_ble_eq_true rfl, Nat.le_of_ble_eq_true rfl⟩) hP hD hS hA [] [0, 1, 2, 3, 4, 5, 6, 7] rfl rfl (by decide) (by decide) (fun r_1 u H locs w_2 hP hD hS => ?_)
  have hP : va_P D vwCl [(x, .inr (3, [.ref cu, .ref pi, .ref sq, .ref fo, .ref bo, .int gl, .int td, .int le])), (cu, .inr (0, [.ref a0, .ref a1, .ref a2, .ref a3, .ref a4, .ref a5, .int bw, .int pts])), (a0, .inl (cI, 40, .inl fw)), (a1, .inl (cI, 2, .inl fl)), (a2, .inl (cI, 6, .inl fd)), (a3, .inl (cI, 6, .inl fh)), (a4, .inl (cI, 40, .inl fg)), (a5, .inl (cI, 40, .inl fs))] H := hP
  have hD : va_D A [(x, .inr (3, [.ref cu, .ref pi, .ref sq, .ref fo, .ref bo, .int gl, .int td, .int le])), (cu, .inr (0, [.ref a0, .ref a1, .ref a2, .ref a3, .ref a4, .ref a5, .int bw, .int pts])), (a0, .inl (cI, 40, .inl fw)), (a1, .inl (cI, 2, .inl fl)), (a2, .inl (cI, 6, .inl fd)), (a3, .inl (cI, 6, .inl fh)), (a4, .inl (cI, 40, .inl fg)), (a5, .inl (cI, 40, .inl fs))] := hD
  have w_2 : r_1 = bIn b1 (0 : Int32) (20 : Int32) := w_2
  refine lv_if_ne (tgt := 13) hx hb dX3_base_7 (by decide) (fun c_4 => ?_) (fun c_4 => ?_)
  · refine lv_aload_n hx hb dX3_base_13 rfl (lv_at hl 0 rfl) ?_
    refine va_get (D := D) (ci := 3) (v := .ref cu) (C := RX3) (T := TX3) (N := 8) hx hb hts iw_X3_base_3 hown hK hP 0 rfl rfl 0 (by decide) (hts _ wd_X3_base_1) (fun _ h9 => h9) rfl dX3_base_14 ?_
    refine va_getN (D := D) (ci := 0) (v := .int bw) (C := RX0) (T := TX0) (N := 8) hx hb hts iw_X3_base_0 hown hK hP 1 rfl rfl 6 (by decide) (va_Nw.use rfl (nwF_92 hN)) (fun _ h9 => h9) rfl dX3_base_17 ?_
    refine lv_istore_n (lv' := [(2, .int bw), (0, .ref x), (1, .int b1)]) hx hb dX3_base_20 rfl hl (by decide) rfl (fun ls hl => ?_)
    refine lv_aload_n hx hb dX3_base_21 rfl (lv_at hl 1 rfl) ?_
    refine va_get (D := D) (ci := 3) (v := .ref cu) (C := RX3) (T := TX3) (N := 8) hx hb hts iw_X3_base_3 hown hK hP 0 rfl rfl 0 (by decide) (hts _ wd_X3_base_1) (fun _ h9 => h9) rfl dX3_base_22 ?_
    refine lv_iload_n hx hb dX3_base_25 rfl (lv_at hl 2 rfl) ?_
    refine va_putN (D := D) (ci := 0) (v := .int b1) (ty := .int) (C := RX0) (T := TX0) (N := 8) hx hb hts iw_X3_base_0 tyX0 tyX0_ok nmX0 hown hK hP hD hS 1 rfl rfl 6 (by decide) (va_Nw.use rfl (nwF_92 hN)) (fun _ h9 => h9) rfl (by decide +kernel) rfl rfl (Nat.le_of_ble_eq_true rfl) dX3_base_26 (fun H locs hP hD hS => ?_)
    have hP : va_P D vwCl [(x, .inr (3, [.ref cu, .ref pi, .ref sq, .ref fo, .ref bo, .int gl, .int td, .int le])), (cu, .inr (0, [.ref a0, .ref a1, .ref a2, .ref a3, .ref a4, .ref a5, .int b1, .int pts])), (a0, .inl (cI, 40, .inl fw)), (a1, .inl (cI, 2, .inl fl)), (a2, .inl (cI, 6, .inl fd)), (a3, .inl (cI, 6, .inl fh)), (a4, .inl (cI, 40, .inl fg)), (a5, .inl (cI, 40, .inl fs))] H := hP
    have hD : va_D A [(x, .inr (3, [.ref cu, .ref pi, .ref sq, .ref fo, .ref bo, .int gl, .int td, .int le])), (cu, .inr (0, [.ref a0, .ref a1, .ref a2, .ref a3, .ref a4, .ref a5, .int b1, .int pts])), (a0, .inl (cI, 40, .inl fw)), (a1, .inl (cI, 2, .inl fl)), (a2, .inl (cI, 6, .inl fd)), (a3, .inl (cI, 6, .inl fh)), (a4, .inl (cI, 40, .inl fg)), (a5, .inl (cI, 40, .inl fs))] := hD
    refine lv_aload_n hx hb dX3_base_29 rfl (lv_at hl 1 rfl) ?_
    refine va_get (D := D) (ci := 3) (v := .ref cu) (C := RX3) (T := TX3) (N := 8) hx hb hts iw_X3_base_3 hown hK hP 0 rfl rfl 0 (by decide) (hts _ wd_X3_base_1) (fun _ h9 => h9) rfl dX3_base_30 ?_
    refine cc_v (wc := [(cu, .inr (0, [.ref a0, .ref a1, .ref a2, .ref a3, .ref a4, .ref a5, .int b1, .int pts])), (a0, .inl (cI, 40, .inl fw)), (a1, .inl (cI, 2, .inl fl)), (a2, .inl (cI, 6, .inl fd)), (a3, .inl (cI, 6, .inl fh)), (a4, .inl (cI, 40, .inl fg)), (a5, .inl (cI, 40, .inl fs))]) (wr := [(x, .inr (3, [.ref cu, .ref pi, .ref sq, .ref fo, .ref bo, .int gl, .int td, .int le]))]) (va_runVN (As := []) (rest := []) ⟨hx, hb, hml, hown, hts⟩ (c_X0_renew l D cI cQ H.size cu a0 a1 a2 a3 a4 a5 b1 pts fw fl fd fh fg fs (pf_X3_base_1 fs b1 r_1 hs w_2 c_4)) ⟨va_cnB 0 hts gX3_base_X0_renew_n79 rfl rfl rfl (nwM_79 hN) (hts _ wd_X3_base_7) (by decide +kernel) ⟨Nat.le_of_ble_eq_true rfl, Nat.le_of_ble_eq_true rfl⟩, (hts _ wd_X3_base_6), (hts _ wd_X3_base_8)⟩ (preV (wc := [(cu, .inr (0, [.ref a0, .ref a1, .ref a2, .ref a3, .ref a4, .ref a5, .int b1, .int pts])), (a0, .inl (cI, 40, .inl fw)), (a1, .inl (cI, 2, .inl fl)), (a2, .inl (cI, 6, .inl fd)), (a3, .inl (cI, 6, .inl fh)), (a4, .inl (cI, 40, .inl fg)), (a5, .inl (cI, 40, .inl fs))]) (ci := 0) (q0 := 1) hK hP hD hN [1, 2, 3, 4, 5, 6, 7] rfl (by decide) rfl rfl) rfl rfl hl.1 rfl (lv_room (Nat.le_of_ble_eq_true rfl)) dX3_base_33 ⟨Nat.le_of_ble_eq_true rfl, Nat.le_of_ble_eq_true rfl⟩) hP hD hS hA [1, 2, 3, 4, 5, 6, 7] [0] rfl rfl (by decide) (by decide) (fun u H locs w_6 hP hD hS => ?_)
    obtain ⟨fg2_7, fs2_8⟩ := u
    have hP : va_P D vwCl [(x, .inr (3, [.ref cu, .ref pi, .ref sq, .ref fo, .ref bo, .int gl, .int td, .int le])), (cu, .inr (0, [.ref a0, .ref a1, .ref a2, .ref a3, .ref a4, .ref a5, .int b1, .int pts])), (a0, .inl (cI, 40, .inl fw)), (a1, .inl (cI, 2, .inl fl)), (a2, .inl (cI, 6, .inl fd)), (a3, .inl (cI, 6, .inl fh)), (a4, .inl (cI, 40, .inl fg2_7)), (a5, .inl (cI, 40, .inl fs2_8))] H := hP
    have hD : va_D A [(x, .inr (3, [.ref cu, .ref pi, .ref sq, .ref fo, .ref bo, .int gl, .int td, .int le])), (cu, .inr (0, [.ref a0, .ref a1, .ref a2, .ref a3, .ref a4, .ref a5, .int b1, .int pts])), (a0, .inl (cI, 40, .inl fw)), (a1, .inl (cI, 2, .inl fl)), (a2, .inl (cI, 6, .inl fd)), (a3, .inl (cI, 6, .inl fh)), (a4, .inl (cI, 40, .inl fg2_7)), (a5, .inl (cI, 40, .inl fs2_8))] := hD
    have w_6 : okS fs2_8 := w_6
    refine lv_iload_n hx hb dX3_base_36 rfl (lv_at hl 0 rfl) ?_
    refine W.widen (k := 0) (n := 0) (Nat.le_of_ble_eq_true rfl) (Nat.le_of_ble_eq_true rfl) ?_
    exact fi_i (b1, fg2_7, fs2_8) hx hb hr hlocks hK (hP.sub [0, 1, 2, 3, 4, 5, 6, 7] rfl) (hD.sub [0, 1, 2, 3, 4, 5, 6, 7] (by decide) rfl) hS ⟨(pf_X3_base_2 bw fs b1 r_1 fs2_8 hs w_2 c_4 w_6), (pf_X3_base_3 bw fs b1 r_1 fs2_8 hs w_2 c_4 w_6), (pf_X3_base_4 fs b1 r_1 fs2_8 hs w_2 c_4 w_6)⟩ dX3_base_37
  · refine lv_bipush (v := (-2)) hx hb dX3_base_10 (by decide) ?_
    refine W.widen (k := 0) (n := 0) (Nat.le_of_ble_eq_true rfl) (Nat.le_of_ble_eq_true rfl) ?_
    exact fi_i (bw, fg, fs) hx hb hr hlocks hK (hP.sub [0, 1, 2, 3, 4, 5, 6, 7] rfl) (hD.sub [0, 1, 2, 3, 4, 5, 6, 7] (by decide) rfl) hS ⟨(pf_X3_base_5 bw fs b1 r_1 hs w_2 c_4), (pf_X3_base_6 bw fs b1 r_1 hs w_2 c_4), (pf_X3_base_7 fs b1 r_1 hs w_2 c_4)⟩ dX3_base_12

theorem iw_X3_point_0 : ∀ w ∈ wsX00, w ∈ wsX3_point := fun w h => (List.mem_cons_of_mem _ (List.mem_append_right _ h))
theorem iw_X3_point_3 : ∀ w ∈ wsX30, w ∈ wsX3_point := fun w h => (List.mem_cons_of_mem _ (List.mem_append_left _ (List.mem_append_right _ h)))
theorem wd_X3_point_1 : (.fieldLink RX3 14 "PourPlan" "curing" "LPourPlan$Curing;" : Cond) ∈ wsX3_point := List.mem_of_getElem? (i := 1) rfl
theorem wd_X3_point_6 : (.instanceMethod yX0_goesOnWith : Cond) ∈ wsX3_point := List.mem_of_getElem? (i := 6) rfl
theorem wd_X3_point_7 : (.initialized RX0 : Cond) ∈ wsX3_point := List.mem_of_getElem? (i := 7) rfl
theorem wd_X3_point_8 : (.selects RX0 yX0_goesOnWith yX0_goesOnWith : Cond) ∈ wsX3_point := List.mem_of_getElem? (i := 8) rfl
theorem wd_X3_point_13 : (.instanceMethod yX0_addPoint : Cond) ∈ wsX3_point := List.mem_of_getElem? (i := 13) rfl
theorem wd_X3_point_14 : (.selects RX0 yX0_addPoint yX0_addPoint : Cond) ∈ wsX3_point := List.mem_of_getElem? (i := 14) rfl
theorem wd_X3_point_16 : (.instanceMethod yX0_renew : Cond) ∈ wsX3_point := List.mem_of_getElem? (i := 16) rfl
theorem wd_X3_point_17 : (.selects RX0 yX0_renew yX0_renew : Cond) ∈ wsX3_point := List.mem_of_getElem? (i := 17) rfl
set_option maxHeartbeats 1000000 in
theorem pf_X3_point_1 (pts : Int32) (fd : Nat → Int32) (fh : Nat → Int32) (fs : Nat → Int32) (d : Int32) (t : Int32) (r_1 : Int32) (hs : okS fs) (hp0 : 0 ≤ pts) (hp6 : pts ≤ 6) (w_2 : r_1 = bIn d (1 : Int32) (2000 : Int32)) (c_4 : r_1 = 0) : (bGo fd fh pts d t → (-2 : Int32) = -2 ∧ pts = pts ∧ fd = fd ∧ fh = fh) := by
  grind [bIn, bGo]
set_option maxHeartbeats 1000000 in
theorem pf_X3_point_2 (pts : Int32) (fd : Nat → Int32) (fh : Nat → Int32) (fs : Nat → Int32) (d : Int32) (t : Int32) (r_1 : Int32) (hs : okS fs) (hp0 : 0 ≤ pts) (hp6 : pts ≤ 6) (w_2 : r_1 = bIn d (1 : Int32) (2000 : Int32)) (c_4 : r_1 = 0) : (¬ bGo fd fh pts d t → pts = 6 → (-2 : Int32) = -4 ∧ pts = pts ∧ fd = fd ∧ fh = fh) := by
  grind [bIn, bGo]
set_option maxHeartbeats 1000000 in
theorem pf_X3_point_3 (pts : Int32) (fd : Nat → Int32) (fh : Nat → Int32) (fs : Nat → Int32) (d : Int32) (t : Int32) (r_1 : Int32) (hs : okS fs) (hp0 : 0 ≤ pts) (hp6 : pts ≤ 6) (w_2 : r_1 = bIn d (1 : Int32) (2000 : Int32)) (c_4 : r_1 = 0) : (¬ bGo fd fh pts d t → pts < 6 → (-2 : Int32) = pts + 1 ∧ pts = pts + 1 ∧ fd = upd fd pts.toNatClampNeg d ∧ fh = upd fh pts.toNatClampNeg t) := by
  grind [bIn, bGo]
set_option maxHeartbeats 1000000 in
theorem pf_X3_point_4 (pts : Int32) (fs : Nat → Int32) (d : Int32) (r_1 : Int32) (hs : okS fs) (hp0 : 0 ≤ pts) (hp6 : pts ≤ 6) (w_2 : r_1 = bIn d (1 : Int32) (2000 : Int32)) (c_4 : r_1 = 0) : okS fs := by
  first
  | (grind [bIn, bGo])
  | (first
     | exact hs
     | assumption)
set_option maxHeartbeats 1000000 in
theorem pf_X3_point_5 (pts : Int32) (fd : Nat → Int32) (fh : Nat → Int32) (fs : Nat → Int32) (d : Int32) (t : Int32) (r_1 : Int32) (r_5 : Int32) (hs : okS fs) (hp0 : 0 ≤ pts) (hp6 : pts ≤ 6) (w_2 : r_1 = bIn d (1 : Int32) (2000 : Int32)) (c_4 : ¬ r_1 = 0) (w_6 : r_5 = bIn t (0 : Int32) (1000 : Int32)) (c_8 : r_5 = 0) : (bGo fd fh pts d t → (-2 : Int32) = -2 ∧ pts = pts ∧ fd = fd ∧ fh = fh) := by
  grind [bIn, bGo]
set_option maxHeartbeats 1000000 in
theorem pf_X3_point_6 (pts : Int32) (fd : Nat → Int32) (fh : Nat → Int32) (fs : Nat → Int32) (d : Int32) (t : Int32) (r_1 : Int32) (r_5 : Int32) (hs : okS fs) (hp0 : 0 ≤ pts) (hp6 : pts ≤ 6) (w_2 : r_1 = bIn d (1 : Int32) (2000 : Int32)) (c_4 : ¬ r_1 = 0) (w_6 : r_5 = bIn t (0 : Int32) (1000 : Int32)) (c_8 : r_5 = 0) : (¬ bGo fd fh pts d t → pts = 6 → (-2 : Int32) = -4 ∧ pts = pts ∧ fd = fd ∧ fh = fh) := by
  grind [bIn, bGo]
set_option maxHeartbeats 1000000 in
theorem pf_X3_point_7 (pts : Int32) (fd : Nat → Int32) (fh : Nat → Int32) (fs : Nat → Int32) (d : Int32) (t : Int32) (r_1 : Int32) (r_5 : Int32) (hs : okS fs) (hp0 : 0 ≤ pts) (hp6 : pts ≤ 6) (w_2 : r_1 = bIn d (1 : Int32) (2000 : Int32)) (c_4 : ¬ r_1 = 0) (w_6 : r_5 = bIn t (0 : Int32) (1000 : Int32)) (c_8 : r_5 = 0) : (¬ bGo fd fh pts d t → pts < 6 → (-2 : Int32) = pts + 1 ∧ pts = pts + 1 ∧ fd = upd fd pts.toNatClampNeg d ∧ fh = upd fh pts.toNatClampNeg t) := by
  grind [bIn, bGo]
set_option maxHeartbeats 1000000 in
theorem pf_X3_point_8 (pts : Int32) (fs : Nat → Int32) (d : Int32) (t : Int32) (r_1 : Int32) (r_5 : Int32) (hs : okS fs) (hp0 : 0 ≤ pts) (hp6 : pts ≤ 6) (w_2 : r_1 = bIn d (1 : Int32) (2000 : Int32)) (c_4 : ¬ r_1 = 0) (w_6 : r_5 = bIn t (0 : Int32) (1000 : Int32)) (c_8 : r_5 = 0) : okS fs := by
  first
  | (grind [bIn, bGo])
  | (first
     | exact hs
     | assumption)
set_option maxHeartbeats 1000000 in
theorem pf_X3_point_9 (pts : Int32) (fs : Nat → Int32) (d : Int32) (t : Int32) (r_1 : Int32) (r_5 : Int32) (hs : okS fs) (hp0 : 0 ≤ pts) (hp6 : pts ≤ 6) (w_2 : r_1 = bIn d (1 : Int32) (2000 : Int32)) (c_4 : ¬ r_1 = 0) (w_6 : r_5 = bIn t (0 : Int32) (1000 : Int32)) (c_8 : ¬ r_5 = 0) : 0 ≤ pts := by
  grind [bIn, bGo]
set_option maxHeartbeats 1000000 in
theorem pf_X3_point_10 (pts : Int32) (fs : Nat → Int32) (d : Int32) (t : Int32) (r_1 : Int32) (r_5 : Int32) (hs : okS fs) (hp0 : 0 ≤ pts) (hp6 : pts ≤ 6) (w_2 : r_1 = bIn d (1 : Int32) (2000 : Int32)) (c_4 : ¬ r_1 = 0) (w_6 : r_5 = bIn t (0 : Int32) (1000 : Int32)) (c_8 : ¬ r_5 = 0) : pts ≤ 6 := by
  grind [bIn, bGo]
set_option maxHeartbeats 1000000 in
theorem pf_X3_point_11 (pts : Int32) (fd : Nat → Int32) (fh : Nat → Int32) (fs : Nat → Int32) (d : Int32) (t : Int32) (r_1 : Int32) (r_5 : Int32) (r_9 : Int32) (hs : okS fs) (hp0 : 0 ≤ pts) (hp6 : pts ≤ 6) (w_2 : r_1 = bIn d (1 : Int32) (2000 : Int32)) (c_4 : ¬ r_1 = 0) (w_6 : r_5 = bIn t (0 : Int32) (1000 : Int32)) (c_8 : ¬ r_5 = 0) (w_10 : (r_9 = 0 ↔ (0 < pts ∧ (d ≤ fd (pts - 1).toNatClampNeg ∨ t < fh (pts - 1).toNatClampNeg)))) (c_12 : ¬ r_9 = 0) (c_13 : pts < 6) : 0 ≤ pts := by
  grind [bIn, bGo]
set_option maxHeartbeats 1000000 in
theorem pf_X3_point_12 (pts : Int32) (fd : Nat → Int32) (fh : Nat → Int32) (fs : Nat → Int32) (d : Int32) (t : Int32) (r_1 : Int32) (r_5 : Int32) (r_9 : Int32) (pts2_16 : Int32) (fd2_17 : Nat → Int32) (fh2_18 : Nat → Int32) (hs : okS fs) (hp0 : 0 ≤ pts) (hp6 : pts ≤ 6) (w_2 : r_1 = bIn d (1 : Int32) (2000 : Int32)) (c_4 : ¬ r_1 = 0) (w_6 : r_5 = bIn t (0 : Int32) (1000 : Int32)) (c_8 : ¬ r_5 = 0) (w_10 : (r_9 = 0 ↔ (0 < pts ∧ (d ≤ fd (pts - 1).toNatClampNeg ∨ t < fh (pts - 1).toNatClampNeg)))) (c_12 : ¬ r_9 = 0) (c_13 : pts < 6) (h_19 : (pts < 6 → pts2_16 = pts + 1)) (h_20 : (pts < 6 → fd2_17 = upd fd pts.toNatClampNeg d)) (h_21 : (pts < 6 → fh2_18 = upd fh pts.toNatClampNeg t)) : okS fs := by
  exact hs
set_option maxHeartbeats 1000000 in
theorem pf_X3_point_13 (pts : Int32) (fd : Nat → Int32) (fh : Nat → Int32) (fs : Nat → Int32) (d : Int32) (t : Int32) (r_1 : Int32) (r_5 : Int32) (r_9 : Int32) (pts2_16 : Int32) (fd2_17 : Nat → Int32) (fh2_18 : Nat → Int32) (fs2_25 : Nat → Int32) (hs : okS fs) (hp0 : 0 ≤ pts) (hp6 : pts ≤ 6) (w_2 : r_1 = bIn d (1 : Int32) (2000 : Int32)) (c_4 : ¬ r_1 = 0) (w_6 : r_5 = bIn t (0 : Int32) (1000 : Int32)) (c_8 : ¬ r_5 = 0) (w_10 : (r_9 = 0 ↔ (0 < pts ∧ (d ≤ fd (pts - 1).toNatClampNeg ∨ t < fh (pts - 1).toNatClampNeg)))) (c_12 : ¬ r_9 = 0) (c_13 : pts < 6) (h_19 : (pts < 6 → pts2_16 = pts + 1)) (h_20 : (pts < 6 → fd2_17 = upd fd pts.toNatClampNeg d)) (h_21 : (pts < 6 → fh2_18 = upd fh pts.toNatClampNeg t)) (w_23 : okS fs2_25) : (bGo fd fh pts d t → pts2_16 = -2 ∧ pts2_16 = pts ∧ fd2_17 = fd ∧ fh2_18 = fh) := by
  grind [bIn, bGo]
set_option maxHeartbeats 1000000 in
theorem pf_X3_point_14 (pts : Int32) (fd : Nat → Int32) (fh : Nat → Int32) (fs : Nat → Int32) (d : Int32) (t : Int32) (r_1 : Int32) (r_5 : Int32) (r_9 : Int32) (pts2_16 : Int32) (fd2_17 : Nat → Int32) (fh2_18 : Nat → Int32) (fs2_25 : Nat → Int32) (hs : okS fs) (hp0 : 0 ≤ pts) (hp6 : pts ≤ 6) (w_2 : r_1 = bIn d (1 : Int32) (2000 : Int32)) (c_4 : ¬ r_1 = 0) (w_6 : r_5 = bIn t (0 : Int32) (1000 : Int32)) (c_8 : ¬ r_5 = 0) (w_10 : (r_9 = 0 ↔ (0 < pts ∧ (d ≤ fd (pts - 1).toNatClampNeg ∨ t < fh (pts - 1).toNatClampNeg)))) (c_12 : ¬ r_9 = 0) (c_13 : pts < 6) (h_19 : (pts < 6 → pts2_16 = pts + 1)) (h_20 : (pts < 6 → fd2_17 = upd fd pts.toNatClampNeg d)) (h_21 : (pts < 6 → fh2_18 = upd fh pts.toNatClampNeg t)) (w_23 : okS fs2_25) : (¬ bGo fd fh pts d t → pts = 6 → pts2_16 = -4 ∧ pts2_16 = pts ∧ fd2_17 = fd ∧ fh2_18 = fh) := by
  grind [bIn, bGo]
set_option maxHeartbeats 1000000 in
theorem pf_X3_point_15 (pts : Int32) (fd : Nat → Int32) (fh : Nat → Int32) (fs : Nat → Int32) (d : Int32) (t : Int32) (r_1 : Int32) (r_5 : Int32) (r_9 : Int32) (pts2_16 : Int32) (fd2_17 : Nat → Int32) (fh2_18 : Nat → Int32) (fs2_25 : Nat → Int32) (hs : okS fs) (hp0 : 0 ≤ pts) (hp6 : pts ≤ 6) (w_2 : r_1 = bIn d (1 : Int32) (2000 : Int32)) (c_4 : ¬ r_1 = 0) (w_6 : r_5 = bIn t (0 : Int32) (1000 : Int32)) (c_8 : ¬ r_5 = 0) (w_10 : (r_9 = 0 ↔ (0 < pts ∧ (d ≤ fd (pts - 1).toNatClampNeg ∨ t < fh (pts - 1).toNatClampNeg)))) (c_12 : ¬ r_9 = 0) (c_13 : pts < 6) (h_19 : (pts < 6 → pts2_16 = pts + 1)) (h_20 : (pts < 6 → fd2_17 = upd fd pts.toNatClampNeg d)) (h_21 : (pts < 6 → fh2_18 = upd fh pts.toNatClampNeg t)) (w_23 : okS fs2_25) : (¬ bGo fd fh pts d t → pts < 6 → pts2_16 = pts + 1 ∧ pts2_16 = pts + 1 ∧ fd2_17 = upd fd pts.toNatClampNeg d ∧ fh2_18 = upd fh pts.toNatClampNeg t) := by
  grind [bIn, bGo]
set_option maxHeartbeats 1000000 in
theorem pf_X3_point_16 (pts : Int32) (fd : Nat → Int32) (fh : Nat → Int32) (fs : Nat → Int32) (d : Int32) (t : Int32) (r_1 : Int32) (r_5 : Int32) (r_9 : Int32) (pts2_16 : Int32) (fd2_17 : Nat → Int32) (fh2_18 : Nat → Int32) (fs2_25 : Nat → Int32) (hs : okS fs) (hp0 : 0 ≤ pts) (hp6 : pts ≤ 6) (w_2 : r_1 = bIn d (1 : Int32) (2000 : Int32)) (c_4 : ¬ r_1 = 0) (w_6 : r_5 = bIn t (0 : Int32) (1000 : Int32)) (c_8 : ¬ r_5 = 0) (w_10 : (r_9 = 0 ↔ (0 < pts ∧ (d ≤ fd (pts - 1).toNatClampNeg ∨ t < fh (pts - 1).toNatClampNeg)))) (c_12 : ¬ r_9 = 0) (c_13 : pts < 6) (h_19 : (pts < 6 → pts2_16 = pts + 1)) (h_20 : (pts < 6 → fd2_17 = upd fd pts.toNatClampNeg d)) (h_21 : (pts < 6 → fh2_18 = upd fh pts.toNatClampNeg t)) (w_23 : okS fs2_25) : okS fs2_25 := by
  first
  | (grind [bIn, bGo])
  | (first
     | exact hs
     | assumption)
set_option maxHeartbeats 1000000 in
theorem pf_X3_point_17 (pts : Int32) (fd : Nat → Int32) (fh : Nat → Int32) (fs : Nat → Int32) (d : Int32) (t : Int32) (r_1 : Int32) (r_5 : Int32) (r_9 : Int32) (hs : okS fs) (hp0 : 0 ≤ pts) (hp6 : pts ≤ 6) (w_2 : r_1 = bIn d (1 : Int32) (2000 : Int32)) (c_4 : ¬ r_1 = 0) (w_6 : r_5 = bIn t (0 : Int32) (1000 : Int32)) (c_8 : ¬ r_5 = 0) (w_10 : (r_9 = 0 ↔ (0 < pts ∧ (d ≤ fd (pts - 1).toNatClampNeg ∨ t < fh (pts - 1).toNatClampNeg)))) (c_12 : ¬ r_9 = 0) (c_13 : ¬ pts < 6) : (bGo fd fh pts d t → (-4 : Int32) = -2 ∧ pts = pts ∧ fd = fd ∧ fh = fh) := by
  grind [bIn, bGo]
set_option maxHeartbeats 1000000 in
theorem pf_X3_point_18 (pts : Int32) (fd : Nat → Int32) (fh : Nat → Int32) (fs : Nat → Int32) (d : Int32) (t : Int32) (r_1 : Int32) (r_5 : Int32) (r_9 : Int32) (hs : okS fs) (hp0 : 0 ≤ pts) (hp6 : pts ≤ 6) (w_2 : r_1 = bIn d (1 : Int32) (2000 : Int32)) (c_4 : ¬ r_1 = 0) (w_6 : r_5 = bIn t (0 : Int32) (1000 : Int32)) (c_8 : ¬ r_5 = 0) (w_10 : (r_9 = 0 ↔ (0 < pts ∧ (d ≤ fd (pts - 1).toNatClampNeg ∨ t < fh (pts - 1).toNatClampNeg)))) (c_12 : ¬ r_9 = 0) (c_13 : ¬ pts < 6) : (¬ bGo fd fh pts d t → pts = 6 → (-4 : Int32) = -4 ∧ pts = pts ∧ fd = fd ∧ fh = fh) := by
  grind [bIn, bGo]
set_option maxHeartbeats 1000000 in
theorem pf_X3_point_19 (pts : Int32) (fd : Nat → Int32) (fh : Nat → Int32) (fs : Nat → Int32) (d : Int32) (t : Int32) (r_1 : Int32) (r_5 : Int32) (r_9 : Int32) (hs : okS fs) (hp0 : 0 ≤ pts) (hp6 : pts ≤ 6) (w_2 : r_1 = bIn d (1 : Int32) (2000 : Int32)) (c_4 : ¬ r_1 = 0) (w_6 : r_5 = bIn t (0 : Int32) (1000 : Int32)) (c_8 : ¬ r_5 = 0) (w_10 : (r_9 = 0 ↔ (0 < pts ∧ (d ≤ fd (pts - 1).toNatClampNeg ∨ t < fh (pts - 1).toNatClampNeg)))) (c_12 : ¬ r_9 = 0) (c_13 : ¬ pts < 6) : (¬ bGo fd fh pts d t → pts < 6 → (-4 : Int32) = pts + 1 ∧ pts = pts + 1 ∧ fd = upd fd pts.toNatClampNeg d ∧ fh = upd fh pts.toNatClampNeg t) := by
  grind [bIn, bGo]
set_option maxHeartbeats 1000000 in
theorem pf_X3_point_20 (pts : Int32) (fd : Nat → Int32) (fh : Nat → Int32) (fs : Nat → Int32) (d : Int32) (t : Int32) (r_1 : Int32) (r_5 : Int32) (r_9 : Int32) (hs : okS fs) (hp0 : 0 ≤ pts) (hp6 : pts ≤ 6) (w_2 : r_1 = bIn d (1 : Int32) (2000 : Int32)) (c_4 : ¬ r_1 = 0) (w_6 : r_5 = bIn t (0 : Int32) (1000 : Int32)) (c_8 : ¬ r_5 = 0) (w_10 : (r_9 = 0 ↔ (0 < pts ∧ (d ≤ fd (pts - 1).toNatClampNeg ∨ t < fh (pts - 1).toNatClampNeg)))) (c_12 : ¬ r_9 = 0) (c_13 : ¬ pts < 6) : okS fs := by
  first
  | (grind [bIn, bGo])
  | (first
     | exact hs
     | assumption)
set_option maxHeartbeats 1000000 in
theorem pf_X3_point_21 (pts : Int32) (fd : Nat → Int32) (fh : Nat → Int32) (fs : Nat → Int32) (d : Int32) (t : Int32) (r_1 : Int32) (r_5 : Int32) (r_9 : Int32) (hs : okS fs) (hp0 : 0 ≤ pts) (hp6 : pts ≤ 6) (w_2 : r_1 = bIn d (1 : Int32) (2000 : Int32)) (c_4 : ¬ r_1 = 0) (w_6 : r_5 = bIn t (0 : Int32) (1000 : Int32)) (c_8 : ¬ r_5 = 0) (w_10 : (r_9 = 0 ↔ (0 < pts ∧ (d ≤ fd (pts - 1).toNatClampNeg ∨ t < fh (pts - 1).toNatClampNeg)))) (c_12 : r_9 = 0) : (bGo fd fh pts d t → (-2 : Int32) = -2 ∧ pts = pts ∧ fd = fd ∧ fh = fh) := by
  grind [bIn, bGo]
set_option maxHeartbeats 1000000 in
theorem pf_X3_point_22 (pts : Int32) (fd : Nat → Int32) (fh : Nat → Int32) (fs : Nat → Int32) (d : Int32) (t : Int32) (r_1 : Int32) (r_5 : Int32) (r_9 : Int32) (hs : okS fs) (hp0 : 0 ≤ pts) (hp6 : pts ≤ 6) (w_2 : r_1 = bIn d (1 : Int32) (2000 : Int32)) (c_4 : ¬ r_1 = 0) (w_6 : r_5 = bIn t (0 : Int32) (1000 : Int32)) (c_8 : ¬ r_5 = 0) (w_10 : (r_9 = 0 ↔ (0 < pts ∧ (d ≤ fd (pts - 1).toNatClampNeg ∨ t < fh (pts - 1).toNatClampNeg)))) (c_12 : r_9 = 0) : (¬ bGo fd fh pts d t → pts = 6 → (-2 : Int32) = -4 ∧ pts = pts ∧ fd = fd ∧ fh = fh) := by
  grind [bIn, bGo]
set_option maxHeartbeats 1000000 in
theorem pf_X3_point_23 (pts : Int32) (fd : Nat → Int32) (fh : Nat → Int32) (fs : Nat → Int32) (d : Int32) (t : Int32) (r_1 : Int32) (r_5 : Int32) (r_9 : Int32) (hs : okS fs) (hp0 : 0 ≤ pts) (hp6 : pts ≤ 6) (w_2 : r_1 = bIn d (1 : Int32) (2000 : Int32)) (c_4 : ¬ r_1 = 0) (w_6 : r_5 = bIn t (0 : Int32) (1000 : Int32)) (c_8 : ¬ r_5 = 0) (w_10 : (r_9 = 0 ↔ (0 < pts ∧ (d ≤ fd (pts - 1).toNatClampNeg ∨ t < fh (pts - 1).toNatClampNeg)))) (c_12 : r_9 = 0) : (¬ bGo fd fh pts d t → pts < 6 → (-2 : Int32) = pts + 1 ∧ pts = pts + 1 ∧ fd = upd fd pts.toNatClampNeg d ∧ fh = upd fh pts.toNatClampNeg t) := by
  grind [bIn, bGo]
set_option maxHeartbeats 1000000 in
theorem pf_X3_point_24 (pts : Int32) (fd : Nat → Int32) (fh : Nat → Int32) (fs : Nat → Int32) (d : Int32) (t : Int32) (r_1 : Int32) (r_5 : Int32) (r_9 : Int32) (hs : okS fs) (hp0 : 0 ≤ pts) (hp6 : pts ≤ 6) (w_2 : r_1 = bIn d (1 : Int32) (2000 : Int32)) (c_4 : ¬ r_1 = 0) (w_6 : r_5 = bIn t (0 : Int32) (1000 : Int32)) (c_8 : ¬ r_5 = 0) (w_10 : (r_9 = 0 ↔ (0 < pts ∧ (d ≤ fd (pts - 1).toNatClampNeg ∨ t < fh (pts - 1).toNatClampNeg)))) (c_12 : r_9 = 0) : okS fs := by
  first
  | (grind [bIn, bGo])
  | (first
     | exact hs
     | assumption)
set_option maxHeartbeats 4000000 in
set_option maxRecDepth 100000 in
theorem c_X3_point (l : Launch) (D : va_G) (cI cQ : ClassId) (sz : Nat) (x : Nat) (cu : Nat) (a0 : Nat) (a1 : Nat) (a2 : Nat) (a3 : Nat) (a4 : Nat) (a5 : Nat) (pi : Nat) (sq : Nat) (fo : Nat) (bo : Nat) (gl : Int32) (td : Int32) (le : Int32) (bw : Int32) (pts : Int32) (fw : Nat → Int32) (fl : Nat → Int32) (fd : Nat → Int32) (fh : Nat → Int32) (fg : Nat → Int32) (fs : Nat → Int32) (d : Int32) (t : Int32) (hs : okS fs) (hp0 : 0 ≤ pts) (hp6 : pts ≤ 6) : CtI l yX3_point wsX3_point 3 70 0 0 [.ref x, .int d, .int t] D [(cI, .int), (cQ, .array .int)] [(x, .inr (3, [.ref cu, .ref pi, .ref sq, .ref fo, .ref bo, .int gl, .int td, .int le])), (cu, .inr (0, [.ref a0, .ref a1, .ref a2, .ref a3, .ref a4, .ref a5, .int bw, .int pts])), (a0, .inl (cI, 40, .inl fw)), (a1, .inl (cI, 2, .inl fl)), (a2, .inl (cI, 6, .inl fd)), (a3, .inl (cI, 6, .inl fh)), (a4, .inl (cI, 40, .inl fg)), (a5, .inl (cI, 40, .inl fs))] sz (fun (r : Int32) (u : Int32 × (Nat → Int32) × (Nat → Int32) × (Nat → Int32) × (Nat → Int32)) => (bGo fd fh pts d t → r = -2 ∧ u.1 = pts ∧ u.2.1 = fd ∧ u.2.2.1 = fh) ∧ (¬ bGo fd fh pts d t → pts = 6 → r = -4 ∧ u.1 = pts ∧ u.2.1 = fd ∧ u.2.2.1 = fh) ∧ (¬ bGo fd fh pts d t → pts < 6 → r = pts + 1 ∧ u.1 = pts + 1 ∧ u.2.1 = upd fd pts.toNatClampNeg d ∧ u.2.2.1 = upd fh pts.toNatClampNeg t) ∧ okS u.2.2.2.2) (fun (u : Int32 × (Nat → Int32) × (Nat → Int32) × (Nat → Int32) × (Nat → Int32)) => [(x, .inr (3, [.ref cu, .ref pi, .ref sq, .ref fo, .ref bo, .int gl, .int td, .int le])), (cu, .inr (0, [.ref a0, .ref a1, .ref a2, .ref a3, .ref a4, .ref a5, .int bw, .int u.1])), (a0, .inl (cI, 40, .inl fw)), (a1, .inl (cI, 2, .inl fl)), (a2, .inl (cI, 6, .inl u.2.1)), (a3, .inl (cI, 6, .inl u.2.2.1)), (a4, .inl (cI, 40, .inl u.2.2.2.1)), (a5, .inl (cI, 40, .inl u.2.2.2.2))]) := by
  refine Met.ofW (cc := cX3_point) (maxL := 3) (ret := (some .int)) (by decide) rfl ?_
  intro p e s m args below meth c s₁ B hml hv
  obtain ⟨rfl, hsz, hP, hK, hD0, hN⟩ := hv
  have hx := B.exec
  have hb := B.bytes
  have hr := B.returns
  have hts := atoms_spec (ws := wsX3_point) B.pre
  have hown : s.vm.findClass RX3 = some m.cls := findClass_of_methodNamed B.named
  have hlocks := B.notSynchronized
  subst hsz
  have hD := hD0.self (sz := s.heap.size)
  generalize hAe : va_A [(x, .inr (3, [.ref cu, .ref pi, .ref sq, .ref fo, .ref bo, .int gl, .int td, .int le])), (cu, .inr (0, [.ref a0, .ref a1, .ref a2, .ref a3, .ref a4, .ref a5, .int bw, .int pts])), (a0, .inl (cI, 40, .inl fw)), (a1, .inl (cI, 2, .inl fl)), (a2, .inl (cI, 6, .inl fd)), (a3, .inl (cI, 6, .inl fh)), (a4, .inl (cI, 40, .inl fg)), (a5, .inl (cI, 40, .inl fs))] s.heap.size = A at hD ⊢
  have hA : ∀ q : Nat, s.heap.size ≤ q → A q := fun q h => by rw [← hAe]; exact Or.inr h
  have hS : va_S A s.heap s.heap [] := va_S.rf
  have hl := lv_entry ([.ref x, .int d, .int t]) (n := 3) (Nat.le_of_ble_eq_true rfl)
  rw [lg_entry_eq]
  generalize (lg_sl ([.ref x, .int d, .int t]) ++ List.replicate (3 - (lg_sl ([.ref x, .int d, .int t])).length) Slot.unset).toArray = ls at hl ⊢
  have hl : lv_has ls 3 [(0, .ref x), (1, .int d), (2, .int t)] := hl
  have hP0 := hP
  refine lv_iload_n hx hb dX3_point_0 rfl (lv_at hl 1 rfl) ?_
  refine lv_iconst (v := 1) hx hb dX3_point_1 (by decide) ?_
  refine lv_sipush (v := 2000) hx hb dX3_point_2 (by decide) ?_
  refine cc_i (wc := []) (wr := [(x, .inr (3, [.ref cu, .ref pi, .ref sq, .ref fo, .ref bo, .int gl, .int td, .int le])), (cu, .inr (0, [.ref a0, .ref a1, .ref a2, .ref a3, .ref a4, .ref a5, .int bw, .int pts])), (a0, .inl (cI, 40, .inl fw)), (a1, .inl (cI, 2, .inl fl)), (a2, .inl (cI, 6, .inl fd)), (a3, .inl (cI, 6, .inl fh)), (a4, .inl (cI, 40, .inl fg)), (a5, .inl (cI, 40, .inl fs))]) (va_runS (As := [.int d, .int 1, .int 2000]) (rest := []) ⟨hx, hb, hml, hown, hts⟩ (c_X3_isIn l D cI cQ s.heap.size d 1 2000 ) (va_cwS 3 hts gX3_point_X3_isIn rfl rfl rfl (by decide +kernel) ⟨Nat.le_of_ble_eq_true rfl, Nat.le_of_ble_eq_true rfl⟩) (preS (wc := []) hK hP hD hN [] rfl (by decide)) rfl rfl hl.1 rfl (lv_room (Nat.le_of_ble_eq_true rfl)) dX3_point_5 ⟨Nat.le_of_ble_eq_true rfl, Nat.le_of_ble_eq_true rfl⟩) hP hD hS hA [] [0, 1, 2, 3, 4, 5, 6, 7] rfl rfl (by decide) (by decide) (fun r_1 u H locs w_2 hP hD hS => ?_)
  have hP : va_P D vwCl [(x, .inr (3, [.ref cu, .ref pi, .ref sq, .ref fo, .ref bo, .int gl, .int td, .int le])), (cu, .inr (0, [.ref a0, .ref a1, .ref a2, .ref a3, .ref a4, .ref a5, .int bw, .int pts])), (a0, .inl (cI, 40, .inl fw)), (a1, .inl (cI, 2, .inl fl)), (a2, .inl (cI, 6, .inl fd)), (a3, .inl (cI, 6, .inl fh)), (a4, .inl (cI, 40, .inl fg)), (a5, .inl (cI, 40, .inl fs))] H := hP
  have hD : va_D A [(x, .inr (3, [.ref cu, .ref pi, .ref sq, .ref fo, .ref bo, .int gl, .int td, .int le])), (cu, .inr (0, [.ref a0, .ref a1, .ref a2, .ref a3, .ref a4, .ref a5, .int bw, .int pts])), (a0, .inl (cI, 40, .inl fw)), (a1, .inl (cI, 2, .inl fl)), (a2, .inl (cI, 6, .inl fd)), (a3, .inl (cI, 6, .inl fh)), (a4, .inl (cI, 40, .inl fg)), (a5, .inl (cI, 40, .inl fs))] := hD
  have w_2 : r_1 = bIn d (1 : Int32) (2000 : Int32) := w_2
  refine lv_if_eq (tgt := 34) hx hb dX3_point_8 (by decide) (fun c_4 => ?_) (fun c_4 => ?_)
  · refine lv_bipush (v := (-2)) hx hb dX3_point_34 (by decide) ?_
    refine W.widen (k := 0) (n := 0) (Nat.le_of_ble_eq_true rfl) (Nat.le_of_ble_eq_true rfl) ?_
    exact fi_i (pts, fd, fh, fg, fs) hx hb hr hlocks hK (hP.sub [0, 1, 2, 3, 4, 5, 6, 7] rfl) (hD.sub [0, 1, 2, 3, 4, 5, 6, 7] (by decide) rfl) hS ⟨(pf_X3_point_1 pts fd fh fs d t r_1 hs hp0 hp6 w_2 c_4), (pf_X3_point_2 pts fd fh fs d t r_1 hs hp0 hp6 w_2 c_4), (pf_X3_point_3 pts fd fh fs d t r_1 hs hp0 hp6 w_2 c_4), (pf_X3_point_4 pts fs d r_1 hs hp0 hp6 w_2 c_4)⟩ dX3_point_36
  · refine lv_iload_n hx hb dX3_point_11 rfl (lv_at hl 2 rfl) ?_
    refine lv_iconst (v := 0) hx hb dX3_point_12 (by decide) ?_
    refine lv_sipush (v := 1000) hx hb dX3_point_13 (by decide) ?_
    refine cc_i (wc := []) (wr := [(x, .inr (3, [.ref cu, .ref pi, .ref sq, .ref fo, .ref bo, .int gl, .int td, .int le])), (cu, .inr (0, [.ref a0, .ref a1, .ref a2, .ref a3, .ref a4, .ref a5, .int bw, .int pts])), (a0, .inl (cI, 40, .inl fw)), (a1, .inl (cI, 2, .inl fl)), (a2, .inl (cI, 6, .inl fd)), (a3, .inl (cI, 6, .inl fh)), (a4, .inl (cI, 40, .inl fg)), (a5, .inl (cI, 40, .inl fs))]) (va_runS (As := [.int t, .int 0, .int 1000]) (rest := []) ⟨hx, hb, hml, hown, hts⟩ (c_X3_isIn l D cI cQ H.size t 0 1000 ) (va_cwS 3 hts gX3_point_X3_isIn rfl rfl rfl (by decide +kernel) ⟨Nat.le_of_ble_eq_true rfl, Nat.le_of_ble_eq_true rfl⟩) (preS (wc := []) hK hP hD hN [] rfl (by decide)) rfl rfl hl.1 rfl (lv_room (Nat.le_of_ble_eq_true rfl)) dX3_point_16 ⟨Nat.le_of_ble_eq_true rfl, Nat.le_of_ble_eq_true rfl⟩) hP hD hS hA [] [0, 1, 2, 3, 4, 5, 6, 7] rfl rfl (by decide) (by decide) (fun r_5 u H locs w_6 hP hD hS => ?_)
    have hP : va_P D vwCl [(x, .inr (3, [.ref cu, .ref pi, .ref sq, .ref fo, .ref bo, .int gl, .int td, .int le])), (cu, .inr (0, [.ref a0, .ref a1, .ref a2, .ref a3, .ref a4, .ref a5, .int bw, .int pts])), (a0, .inl (cI, 40, .inl fw)), (a1, .inl (cI, 2, .inl fl)), (a2, .inl (cI, 6, .inl fd)), (a3, .inl (cI, 6, .inl fh)), (a4, .inl (cI, 40, .inl fg)), (a5, .inl (cI, 40, .inl fs))] H := hP
    have hD : va_D A [(x, .inr (3, [.ref cu, .ref pi, .ref sq, .ref fo, .ref bo, .int gl, .int td, .int le])), (cu, .inr (0, [.ref a0, .ref a1, .ref a2, .ref a3, .ref a4, .ref a5, .int bw, .int pts])), (a0, .inl (cI, 40, .inl fw)), (a1, .inl (cI, 2, .inl fl)), (a2, .inl (cI, 6, .inl fd)), (a3, .inl (cI, 6, .inl fh)), (a4, .inl (cI, 40, .inl fg)), (a5, .inl (cI, 40, .inl fs))] := hD
    have w_6 : r_5 = bIn t (0 : Int32) (1000 : Int32) := w_6
    refine lv_if_eq (tgt := 34) hx hb dX3_point_19 (by decide) (fun c_8 => ?_) (fun c_8 => ?_)
    · refine lv_bipush (v := (-2)) hx hb dX3_point_34 (by decide) ?_
      refine W.widen (k := 0) (n := 0) (Nat.le_of_ble_eq_true rfl) (Nat.le_of_ble_eq_true rfl) ?_
      exact fi_i (pts, fd, fh, fg, fs) hx hb hr hlocks hK (hP.sub [0, 1, 2, 3, 4, 5, 6, 7] rfl) (hD.sub [0, 1, 2, 3, 4, 5, 6, 7] (by decide) rfl) hS ⟨(pf_X3_point_5 pts fd fh fs d t r_1 r_5 hs hp0 hp6 w_2 c_4 w_6 c_8), (pf_X3_point_6 pts fd fh fs d t r_1 r_5 hs hp0 hp6 w_2 c_4 w_6 c_8), (pf_X3_point_7 pts fd fh fs d t r_1 r_5 hs hp0 hp6 w_2 c_4 w_6 c_8), (pf_X3_point_8 pts fs d t r_1 r_5 hs hp0 hp6 w_2 c_4 w_6 c_8)⟩ dX3_point_36
    · refine lv_aload_n hx hb dX3_point_22 rfl (lv_at hl 0 rfl) ?_
      refine va_get (D := D) (ci := 3) (v := .ref cu) (C := RX3) (T := TX3) (N := 8) hx hb hts iw_X3_point_3 hown hK hP 0 rfl rfl 0 (by decide) (hts _ wd_X3_point_1) (fun _ h9 => h9) rfl dX3_point_23 ?_
      refine lv_iload_n hx hb dX3_point_26 rfl (lv_at hl 1 rfl) ?_
      refine lv_iload_n hx hb dX3_point_27 rfl (lv_at hl 2 rfl) ?_
      refine cc_i (wc := [(cu, .inr (0, [.ref a0, .ref a1, .ref a2, .ref a3, .ref a4, .ref a5, .int bw, .int pts])), (a2, .inl (cI, 6, .inl fd)), (a3, .inl (cI, 6, .inl fh))]) (wr := [(x, .inr (3, [.ref cu, .ref pi, .ref sq, .ref fo, .ref bo, .int gl, .int td, .int le])), (a0, .inl (cI, 40, .inl fw)), (a1, .inl (cI, 2, .inl fl)), (a4, .inl (cI, 40, .inl fg)), (a5, .inl (cI, 40, .inl fs))]) (va_runVN (As := [.int d, .int t]) (rest := []) ⟨hx, hb, hml, hown, hts⟩ (c_X0_goesOnWith l D cI cQ H.size cu a2 a3 a0 a1 a4 a5 bw pts fd fh d t (pf_X3_point_9 pts fs d t r_1 r_5 hs hp0 hp6 w_2 c_4 w_6 c_8) (pf_X3_point_10 pts fs d t r_1 r_5 hs hp0 hp6 w_2 c_4 w_6 c_8)) ⟨va_cnB 2 hts gX3_point_X0_goesOnWith_n95 rfl rfl rfl (nwM_95 hN) (hts _ wd_X3_point_7) (by decide +kernel) ⟨Nat.le_of_ble_eq_true rfl, Nat.le_of_ble_eq_true rfl⟩, (hts _ wd_X3_point_6), (hts _ wd_X3_point_8)⟩ (preV (wc := [(cu, .inr (0, [.ref a0, .ref a1, .ref a2, .ref a3, .ref a4, .ref a5, .int bw, .int pts])), (a2, .inl (cI, 6, .inl fd)), (a3, .inl (cI, 6, .inl fh))]) (ci := 0) (q0 := 1) hK hP hD hN [1, 4, 5] rfl (by decide) rfl rfl) rfl rfl hl.1 rfl (lv_room (Nat.le_of_ble_eq_true rfl)) dX3_point_28 ⟨Nat.le_of_ble_eq_true rfl, Nat.le_of_ble_eq_true rfl⟩) hP hD hS hA [1, 4, 5] [0, 2, 3, 6, 7] rfl rfl (by decide) (by decide) (fun r_9 u H locs w_10 hP hD hS => ?_)
      have hP : va_P D vwCl [(x, .inr (3, [.ref cu, .ref pi, .ref sq, .ref fo, .ref bo, .int gl, .int td, .int le])), (a0, .inl (cI, 40, .inl fw)), (a1, .inl (cI, 2, .inl fl)), (a4, .inl (cI, 40, .inl fg)), (a5, .inl (cI, 40, .inl fs)), (cu, .inr (0, [.ref a0, .ref a1, .ref a2, .ref a3, .ref a4, .ref a5, .int bw, .int pts])), (a2, .inl (cI, 6, .inl fd)), (a3, .inl (cI, 6, .inl fh))] H := hP
      have hD : va_D A [(x, .inr (3, [.ref cu, .ref pi, .ref sq, .ref fo, .ref bo, .int gl, .int td, .int le])), (a0, .inl (cI, 40, .inl fw)), (a1, .inl (cI, 2, .inl fl)), (a4, .inl (cI, 40, .inl fg)), (a5, .inl (cI, 40, .inl fs)), (cu, .inr (0, [.ref a0, .ref a1, .ref a2, .ref a3, .ref a4, .ref a5, .int bw, .int pts])), (a2, .inl (cI, 6, .inl fd)), (a3, .inl (cI, 6, .inl fh))] := hD
      have w_10 : (r_9 = 0 ↔ (0 < pts ∧ (d ≤ fd (pts - 1).toNatClampNeg ∨ t < fh (pts - 1).toNatClampNeg))) := w_10
      refine lv_if_ne (tgt := 37) hx hb dX3_point_31 (by decide) (fun c_12 => ?_) (fun c_12 => ?_)
      · refine lv_aload_n hx hb dX3_point_37 rfl (lv_at hl 0 rfl) ?_
        refine va_get (D := D) (ci := 3) (v := .ref cu) (C := RX3) (T := TX3) (N := 8) hx hb hts iw_X3_point_3 hown hK hP 0 rfl rfl 0 (by decide) (hts _ wd_X3_point_1) (fun _ h9 => h9) rfl dX3_point_38 ?_
        refine va_getN (D := D) (ci := 0) (v := .int pts) (C := RX0) (T := TX0) (N := 8) hx hb hts iw_X3_point_0 hown hK hP 5 rfl rfl 7 (by decide) (va_Nw.use rfl (nwF_98 hN)) (fun _ h9 => h9) rfl dX3_point_41 ?_
        refine lv_bipush (v := 6) hx hb dX3_point_44 (by decide) ?_
        refine lv_icmp_lt (tgt := 52) hx hb dX3_point_46 (by decide) (fun c_13 => ?_) (fun c_13 => ?_)
        · refine lv_aload_n hx hb dX3_point_52 rfl (lv_at hl 0 rfl) ?_
          refine va_get (D := D) (ci := 3) (v := .ref cu) (C := RX3) (T := TX3) (N := 8) hx hb hts iw_X3_point_3 hown hK hP 0 rfl rfl 0 (by decide) (hts _ wd_X3_point_1) (fun _ h9 => h9) rfl dX3_point_53 ?_
          refine lv_iload_n hx hb dX3_point_56 rfl (lv_at hl 1 rfl) ?_
          refine lv_iload_n hx hb dX3_point_57 rfl (lv_at hl 2 rfl) ?_
          refine cc_v (wc := [(cu, .inr (0, [.ref a0, .ref a1, .ref a2, .ref a3, .ref a4, .ref a5, .int bw, .int pts])), (a2, .inl (cI, 6, .inl fd)), (a3, .inl (cI, 6, .inl fh))]) (wr := [(x, .inr (3, [.ref cu, .ref pi, .ref sq, .ref fo, .ref bo, .int gl, .int td, .int le])), (a0, .inl (cI, 40, .inl fw)), (a1, .inl (cI, 2, .inl fl)), (a4, .inl (cI, 40, .inl fg)), (a5, .inl (cI, 40, .inl fs))]) (va_runVN (As := [.int d, .int t]) (rest := []) ⟨hx, hb, hml, hown, hts⟩ (c_X0_addPoint l D cI cQ H.size cu a2 a3 a0 a1 a4 a5 bw pts fd fh d t (pf_X3_point_11 pts fd fh fs d t r_1 r_5 r_9 hs hp0 hp6 w_2 c_4 w_6 c_8 w_10 c_12 c_13)) ⟨va_cnB 2 hts gX3_point_X0_addPoint_n101 rfl rfl rfl (nwM_101 hN) (hts _ wd_X3_point_7) (by decide +kernel) ⟨Nat.le_of_ble_eq_true rfl, Nat.le_of_ble_eq_true rfl⟩, (hts _ wd_X3_point_13), (hts _ wd_X3_point_14)⟩ (preV (wc := [(cu, .inr (0, [.ref a0, .ref a1, .ref a2, .ref a3, .ref a4, .ref a5, .int bw, .int pts])), (a2, .inl (cI, 6, .inl fd)), (a3, .inl (cI, 6, .inl fh))]) (ci := 0) (q0 := 5) hK hP hD hN [5, 6, 7] rfl (by decide) rfl rfl) rfl rfl hl.1 rfl (lv_room (Nat.le_of_ble_eq_true rfl)) dX3_point_58 ⟨Nat.le_of_ble_eq_true rfl, Nat.le_of_ble_eq_true rfl⟩) hP hD hS hA [5, 6, 7] [0, 1, 2, 3, 4] rfl rfl (by decide) (by decide) (fun u H locs w_15 hP hD hS => ?_)
          obtain ⟨pts2_16, fd2_17, fh2_18⟩ := u
          have hP : va_P D vwCl [(x, .inr (3, [.ref cu, .ref pi, .ref sq, .ref fo, .ref bo, .int gl, .int td, .int le])), (a0, .inl (cI, 40, .inl fw)), (a1, .inl (cI, 2, .inl fl)), (a4, .inl (cI, 40, .inl fg)), (a5, .inl (cI, 40, .inl fs)), (cu, .inr (0, [.ref a0, .ref a1, .ref a2, .ref a3, .ref a4, .ref a5, .int bw, .int pts2_16])), (a2, .inl (cI, 6, .inl fd2_17)), (a3, .inl (cI, 6, .inl fh2_18))] H := hP
          have hD : va_D A [(x, .inr (3, [.ref cu, .ref pi, .ref sq, .ref fo, .ref bo, .int gl, .int td, .int le])), (a0, .inl (cI, 40, .inl fw)), (a1, .inl (cI, 2, .inl fl)), (a4, .inl (cI, 40, .inl fg)), (a5, .inl (cI, 40, .inl fs)), (cu, .inr (0, [.ref a0, .ref a1, .ref a2, .ref a3, .ref a4, .ref a5, .int bw, .int pts2_16])), (a2, .inl (cI, 6, .inl fd2_17)), (a3, .inl (cI, 6, .inl fh2_18))] := hD
          have w_15 : (pts < 6 → pts2_16 = pts + 1) ∧ (pts < 6 → fd2_17 = upd fd pts.toNatClampNeg d) ∧ (pts < 6 → fh2_18 = upd fh pts.toNatClampNeg t) := w_15
          obtain ⟨h_19, h_20, h_21⟩ := w_15
          refine lv_aload_n hx hb dX3_point_61 rfl (lv_at hl 0 rfl) ?_
          refine va_get (D := D) (ci := 3) (v := .ref cu) (C := RX3) (T := TX3) (N := 8) hx hb hts iw_X3_point_3 hown hK hP 0 rfl rfl 0 (by decide) (hts _ wd_X3_point_1) (fun _ h9 => h9) rfl dX3_point_62 ?_
          refine cc_v (wc := [(cu, .inr (0, [.ref a0, .ref a1, .ref a2, .ref a3, .ref a4, .ref a5, .int bw, .int pts2_16])), (a0, .inl (cI, 40, .inl fw)), (a1, .inl (cI, 2, .inl fl)), (a2, .inl (cI, 6, .inl fd2_17)), (a3, .inl (cI, 6, .inl fh2_18)), (a4, .inl (cI, 40, .inl fg)), (a5, .inl (cI, 40, .inl fs))]) (wr := [(x, .inr (3, [.ref cu, .ref pi, .ref sq, .ref fo, .ref bo, .int gl, .int td, .int le]))]) (va_runVN (As := []) (rest := []) ⟨hx, hb, hml, hown, hts⟩ (c_X0_renew l D cI cQ H.size cu a0 a1 a2 a3 a4 a5 bw pts2_16 fw fl fd2_17 fh2_18 fg fs (pf_X3_point_12 pts fd fh fs d t r_1 r_5 r_9 pts2_16 fd2_17 fh2_18 hs hp0 hp6 w_2 c_4 w_6 c_8 w_10 c_12 c_13 h_19 h_20 h_21)) ⟨va_cnB 0 hts gX3_point_X0_renew_n79 rfl rfl rfl (nwM_79 hN) (hts _ wd_X3_point_7) (by decide +kernel) ⟨Nat.le_of_ble_eq_true rfl, Nat.le_of_ble_eq_true rfl⟩, (hts _ wd_X3_point_16), (hts _ wd_X3_point_17)⟩ (preV (wc := [(cu, .inr (0, [.ref a0, .ref a1, .ref a2, .ref a3, .ref a4, .ref a5, .int bw, .int pts2_16])), (a0, .inl (cI, 40, .inl fw)), (a1, .inl (cI, 2, .inl fl)), (a2, .inl (cI, 6, .inl fd2_17)), (a3, .inl (cI, 6, .inl fh2_18)), (a4, .inl (cI, 40, .inl fg)), (a5, .inl (cI, 40, .inl fs))]) (ci := 0) (q0 := 5) hK hP hD hN [5, 1, 2, 6, 7, 3, 4] rfl (by decide) rfl rfl) rfl rfl hl.1 rfl (lv_room (Nat.le_of_ble_eq_true rfl)) dX3_point_65 ⟨Nat.le_of_ble_eq_true rfl, Nat.le_of_ble_eq_true rfl⟩) hP hD hS hA [5, 1, 2, 6, 7, 3, 4] [0] rfl rfl (by decide) (by decide) (fun u H locs w_23 hP hD hS => ?_)
          obtain ⟨fg2_24, fs2_25⟩ := u
          have hP : va_P D vwCl [(x, .inr (3, [.ref cu, .ref pi, .ref sq, .ref fo, .ref bo, .int gl, .int td, .int le])), (cu, .inr (0, [.ref a0, .ref a1, .ref a2, .ref a3, .ref a4, .ref a5, .int bw, .int pts2_16])), (a0, .inl (cI, 40, .inl fw)), (a1, .inl (cI, 2, .inl fl)), (a2, .inl (cI, 6, .inl fd2_17)), (a3, .inl (cI, 6, .inl fh2_18)), (a4, .inl (cI, 40, .inl fg2_24)), (a5, .inl (cI, 40, .inl fs2_25))] H := hP
          have hD : va_D A [(x, .inr (3, [.ref cu, .ref pi, .ref sq, .ref fo, .ref bo, .int gl, .int td, .int le])), (cu, .inr (0, [.ref a0, .ref a1, .ref a2, .ref a3, .ref a4, .ref a5, .int bw, .int pts2_16])), (a0, .inl (cI, 40, .inl fw)), (a1, .inl (cI, 2, .inl fl)), (a2, .inl (cI, 6, .inl fd2_17)), (a3, .inl (cI, 6, .inl fh2_18)), (a4, .inl (cI, 40, .inl fg2_24)), (a5, .inl (cI, 40, .inl fs2_25))] := hD
          have w_23 : okS fs2_25 := w_23
          refine lv_aload_n hx hb dX3_point_68 rfl (lv_at hl 0 rfl) ?_
          refine va_get (D := D) (ci := 3) (v := .ref cu) (C := RX3) (T := TX3) (N := 8) hx hb hts iw_X3_point_3 hown hK hP 0 rfl rfl 0 (by decide) (hts _ wd_X3_point_1) (fun _ h9 => h9) rfl dX3_point_69 ?_
          refine va_getN (D := D) (ci := 0) (v := .int pts2_16) (C := RX0) (T := TX0) (N := 8) hx hb hts iw_X3_point_0 hown hK hP 1 rfl rfl 7 (by decide) (va_Nw.use rfl (nwF_98 hN)) (fun _ h9 => h9) rfl dX3_point_72 ?_
          refine W.widen (k := 0) (n := 0) (Nat.le_of_ble_eq_true rfl) (Nat.le_of_ble_eq_true rfl) ?_
          exact fi_i (pts2_16, fd2_17, fh2_18, fg2_24, fs2_25) hx hb hr hlocks hK (hP.sub [0, 1, 2, 3, 4, 5, 6, 7] rfl) (hD.sub [0, 1, 2, 3, 4, 5, 6, 7] (by decide) rfl) hS ⟨(pf_X3_point_13 pts fd fh fs d t r_1 r_5 r_9 pts2_16 fd2_17 fh2_18 fs2_25 hs hp0 hp6 w_2 c_4 w_6 c_8 w_10 c_12 c_13 h_19 h_20 h_21 w_23), (pf_X3_point_14 pts fd fh fs d t r_1 r_5 r_9 pts2_16 fd2_17 fh2_18 fs2_25 hs hp0 hp6 w_2 c_4 w_6 c_8 w_10 c_12 c_13 h_19 h_20 h_21 w_23), (pf_X3_point_15 pts fd fh fs d t r_1 r_5 r_9 pts2_16 fd2_17 fh2_18 fs2_25 hs hp0 hp6 w_2 c_4 w_6 c_8 w_10 c_12 c_13 h_19 h_20 h_21 w_23), (pf_X3_point_16 pts fd fh fs d t r_1 r_5 r_9 pts2_16 fd2_17 fh2_18 fs2_25 hs hp0 hp6 w_2 c_4 w_6 c_8 w_10 c_12 c_13 h_19 h_20 h_21 w_23)⟩ dX3_point_75
        · refine lv_bipush (v := (-4)) hx hb dX3_point_49 (by decide) ?_
          refine W.widen (k := 0) (n := 0) (Nat.le_of_ble_eq_true rfl) (Nat.le_of_ble_eq_true rfl) ?_
          exact fi_i (pts, fd, fh, fg, fs) hx hb hr hlocks hK (hP.sub [0, 5, 1, 2, 6, 7, 3, 4] rfl) (hD.sub [0, 5, 1, 2, 6, 7, 3, 4] (by decide) rfl) hS ⟨(pf_X3_point_17 pts fd fh fs d t r_1 r_5 r_9 hs hp0 hp6 w_2 c_4 w_6 c_8 w_10 c_12 c_13), (pf_X3_point_18 pts fd fh fs d t r_1 r_5 r_9 hs hp0 hp6 w_2 c_4 w_6 c_8 w_10 c_12 c_13), (pf_X3_point_19 pts fd fh fs d t r_1 r_5 r_9 hs hp0 hp6 w_2 c_4 w_6 c_8 w_10 c_12 c_13), (pf_X3_point_20 pts fd fh fs d t r_1 r_5 r_9 hs hp0 hp6 w_2 c_4 w_6 c_8 w_10 c_12 c_13)⟩ dX3_point_51
      · refine lv_bipush (v := (-2)) hx hb dX3_point_34 (by decide) ?_
        refine W.widen (k := 0) (n := 0) (Nat.le_of_ble_eq_true rfl) (Nat.le_of_ble_eq_true rfl) ?_
        exact fi_i (pts, fd, fh, fg, fs) hx hb hr hlocks hK (hP.sub [0, 5, 1, 2, 6, 7, 3, 4] rfl) (hD.sub [0, 5, 1, 2, 6, 7, 3, 4] (by decide) rfl) hS ⟨(pf_X3_point_21 pts fd fh fs d t r_1 r_5 r_9 hs hp0 hp6 w_2 c_4 w_6 c_8 w_10 c_12), (pf_X3_point_22 pts fd fh fs d t r_1 r_5 r_9 hs hp0 hp6 w_2 c_4 w_6 c_8 w_10 c_12), (pf_X3_point_23 pts fd fh fs d t r_1 r_5 r_9 hs hp0 hp6 w_2 c_4 w_6 c_8 w_10 c_12), (pf_X3_point_24 pts fd fh fs d t r_1 r_5 r_9 hs hp0 hp6 w_2 c_4 w_6 c_8 w_10 c_12)⟩ dX3_point_36

theorem iw_X3_unpoint_0 : ∀ w ∈ wsX00, w ∈ wsX3_unpoint := fun w h => (List.mem_cons_of_mem _ (List.mem_append_right _ h))
theorem iw_X3_unpoint_3 : ∀ w ∈ wsX30, w ∈ wsX3_unpoint := fun w h => (List.mem_cons_of_mem _ (List.mem_append_left _ (List.mem_append_right _ h)))
theorem wd_X3_unpoint_1 : (.fieldLink RX3 14 "PourPlan" "curing" "LPourPlan$Curing;" : Cond) ∈ wsX3_unpoint := List.mem_of_getElem? (i := 1) rfl
theorem wd_X3_unpoint_2 : (.instanceMethod yX0_renew : Cond) ∈ wsX3_unpoint := List.mem_of_getElem? (i := 2) rfl
theorem wd_X3_unpoint_3 : (.initialized RX0 : Cond) ∈ wsX3_unpoint := List.mem_of_getElem? (i := 3) rfl
theorem wd_X3_unpoint_4 : (.selects RX0 yX0_renew yX0_renew : Cond) ∈ wsX3_unpoint := List.mem_of_getElem? (i := 4) rfl
set_option maxHeartbeats 1000000 in
theorem pf_X3_unpoint_1 (fs : Nat → Int32) (hs : okS fs) : okS fs := by
  exact hs
set_option maxHeartbeats 1000000 in
theorem pf_X3_unpoint_2 (pts : Int32) (fs : Nat → Int32) (fs2_4 : Nat → Int32) (hs : okS fs) (w_2 : okS fs2_4) : pts = pts := by
  grind
set_option maxHeartbeats 1000000 in
theorem pf_X3_unpoint_3 (fs : Nat → Int32) (fs2_4 : Nat → Int32) (hs : okS fs) (w_2 : okS fs2_4) : okS fs2_4 := by
  first
  | (grind)
  | (assumption)
set_option maxHeartbeats 4000000 in
set_option maxRecDepth 100000 in
theorem c_X3_unpoint (l : Launch) (D : va_G) (cI cQ : ClassId) (sz : Nat) (x : Nat) (cu : Nat) (a0 : Nat) (a1 : Nat) (a2 : Nat) (a3 : Nat) (a4 : Nat) (a5 : Nat) (pi : Nat) (sq : Nat) (fo : Nat) (bo : Nat) (gl : Int32) (td : Int32) (le : Int32) (bw : Int32) (pts : Int32) (fw : Nat → Int32) (fl : Nat → Int32) (fd : Nat → Int32) (fh : Nat → Int32) (fg : Nat → Int32) (fs : Nat → Int32) (hs : okS fs) : CtI l yX3_unpoint wsX3_unpoint 3 70 0 0 [.ref x] D [(cI, .int), (cQ, .array .int)] [(x, .inr (3, [.ref cu, .ref pi, .ref sq, .ref fo, .ref bo, .int gl, .int td, .int le])), (cu, .inr (0, [.ref a0, .ref a1, .ref a2, .ref a3, .ref a4, .ref a5, .int bw, .int pts])), (a0, .inl (cI, 40, .inl fw)), (a1, .inl (cI, 2, .inl fl)), (a2, .inl (cI, 6, .inl fd)), (a3, .inl (cI, 6, .inl fh)), (a4, .inl (cI, 40, .inl fg)), (a5, .inl (cI, 40, .inl fs))] sz (fun (r : Int32) (u : (Nat → Int32) × (Nat → Int32)) => r = pts ∧ okS u.2) (fun (u : (Nat → Int32) × (Nat → Int32)) => [(x, .inr (3, [.ref cu, .ref pi, .ref sq, .ref fo, .ref bo, .int gl, .int td, .int le])), (cu, .inr (0, [.ref a0, .ref a1, .ref a2, .ref a3, .ref a4, .ref a5, .int bw, .int 0])), (a0, .inl (cI, 40, .inl fw)), (a1, .inl (cI, 2, .inl fl)), (a2, .inl (cI, 6, .inl fd)), (a3, .inl (cI, 6, .inl fh)), (a4, .inl (cI, 40, .inl u.1)), (a5, .inl (cI, 40, .inl u.2))]) := by
  refine Met.ofW (cc := cX3_unpoint) (maxL := 2) (ret := (some .int)) (by decide) rfl ?_
  intro p e s m args below meth c s₁ B hml hv
  obtain ⟨rfl, hsz, hP, hK, hD0, hN⟩ := hv
  have hx := B.exec
  have hb := B.bytes
  have hr := B.returns
  have hts := atoms_spec (ws := wsX3_unpoint) B.pre
  have hown : s.vm.findClass RX3 = some m.cls := findClass_of_methodNamed B.named
  have hlocks := B.notSynchronized
  subst hsz
  have hD := hD0.self (sz := s.heap.size)
  generalize hAe : va_A [(x, .inr (3, [.ref cu, .ref pi, .ref sq, .ref fo, .ref bo, .int gl, .int td, .int le])), (cu, .inr (0, [.ref a0, .ref a1, .ref a2, .ref a3, .ref a4, .ref a5, .int bw, .int pts])), (a0, .inl (cI, 40, .inl fw)), (a1, .inl (cI, 2, .inl fl)), (a2, .inl (cI, 6, .inl fd)), (a3, .inl (cI, 6, .inl fh)), (a4, .inl (cI, 40, .inl fg)), (a5, .inl (cI, 40, .inl fs))] s.heap.size = A at hD ⊢
  have hA : ∀ q : Nat, s.heap.size ≤ q → A q := fun q h => by rw [← hAe]; exact Or.inr h
  have hS : va_S A s.heap s.heap [] := va_S.rf
  have hl := lv_entry ([.ref x]) (n := 2) (Nat.le_of_ble_eq_true rfl)
  rw [lg_entry_eq]
  generalize (lg_sl ([.ref x]) ++ List.replicate (2 - (lg_sl ([.ref x])).length) Slot.unset).toArray = ls at hl ⊢
  have hl : lv_has ls 2 [(0, .ref x)] := hl
  have hP0 := hP
  refine lv_aload_n hx hb dX3_unpoint_0 rfl (lv_at hl 0 rfl) ?_
  refine va_get (D := D) (ci := 3) (v := .ref cu) (C := RX3) (T := TX3) (N := 8) hx hb hts iw_X3_unpoint_3 hown hK hP 0 rfl rfl 0 (by decide) (hts _ wd_X3_unpoint_1) (fun _ h9 => h9) rfl dX3_unpoint_1 ?_
  refine va_getN (D := D) (ci := 0) (v := .int pts) (C := RX0) (T := TX0) (N := 8) hx hb hts iw_X3_unpoint_0 hown hK hP 1 rfl rfl 7 (by decide) (va_Nw.use rfl (nwF_98 hN)) (fun _ h9 => h9) rfl dX3_unpoint_4 ?_
  refine lv_istore_n (lv' := [(1, .int pts), (0, .ref x)]) hx hb dX3_unpoint_7 rfl hl (by decide) rfl (fun ls hl => ?_)
  refine lv_aload_n hx hb dX3_unpoint_8 rfl (lv_at hl 1 rfl) ?_
  refine va_get (D := D) (ci := 3) (v := .ref cu) (C := RX3) (T := TX3) (N := 8) hx hb hts iw_X3_unpoint_3 hown hK hP 0 rfl rfl 0 (by decide) (hts _ wd_X3_unpoint_1) (fun _ h9 => h9) rfl dX3_unpoint_9 ?_
  refine lv_iconst (v := 0) hx hb dX3_unpoint_12 (by decide) ?_
  refine va_putN (D := D) (ci := 0) (v := .int 0) (ty := .int) (C := RX0) (T := TX0) (N := 8) hx hb hts iw_X3_unpoint_0 tyX0 tyX0_ok nmX0 hown hK hP hD hS 1 rfl rfl 7 (by decide) (va_Nw.use rfl (nwF_98 hN)) (fun _ h9 => h9) rfl (by decide +kernel) rfl rfl (Nat.le_of_ble_eq_true rfl) dX3_unpoint_13 (fun H locs hP hD hS => ?_)
  have hP : va_P D vwCl [(x, .inr (3, [.ref cu, .ref pi, .ref sq, .ref fo, .ref bo, .int gl, .int td, .int le])), (cu, .inr (0, [.ref a0, .ref a1, .ref a2, .ref a3, .ref a4, .ref a5, .int bw, .int 0])), (a0, .inl (cI, 40, .inl fw)), (a1, .inl (cI, 2, .inl fl)), (a2, .inl (cI, 6, .inl fd)), (a3, .inl (cI, 6, .inl fh)), (a4, .inl (cI, 40, .inl fg)), (a5, .inl (cI, 40, .inl fs))] H := hP
  have hD : va_D A [(x, .inr (3, [.ref cu, .ref pi, .ref sq, .ref fo, .ref bo, .int gl, .int td, .int le])), (cu, .inr (0, [.ref a0, .ref a1, .ref a2, .ref a3, .ref a4, .ref a5, .int bw, .int 0])), (a0, .inl (cI, 40, .inl fw)), (a1, .inl (cI, 2, .inl fl)), (a2, .inl (cI, 6, .inl fd)), (a3, .inl (cI, 6, .inl fh)), (a4, .inl (cI, 40, .inl fg)), (a5, .inl (cI, 40, .inl fs))] := hD
  refine lv_aload_n hx hb dX3_unpoint_16 rfl (lv_at hl 1 rfl) ?_
  refine va_get (D := D) (ci := 3) (v := .ref cu) (C := RX3) (T := TX3) (N := 8) hx hb hts iw_X3_unpoint_3 hown hK hP 0 rfl rfl 0 (by decide) (hts _ wd_X3_unpoint_1) (fun _ h9 => h9) rfl dX3_unpoint_17 ?_
  refine cc_v (wc := [(cu, .inr (0, [.ref a0, .ref a1, .ref a2, .ref a3, .ref a4, .ref a5, .int bw, .int 0])), (a0, .inl (cI, 40, .inl fw)), (a1, .inl (cI, 2, .inl fl)), (a2, .inl (cI, 6, .inl fd)), (a3, .inl (cI, 6, .inl fh)), (a4, .inl (cI, 40, .inl fg)), (a5, .inl (cI, 40, .inl fs))]) (wr := [(x, .inr (3, [.ref cu, .ref pi, .ref sq, .ref fo, .ref bo, .int gl, .int td, .int le]))]) (va_runVN (As := []) (rest := []) ⟨hx, hb, hml, hown, hts⟩ (c_X0_renew l D cI cQ H.size cu a0 a1 a2 a3 a4 a5 bw 0 fw fl fd fh fg fs (pf_X3_unpoint_1 fs hs)) ⟨va_cnB 0 hts gX3_unpoint_X0_renew_n79 rfl rfl rfl (nwM_79 hN) (hts _ wd_X3_unpoint_3) (by decide +kernel) ⟨Nat.le_of_ble_eq_true rfl, Nat.le_of_ble_eq_true rfl⟩, (hts _ wd_X3_unpoint_2), (hts _ wd_X3_unpoint_4)⟩ (preV (wc := [(cu, .inr (0, [.ref a0, .ref a1, .ref a2, .ref a3, .ref a4, .ref a5, .int bw, .int 0])), (a0, .inl (cI, 40, .inl fw)), (a1, .inl (cI, 2, .inl fl)), (a2, .inl (cI, 6, .inl fd)), (a3, .inl (cI, 6, .inl fh)), (a4, .inl (cI, 40, .inl fg)), (a5, .inl (cI, 40, .inl fs))]) (ci := 0) (q0 := 1) hK hP hD hN [1, 2, 3, 4, 5, 6, 7] rfl (by decide) rfl rfl) rfl rfl hl.1 rfl (lv_room (Nat.le_of_ble_eq_true rfl)) dX3_unpoint_20 ⟨Nat.le_of_ble_eq_true rfl, Nat.le_of_ble_eq_true rfl⟩) hP hD hS hA [1, 2, 3, 4, 5, 6, 7] [0] rfl rfl (by decide) (by decide) (fun u H locs w_2 hP hD hS => ?_)
  obtain ⟨fg2_3, fs2_4⟩ := u
  have hP : va_P D vwCl [(x, .inr (3, [.ref cu, .ref pi, .ref sq, .ref fo, .ref bo, .int gl, .int td, .int le])), (cu, .inr (0, [.ref a0, .ref a1, .ref a2, .ref a3, .ref a4, .ref a5, .int bw, .int 0])), (a0, .inl (cI, 40, .inl fw)), (a1, .inl (cI, 2, .inl fl)), (a2, .inl (cI, 6, .inl fd)), (a3, .inl (cI, 6, .inl fh)), (a4, .inl (cI, 40, .inl fg2_3)), (a5, .inl (cI, 40, .inl fs2_4))] H := hP
  have hD : va_D A [(x, .inr (3, [.ref cu, .ref pi, .ref sq, .ref fo, .ref bo, .int gl, .int td, .int le])), (cu, .inr (0, [.ref a0, .ref a1, .ref a2, .ref a3, .ref a4, .ref a5, .int bw, .int 0])), (a0, .inl (cI, 40, .inl fw)), (a1, .inl (cI, 2, .inl fl)), (a2, .inl (cI, 6, .inl fd)), (a3, .inl (cI, 6, .inl fh)), (a4, .inl (cI, 40, .inl fg2_3)), (a5, .inl (cI, 40, .inl fs2_4))] := hD
  have w_2 : okS fs2_4 := w_2
  refine lv_iload_n hx hb dX3_unpoint_23 rfl (lv_at hl 0 rfl) ?_
  refine W.widen (k := 0) (n := 0) (Nat.le_of_ble_eq_true rfl) (Nat.le_of_ble_eq_true rfl) ?_
  exact fi_i (fg2_3, fs2_4) hx hb hr hlocks hK (hP.sub [0, 1, 2, 3, 4, 5, 6, 7] rfl) (hD.sub [0, 1, 2, 3, 4, 5, 6, 7] (by decide) rfl) hS ⟨(pf_X3_unpoint_2 pts fs fs2_4 hs w_2), (pf_X3_unpoint_3 fs fs2_4 hs w_2)⟩ dX3_unpoint_24

theorem iw_X3_table_3 : ∀ w ∈ wsX30, w ∈ wsX3_table := fun w h => (List.mem_cons_of_mem _ (List.mem_append_left _ (List.mem_append_right _ h)))
theorem wd_X3_table_1 : (.fieldLink RX3 14 "PourPlan" "curing" "LPourPlan$Curing;" : Cond) ∈ wsX3_table := List.mem_of_getElem? (i := 1) rfl
theorem wd_X3_table_2 : (.instanceMethod yX0_hardnessOf : Cond) ∈ wsX3_table := List.mem_of_getElem? (i := 2) rfl
theorem wd_X3_table_3 : (.initialized RX0 : Cond) ∈ wsX3_table := List.mem_of_getElem? (i := 3) rfl
theorem wd_X3_table_4 : (.selects RX0 yX0_hardnessOf yX0_hardnessOf : Cond) ∈ wsX3_table := List.mem_of_getElem? (i := 4) rfl
set_option maxHeartbeats 1000000 in
theorem pf_X3_table_1 (pts : Int32) (fd : Nat → Int32) (fh : Nat → Int32) (d : Int32) (r_2 : Int32) (c_1 : 0 ≤ d) (w_3 : r_2 = hof fd fh pts d 7 0 0 0) : r_2 = (if d < 0 then -2 else hof fd fh pts d 7 0 0 0) := by
  grind
set_option maxHeartbeats 1000000 in
theorem pf_X3_table_2 (pts : Int32) (fd : Nat → Int32) (fh : Nat → Int32) (d : Int32) (c_1 : ¬ 0 ≤ d) : (-2 : Int32) = (if d < 0 then -2 else hof fd fh pts d 7 0 0 0) := by
  grind
set_option maxHeartbeats 4000000 in
set_option maxRecDepth 100000 in
theorem c_X3_table (l : Launch) (D : va_G) (cI cQ : ClassId) (sz : Nat) (x : Nat) (cu : Nat) (a2 : Nat) (a3 : Nat) (pi : Nat) (sq : Nat) (fo : Nat) (bo : Nat) (gl : Int32) (td : Int32) (le : Int32) (a0 : Nat) (a1 : Nat) (a4 : Nat) (a5 : Nat) (bw : Int32) (pts : Int32) (fd : Nat → Int32) (fh : Nat → Int32) (d : Int32) : CtI l yX3_table wsX3_table 1 26 0 0 [.ref x, .int d] D [(cI, .int), (cQ, .array .int)] [(x, .inr (3, [.ref cu, .ref pi, .ref sq, .ref fo, .ref bo, .int gl, .int td, .int le])), (cu, .inr (0, [.ref a0, .ref a1, .ref a2, .ref a3, .ref a4, .ref a5, .int bw, .int pts])), (a2, .inl (cI, 6, .inl fd)), (a3, .inl (cI, 6, .inl fh))] sz (fun (r : Int32) (u : Unit) => r = (if d < 0 then -2 else hof fd fh pts d 7 0 0 0)) (fun (u : Unit) => [(x, .inr (3, [.ref cu, .ref pi, .ref sq, .ref fo, .ref bo, .int gl, .int td, .int le])), (cu, .inr (0, [.ref a0, .ref a1, .ref a2, .ref a3, .ref a4, .ref a5, .int bw, .int pts])), (a2, .inl (cI, 6, .inl fd)), (a3, .inl (cI, 6, .inl fh))]) := by
  refine Met.ofW (cc := cX3_table) (maxL := 2) (ret := (some .int)) (by decide) rfl ?_
  intro p e s m args below meth c s₁ B hml hv
  obtain ⟨rfl, hsz, hP, hK, hD0, hN⟩ := hv
  have hx := B.exec
  have hb := B.bytes
  have hr := B.returns
  have hts := atoms_spec (ws := wsX3_table) B.pre
  have hown : s.vm.findClass RX3 = some m.cls := findClass_of_methodNamed B.named
  have hlocks := B.notSynchronized
  subst hsz
  have hD := hD0.self (sz := s.heap.size)
  generalize hAe : va_A [(x, .inr (3, [.ref cu, .ref pi, .ref sq, .ref fo, .ref bo, .int gl, .int td, .int le])), (cu, .inr (0, [.ref a0, .ref a1, .ref a2, .ref a3, .ref a4, .ref a5, .int bw, .int pts])), (a2, .inl (cI, 6, .inl fd)), (a3, .inl (cI, 6, .inl fh))] s.heap.size = A at hD ⊢
  have hA : ∀ q : Nat, s.heap.size ≤ q → A q := fun q h => by rw [← hAe]; exact Or.inr h
  have hS : va_S A s.heap s.heap [] := va_S.rf
  have hl := lv_entry ([.ref x, .int d]) (n := 2) (Nat.le_of_ble_eq_true rfl)
  rw [lg_entry_eq]
  generalize (lg_sl ([.ref x, .int d]) ++ List.replicate (2 - (lg_sl ([.ref x, .int d])).length) Slot.unset).toArray = ls at hl ⊢
  have hl : lv_has ls 2 [(0, .ref x), (1, .int d)] := hl
  have hP0 := hP
  refine lv_iload_n hx hb dX3_table_0 rfl (lv_at hl 1 rfl) ?_
  refine lv_if_ge (tgt := 9) hx hb dX3_table_1 (by decide) (fun c_1 => ?_) (fun c_1 => ?_)
  · refine lv_aload_n hx hb dX3_table_9 rfl (lv_at hl 0 rfl) ?_
    refine va_get (D := D) (ci := 3) (v := .ref cu) (C := RX3) (T := TX3) (N := 8) hx hb hts iw_X3_table_3 hown hK hP 0 rfl rfl 0 (by decide) (hts _ wd_X3_table_1) (fun _ h9 => h9) rfl dX3_table_10 ?_
    refine lv_iload_n hx hb dX3_table_13 rfl (lv_at hl 1 rfl) ?_
    refine cc_i (wc := [(cu, .inr (0, [.ref a0, .ref a1, .ref a2, .ref a3, .ref a4, .ref a5, .int bw, .int pts])), (a2, .inl (cI, 6, .inl fd)), (a3, .inl (cI, 6, .inl fh))]) (wr := [(x, .inr (3, [.ref cu, .ref pi, .ref sq, .ref fo, .ref bo, .int gl, .int td, .int le]))]) (va_runVN (As := [.int d]) (rest := []) ⟨hx, hb, hml, hown, hts⟩ (c_X0_hardnessOf l D cI cQ s.heap.size cu a2 a3 a0 a1 a4 a5 bw pts fd fh d ) ⟨va_cnB 1 hts gX3_table_X0_hardnessOf_n105 rfl rfl rfl (nwM_105 hN) (hts _ wd_X3_table_3) (by decide +kernel) ⟨Nat.le_of_ble_eq_true rfl, Nat.le_of_ble_eq_true rfl⟩, (hts _ wd_X3_table_2), (hts _ wd_X3_table_4)⟩ (preV (wc := [(cu, .inr (0, [.ref a0, .ref a1, .ref a2, .ref a3, .ref a4, .ref a5, .int bw, .int pts])), (a2, .inl (cI, 6, .inl fd)), (a3, .inl (cI, 6, .inl fh))]) (ci := 0) (q0 := 1) hK hP hD hN [1, 2, 3] rfl (by decide) rfl rfl) rfl rfl hl.1 rfl (lv_room (Nat.le_of_ble_eq_true rfl)) dX3_table_14 ⟨Nat.le_of_ble_eq_true rfl, Nat.le_of_ble_eq_true rfl⟩) hP hD hS hA [1, 2, 3] [0] rfl rfl (by decide) (by decide) (fun r_2 u H locs w_3 hP hD hS => ?_)
    have hP : va_P D vwCl [(x, .inr (3, [.ref cu, .ref pi, .ref sq, .ref fo, .ref bo, .int gl, .int td, .int le])), (cu, .inr (0, [.ref a0, .ref a1, .ref a2, .ref a3, .ref a4, .ref a5, .int bw, .int pts])), (a2, .inl (cI, 6, .inl fd)), (a3, .inl (cI, 6, .inl fh))] H := hP
    have hD : va_D A [(x, .inr (3, [.ref cu, .ref pi, .ref sq, .ref fo, .ref bo, .int gl, .int td, .int le])), (cu, .inr (0, [.ref a0, .ref a1, .ref a2, .ref a3, .ref a4, .ref a5, .int bw, .int pts])), (a2, .inl (cI, 6, .inl fd)), (a3, .inl (cI, 6, .inl fh))] := hD
    have w_3 : r_2 = hof fd fh pts d 7 0 0 0 := w_3
    refine W.widen (k := 0) (n := 0) (Nat.le_of_ble_eq_true rfl) (Nat.le_of_ble_eq_true rfl) ?_
    exact fi_i () hx hb hr hlocks hK (hP.sub [0, 1, 2, 3] rfl) (hD.sub [0, 1, 2, 3] (by decide) rfl) hS (pf_X3_table_1 pts fd fh d r_2 c_1 w_3) dX3_table_17
  · refine lv_bipush (v := (-2)) hx hb dX3_table_4 (by decide) ?_
    refine lv_goto (tgt := 17) hx hb dX3_table_6 (by decide) ?_
    refine W.widen (k := 0) (n := 0) (Nat.le_of_ble_eq_true rfl) (Nat.le_of_ble_eq_true rfl) ?_
    exact fi_i () hx hb hr hlocks hK (hP.sub [0, 1, 2, 3] rfl) (hD.sub [0, 1, 2, 3] (by decide) rfl) hS (pf_X3_table_2 pts fd fh d c_1) dX3_table_17

theorem iw_X3_piece_1 : ∀ w ∈ wsX10, w ∈ wsX3_piece := fun w h => (List.mem_cons_of_mem _ (List.mem_append_left _ (List.mem_append_right _ h)))
theorem iw_X3_piece_3 : ∀ w ∈ wsX30, w ∈ wsX3_piece := fun w h => (List.mem_cons_of_mem _ (List.mem_append_left _ (List.mem_append_left _ (List.mem_append_right _ h))))
theorem wd_X3_piece_1 : (.fieldLink RX3 21 "PourPlan" "pieces" "LPourPlan$Pieces;" : Cond) ∈ wsX3_piece := List.mem_of_getElem? (i := 1) rfl
theorem wd_X3_piece_2 : (.fieldLink RX3 28 "PourPlan" "sequence" "LPourPlan$Sequence;" : Cond) ∈ wsX3_piece := List.mem_of_getElem? (i := 2) rfl
theorem wd_X3_piece_7 : (.instanceMethod yX2_append : Cond) ∈ wsX3_piece := List.mem_of_getElem? (i := 7) rfl
theorem wd_X3_piece_8 : (.initialized RX2 : Cond) ∈ wsX3_piece := List.mem_of_getElem? (i := 8) rfl
theorem wd_X3_piece_9 : (.selects RX2 yX2_append yX2_append : Cond) ∈ wsX3_piece := List.mem_of_getElem? (i := 9) rfl
theorem wd_X3_piece_13 : (.instanceMethod yX1_add : Cond) ∈ wsX3_piece := List.mem_of_getElem? (i := 13) rfl
theorem wd_X3_piece_14 : (.initialized RX1 : Cond) ∈ wsX3_piece := List.mem_of_getElem? (i := 14) rfl
theorem wd_X3_piece_15 : (.selects RX1 yX1_add yX1_add : Cond) ∈ wsX3_piece := List.mem_of_getElem? (i := 15) rfl
set_option maxHeartbeats 1000000 in
theorem pf_X3_piece_1 (num : Int32) (p3 : Nat → Int32) (sf : Nat → Int32) (xk : Int32) (xf : Int32) (xv : Int32) (xs : Int32) (xn : Int32) (r_1 : Int32) (hn0 : 0 ≤ num) (hn1 : num ≤ 10) (hz : okSz p3) (hr0 : okRow sf num) (w_2 : r_1 = bIn xk (0 : Int32) (3 : Int32)) (c_4 : r_1 = 0) : (-1 : Int32) = rPiece num xk xf xv xs xn := by
  grind [bIn, rPiece, sNum]
set_option maxHeartbeats 1000000 in
theorem pf_X3_piece_2 (num : Int32) (p3 : Nat → Int32) (sf : Nat → Int32) (xk : Int32) (xf : Int32) (xv : Int32) (xs : Int32) (xn : Int32) (r_1 : Int32) (hn0 : 0 ≤ num) (hn1 : num ≤ 10) (hz : okSz p3) (hr0 : okRow sf num) (w_2 : r_1 = bIn xk (0 : Int32) (3 : Int32)) (c_4 : r_1 = 0) : num = sNum num xk xf xv xs xn := by
  grind [bIn, rPiece, sNum]
set_option maxHeartbeats 1000000 in
theorem pf_X3_piece_3 (num : Int32) (p3 : Nat → Int32) (sf : Nat → Int32) (xk : Int32) (r_1 : Int32) (hn0 : 0 ≤ num) (hn1 : num ≤ 10) (hz : okSz p3) (hr0 : okRow sf num) (w_2 : r_1 = bIn xk (0 : Int32) (3 : Int32)) (c_4 : r_1 = 0) : okSz p3 := by
  first
  | (grind [bIn, rPiece, sNum])
  | (first
     | exact hz
     | (have h9 := okSz_upd (j := num.toNatClampNeg) hz (v := xs) (by grind [bIn]) (by grind [bIn])
        grind))
set_option maxHeartbeats 1000000 in
theorem pf_X3_piece_4 (num : Int32) (p3 : Nat → Int32) (sf : Nat → Int32) (xk : Int32) (r_1 : Int32) (hn0 : 0 ≤ num) (hn1 : num ≤ 10) (hz : okSz p3) (hr0 : okRow sf num) (w_2 : r_1 = bIn xk (0 : Int32) (3 : Int32)) (c_4 : r_1 = 0) : okRow sf num := by
  first
  | (grind [bIn, rPiece, sNum])
  | (first
     | exact hr0
     | (have h9 := okRow_app hr0 hn0 (by grind) rfl
        grind))
set_option maxHeartbeats 1000000 in
theorem pf_X3_piece_5 (num : Int32) (p3 : Nat → Int32) (sf : Nat → Int32) (xk : Int32) (r_1 : Int32) (hn0 : 0 ≤ num) (hn1 : num ≤ 10) (hz : okSz p3) (hr0 : okRow sf num) (w_2 : r_1 = bIn xk (0 : Int32) (3 : Int32)) (c_4 : r_1 = 0) : (0 ≤ num ∧ num ≤ 10) := by
  grind [bIn, rPiece, sNum]
set_option maxHeartbeats 1000000 in
theorem pf_X3_piece_6 (num : Int32) (p3 : Nat → Int32) (sf : Nat → Int32) (xk : Int32) (xf : Int32) (xv : Int32) (xs : Int32) (xn : Int32) (r_1 : Int32) (r_5 : Int32) (hn0 : 0 ≤ num) (hn1 : num ≤ 10) (hz : okSz p3) (hr0 : okRow sf num) (w_2 : r_1 = bIn xk (0 : Int32) (3 : Int32)) (c_4 : ¬ r_1 = 0) (w_6 : r_5 = bIn xf (0 : Int32) (5 : Int32)) (c_8 : r_5 = 0) : (-1 : Int32) = rPiece num xk xf xv xs xn := by
  grind [bIn, rPiece, sNum]
set_option maxHeartbeats 1000000 in
theorem pf_X3_piece_7 (num : Int32) (p3 : Nat → Int32) (sf : Nat → Int32) (xk : Int32) (xf : Int32) (xv : Int32) (xs : Int32) (xn : Int32) (r_1 : Int32) (r_5 : Int32) (hn0 : 0 ≤ num) (hn1 : num ≤ 10) (hz : okSz p3) (hr0 : okRow sf num) (w_2 : r_1 = bIn xk (0 : Int32) (3 : Int32)) (c_4 : ¬ r_1 = 0) (w_6 : r_5 = bIn xf (0 : Int32) (5 : Int32)) (c_8 : r_5 = 0) : num = sNum num xk xf xv xs xn := by
  grind [bIn, rPiece, sNum]
set_option maxHeartbeats 1000000 in
theorem pf_X3_piece_8 (num : Int32) (p3 : Nat → Int32) (sf : Nat → Int32) (xk : Int32) (xf : Int32) (r_1 : Int32) (r_5 : Int32) (hn0 : 0 ≤ num) (hn1 : num ≤ 10) (hz : okSz p3) (hr0 : okRow sf num) (w_2 : r_1 = bIn xk (0 : Int32) (3 : Int32)) (c_4 : ¬ r_1 = 0) (w_6 : r_5 = bIn xf (0 : Int32) (5 : Int32)) (c_8 : r_5 = 0) : okSz p3 := by
  first
  | (grind [bIn, rPiece, sNum])
  | (first
     | exact hz
     | (have h9 := okSz_upd (j := num.toNatClampNeg) hz (v := xs) (by grind [bIn]) (by grind [bIn])
        grind))
set_option maxHeartbeats 1000000 in
theorem pf_X3_piece_9 (num : Int32) (p3 : Nat → Int32) (sf : Nat → Int32) (xk : Int32) (xf : Int32) (r_1 : Int32) (r_5 : Int32) (hn0 : 0 ≤ num) (hn1 : num ≤ 10) (hz : okSz p3) (hr0 : okRow sf num) (w_2 : r_1 = bIn xk (0 : Int32) (3 : Int32)) (c_4 : ¬ r_1 = 0) (w_6 : r_5 = bIn xf (0 : Int32) (5 : Int32)) (c_8 : r_5 = 0) : okRow sf num := by
  first
  | (grind [bIn, rPiece, sNum])
  | (first
     | exact hr0
     | (have h9 := okRow_app hr0 hn0 (by grind) rfl
        grind))
set_option maxHeartbeats 1000000 in
theorem pf_X3_piece_10 (num : Int32) (p3 : Nat → Int32) (sf : Nat → Int32) (xk : Int32) (xf : Int32) (r_1 : Int32) (r_5 : Int32) (hn0 : 0 ≤ num) (hn1 : num ≤ 10) (hz : okSz p3) (hr0 : okRow sf num) (w_2 : r_1 = bIn xk (0 : Int32) (3 : Int32)) (c_4 : ¬ r_1 = 0) (w_6 : r_5 = bIn xf (0 : Int32) (5 : Int32)) (c_8 : r_5 = 0) : (0 ≤ num ∧ num ≤ 10) := by
  grind [bIn, rPiece, sNum]
set_option maxHeartbeats 1000000 in
theorem pf_X3_piece_11 (num : Int32) (p3 : Nat → Int32) (sf : Nat → Int32) (xk : Int32) (xf : Int32) (xv : Int32) (xs : Int32) (xn : Int32) (r_1 : Int32) (r_5 : Int32) (r_9 : Int32) (r_13 : Int32) (hn0 : 0 ≤ num) (hn1 : num ≤ 10) (hz : okSz p3) (hr0 : okRow sf num) (w_2 : r_1 = bIn xk (0 : Int32) (3 : Int32)) (c_4 : ¬ r_1 = 0) (w_6 : r_5 = bIn xf (0 : Int32) (5 : Int32)) (c_8 : ¬ r_5 = 0) (w_10 : r_9 = bIn xs (0 : Int32) (2 : Int32)) (c_12 : ¬ r_9 = 0) (w_14 : r_13 = bIn xv (1 : Int32) (200 : Int32)) (c_16 : r_13 = 0) : (-2 : Int32) = rPiece num xk xf xv xs xn := by
  grind [bIn, rPiece, sNum]
set_option maxHeartbeats 1000000 in
theorem pf_X3_piece_12 (num : Int32) (p3 : Nat → Int32) (sf : Nat → Int32) (xk : Int32) (xf : Int32) (xv : Int32) (xs : Int32) (xn : Int32) (r_1 : Int32) (r_5 : Int32) (r_9 : Int32) (r_13 : Int32) (hn0 : 0 ≤ num) (hn1 : num ≤ 10) (hz : okSz p3) (hr0 : okRow sf num) (w_2 : r_1 = bIn xk (0 : Int32) (3 : Int32)) (c_4 : ¬ r_1 = 0) (w_6 : r_5 = bIn xf (0 : Int32) (5 : Int32)) (c_8 : ¬ r_5 = 0) (w_10 : r_9 = bIn xs (0 : Int32) (2 : Int32)) (c_12 : ¬ r_9 = 0) (w_14 : r_13 = bIn xv (1 : Int32) (200 : Int32)) (c_16 : r_13 = 0) : num = sNum num xk xf xv xs xn := by
  grind [bIn, rPiece, sNum]
set_option maxHeartbeats 1000000 in
theorem pf_X3_piece_13 (num : Int32) (p3 : Nat → Int32) (sf : Nat → Int32) (xk : Int32) (xf : Int32) (xv : Int32) (xs : Int32) (r_1 : Int32) (r_5 : Int32) (r_9 : Int32) (r_13 : Int32) (hn0 : 0 ≤ num) (hn1 : num ≤ 10) (hz : okSz p3) (hr0 : okRow sf num) (w_2 : r_1 = bIn xk (0 : Int32) (3 : Int32)) (c_4 : ¬ r_1 = 0) (w_6 : r_5 = bIn xf (0 : Int32) (5 : Int32)) (c_8 : ¬ r_5 = 0) (w_10 : r_9 = bIn xs (0 : Int32) (2 : Int32)) (c_12 : ¬ r_9 = 0) (w_14 : r_13 = bIn xv (1 : Int32) (200 : Int32)) (c_16 : r_13 = 0) : okSz p3 := by
  first
  | (grind [bIn, rPiece, sNum])
  | (first
     | exact hz
     | (have h9 := okSz_upd (j := num.toNatClampNeg) hz (v := xs) (by grind [bIn]) (by grind [bIn])
        grind))
set_option maxHeartbeats 1000000 in
theorem pf_X3_piece_14 (num : Int32) (p3 : Nat → Int32) (sf : Nat → Int32) (xk : Int32) (xf : Int32) (xv : Int32) (xs : Int32) (r_1 : Int32) (r_5 : Int32) (r_9 : Int32) (r_13 : Int32) (hn0 : 0 ≤ num) (hn1 : num ≤ 10) (hz : okSz p3) (hr0 : okRow sf num) (w_2 : r_1 = bIn xk (0 : Int32) (3 : Int32)) (c_4 : ¬ r_1 = 0) (w_6 : r_5 = bIn xf (0 : Int32) (5 : Int32)) (c_8 : ¬ r_5 = 0) (w_10 : r_9 = bIn xs (0 : Int32) (2 : Int32)) (c_12 : ¬ r_9 = 0) (w_14 : r_13 = bIn xv (1 : Int32) (200 : Int32)) (c_16 : r_13 = 0) : okRow sf num := by
  first
  | (grind [bIn, rPiece, sNum])
  | (first
     | exact hr0
     | (have h9 := okRow_app hr0 hn0 (by grind) rfl
        grind))
set_option maxHeartbeats 1000000 in
theorem pf_X3_piece_15 (num : Int32) (p3 : Nat → Int32) (sf : Nat → Int32) (xk : Int32) (xf : Int32) (xv : Int32) (xs : Int32) (r_1 : Int32) (r_5 : Int32) (r_9 : Int32) (r_13 : Int32) (hn0 : 0 ≤ num) (hn1 : num ≤ 10) (hz : okSz p3) (hr0 : okRow sf num) (w_2 : r_1 = bIn xk (0 : Int32) (3 : Int32)) (c_4 : ¬ r_1 = 0) (w_6 : r_5 = bIn xf (0 : Int32) (5 : Int32)) (c_8 : ¬ r_5 = 0) (w_10 : r_9 = bIn xs (0 : Int32) (2 : Int32)) (c_12 : ¬ r_9 = 0) (w_14 : r_13 = bIn xv (1 : Int32) (200 : Int32)) (c_16 : r_13 = 0) : (0 ≤ num ∧ num ≤ 10) := by
  grind [bIn, rPiece, sNum]
set_option maxHeartbeats 1000000 in
theorem pf_X3_piece_16 (num : Int32) (p3 : Nat → Int32) (sf : Nat → Int32) (xk : Int32) (xf : Int32) (xv : Int32) (xs : Int32) (xn : Int32) (r_1 : Int32) (r_5 : Int32) (r_9 : Int32) (r_13 : Int32) (r_17 : Int32) (hn0 : 0 ≤ num) (hn1 : num ≤ 10) (hz : okSz p3) (hr0 : okRow sf num) (w_2 : r_1 = bIn xk (0 : Int32) (3 : Int32)) (c_4 : ¬ r_1 = 0) (w_6 : r_5 = bIn xf (0 : Int32) (5 : Int32)) (c_8 : ¬ r_5 = 0) (w_10 : r_9 = bIn xs (0 : Int32) (2 : Int32)) (c_12 : ¬ r_9 = 0) (w_14 : r_13 = bIn xv (1 : Int32) (200 : Int32)) (c_16 : ¬ r_13 = 0) (w_18 : r_17 = bIn xn (1 : Int32) (9 : Int32)) (c_20 : ¬ r_17 = 0) (c_21 : num < 10) : 0 ≤ num := by
  grind [bIn, rPiece, sNum]
set_option maxHeartbeats 1000000 in
theorem pf_X3_piece_17 (num : Int32) (p3 : Nat → Int32) (sf : Nat → Int32) (xk : Int32) (xf : Int32) (xv : Int32) (xs : Int32) (xn : Int32) (r_1 : Int32) (r_5 : Int32) (r_9 : Int32) (r_13 : Int32) (r_17 : Int32) (ln2_24 : Int32) (f2_25 : Nat → Int32) (hn0 : 0 ≤ num) (hn1 : num ≤ 10) (hz : okSz p3) (hr0 : okRow sf num) (w_2 : r_1 = bIn xk (0 : Int32) (3 : Int32)) (c_4 : ¬ r_1 = 0) (w_6 : r_5 = bIn xf (0 : Int32) (5 : Int32)) (c_8 : ¬ r_5 = 0) (w_10 : r_9 = bIn xs (0 : Int32) (2 : Int32)) (c_12 : ¬ r_9 = 0) (w_14 : r_13 = bIn xv (1 : Int32) (200 : Int32)) (c_16 : ¬ r_13 = 0) (w_18 : r_17 = bIn xn (1 : Int32) (9 : Int32)) (c_20 : ¬ r_17 = 0) (c_21 : num < 10) (h_26 : ln2_24 = (if 10 ≤ num then num else num + 1)) (h_27 : f2_25 = (if 10 ≤ num then sf else upd sf num.toNatClampNeg num)) : 0 ≤ num := by
  grind [bIn, rPiece, sNum]
set_option maxHeartbeats 1000000 in
theorem pf_X3_piece_18 (num : Int32) (p0 : Nat → Int32) (p1 : Nat → Int32) (p2 : Nat → Int32) (p3 : Nat → Int32) (p4 : Nat → Int32) (sf : Nat → Int32) (xk : Int32) (xf : Int32) (xv : Int32) (xs : Int32) (xn : Int32) (r_1 : Int32) (r_5 : Int32) (r_9 : Int32) (r_13 : Int32) (r_17 : Int32) (ln2_24 : Int32) (f2_25 : Nat → Int32) (num2_30 : Int32) (q0_31 : Nat → Int32) (q1_32 : Nat → Int32) (q2_33 : Nat → Int32) (q3_34 : Nat → Int32) (q4_35 : Nat → Int32) (r_28 : Int32) (hn0 : 0 ≤ num) (hn1 : num ≤ 10) (hz : okSz p3) (hr0 : okRow sf num) (w_2 : r_1 = bIn xk (0 : Int32) (3 : Int32)) (c_4 : ¬ r_1 = 0) (w_6 : r_5 = bIn xf (0 : Int32) (5 : Int32)) (c_8 : ¬ r_5 = 0) (w_10 : r_9 = bIn xs (0 : Int32) (2 : Int32)) (c_12 : ¬ r_9 = 0) (w_14 : r_13 = bIn xv (1 : Int32) (200 : Int32)) (c_16 : ¬ r_13 = 0) (w_18 : r_17 = bIn xn (1 : Int32) (9 : Int32)) (c_20 : ¬ r_17 = 0) (c_21 : num < 10) (h_26 : ln2_24 = (if 10 ≤ num then num else num + 1)) (h_27 : f2_25 = (if 10 ≤ num then sf else upd sf num.toNatClampNeg num)) (h_36 : r_28 = (if 10 ≤ num then -4 else num)) (h_37 : num2_30 = (if 10 ≤ num then num else num + 1)) (h_38 : q0_31 = (if 10 ≤ num then p0 else upd p0 num.toNatClampNeg xk)) (h_39 : q1_32 = (if 10 ≤ num then p1 else upd p1 num.toNatClampNeg xf)) (h_40 : q2_33 = (if 10 ≤ num then p2 else upd p2 num.toNatClampNeg xv)) (h_41 : q3_34 = (if 10 ≤ num then p3 else upd p3 num.toNatClampNeg xs)) (h_42 : q4_35 = (if 10 ≤ num then p4 else upd p4 num.toNatClampNeg xn)) : ln2_24 = num2_30 := by
  grind [bIn, rPiece, sNum]
set_option maxHeartbeats 1000000 in
theorem pf_X3_piece_19 (num : Int32) (p0 : Nat → Int32) (p1 : Nat → Int32) (p2 : Nat → Int32) (p3 : Nat → Int32) (p4 : Nat → Int32) (sf : Nat → Int32) (xk : Int32) (xf : Int32) (xv : Int32) (xs : Int32) (xn : Int32) (r_1 : Int32) (r_5 : Int32) (r_9 : Int32) (r_13 : Int32) (r_17 : Int32) (ln2_24 : Int32) (f2_25 : Nat → Int32) (num2_30 : Int32) (q0_31 : Nat → Int32) (q1_32 : Nat → Int32) (q2_33 : Nat → Int32) (q3_34 : Nat → Int32) (q4_35 : Nat → Int32) (r_28 : Int32) (hn0 : 0 ≤ num) (hn1 : num ≤ 10) (hz : okSz p3) (hr0 : okRow sf num) (w_2 : r_1 = bIn xk (0 : Int32) (3 : Int32)) (c_4 : ¬ r_1 = 0) (w_6 : r_5 = bIn xf (0 : Int32) (5 : Int32)) (c_8 : ¬ r_5 = 0) (w_10 : r_9 = bIn xs (0 : Int32) (2 : Int32)) (c_12 : ¬ r_9 = 0) (w_14 : r_13 = bIn xv (1 : Int32) (200 : Int32)) (c_16 : ¬ r_13 = 0) (w_18 : r_17 = bIn xn (1 : Int32) (9 : Int32)) (c_20 : ¬ r_17 = 0) (c_21 : num < 10) (h_26 : ln2_24 = (if 10 ≤ num then num else num + 1)) (h_27 : f2_25 = (if 10 ≤ num then sf else upd sf num.toNatClampNeg num)) (h_36 : r_28 = (if 10 ≤ num then -4 else num)) (h_37 : num2_30 = (if 10 ≤ num then num else num + 1)) (h_38 : q0_31 = (if 10 ≤ num then p0 else upd p0 num.toNatClampNeg xk)) (h_39 : q1_32 = (if 10 ≤ num then p1 else upd p1 num.toNatClampNeg xf)) (h_40 : q2_33 = (if 10 ≤ num then p2 else upd p2 num.toNatClampNeg xv)) (h_41 : q3_34 = (if 10 ≤ num then p3 else upd p3 num.toNatClampNeg xs)) (h_42 : q4_35 = (if 10 ≤ num then p4 else upd p4 num.toNatClampNeg xn)) : r_28 = rPiece num xk xf xv xs xn := by
  grind [bIn, rPiece, sNum]
set_option maxHeartbeats 1000000 in
theorem pf_X3_piece_20 (num : Int32) (p0 : Nat → Int32) (p1 : Nat → Int32) (p2 : Nat → Int32) (p3 : Nat → Int32) (p4 : Nat → Int32) (sf : Nat → Int32) (xk : Int32) (xf : Int32) (xv : Int32) (xs : Int32) (xn : Int32) (r_1 : Int32) (r_5 : Int32) (r_9 : Int32) (r_13 : Int32) (r_17 : Int32) (ln2_24 : Int32) (f2_25 : Nat → Int32) (num2_30 : Int32) (q0_31 : Nat → Int32) (q1_32 : Nat → Int32) (q2_33 : Nat → Int32) (q3_34 : Nat → Int32) (q4_35 : Nat → Int32) (r_28 : Int32) (hn0 : 0 ≤ num) (hn1 : num ≤ 10) (hz : okSz p3) (hr0 : okRow sf num) (w_2 : r_1 = bIn xk (0 : Int32) (3 : Int32)) (c_4 : ¬ r_1 = 0) (w_6 : r_5 = bIn xf (0 : Int32) (5 : Int32)) (c_8 : ¬ r_5 = 0) (w_10 : r_9 = bIn xs (0 : Int32) (2 : Int32)) (c_12 : ¬ r_9 = 0) (w_14 : r_13 = bIn xv (1 : Int32) (200 : Int32)) (c_16 : ¬ r_13 = 0) (w_18 : r_17 = bIn xn (1 : Int32) (9 : Int32)) (c_20 : ¬ r_17 = 0) (c_21 : num < 10) (h_26 : ln2_24 = (if 10 ≤ num then num else num + 1)) (h_27 : f2_25 = (if 10 ≤ num then sf else upd sf num.toNatClampNeg num)) (h_36 : r_28 = (if 10 ≤ num then -4 else num)) (h_37 : num2_30 = (if 10 ≤ num then num else num + 1)) (h_38 : q0_31 = (if 10 ≤ num then p0 else upd p0 num.toNatClampNeg xk)) (h_39 : q1_32 = (if 10 ≤ num then p1 else upd p1 num.toNatClampNeg xf)) (h_40 : q2_33 = (if 10 ≤ num then p2 else upd p2 num.toNatClampNeg xv)) (h_41 : q3_34 = (if 10 ≤ num then p3 else upd p3 num.toNatClampNeg xs)) (h_42 : q4_35 = (if 10 ≤ num then p4 else upd p4 num.toNatClampNeg xn)) : num2_30 = sNum num xk xf xv xs xn := by
  grind [bIn, rPiece, sNum]
set_option maxHeartbeats 1000000 in
theorem pf_X3_piece_21 (num : Int32) (p0 : Nat → Int32) (p1 : Nat → Int32) (p2 : Nat → Int32) (p3 : Nat → Int32) (p4 : Nat → Int32) (sf : Nat → Int32) (xk : Int32) (xf : Int32) (xv : Int32) (xs : Int32) (xn : Int32) (r_1 : Int32) (r_5 : Int32) (r_9 : Int32) (r_13 : Int32) (r_17 : Int32) (ln2_24 : Int32) (f2_25 : Nat → Int32) (num2_30 : Int32) (q0_31 : Nat → Int32) (q1_32 : Nat → Int32) (q2_33 : Nat → Int32) (q3_34 : Nat → Int32) (q4_35 : Nat → Int32) (r_28 : Int32) (hn0 : 0 ≤ num) (hn1 : num ≤ 10) (hz : okSz p3) (hr0 : okRow sf num) (w_2 : r_1 = bIn xk (0 : Int32) (3 : Int32)) (c_4 : ¬ r_1 = 0) (w_6 : r_5 = bIn xf (0 : Int32) (5 : Int32)) (c_8 : ¬ r_5 = 0) (w_10 : r_9 = bIn xs (0 : Int32) (2 : Int32)) (c_12 : ¬ r_9 = 0) (w_14 : r_13 = bIn xv (1 : Int32) (200 : Int32)) (c_16 : ¬ r_13 = 0) (w_18 : r_17 = bIn xn (1 : Int32) (9 : Int32)) (c_20 : ¬ r_17 = 0) (c_21 : num < 10) (h_26 : ln2_24 = (if 10 ≤ num then num else num + 1)) (h_27 : f2_25 = (if 10 ≤ num then sf else upd sf num.toNatClampNeg num)) (h_36 : r_28 = (if 10 ≤ num then -4 else num)) (h_37 : num2_30 = (if 10 ≤ num then num else num + 1)) (h_38 : q0_31 = (if 10 ≤ num then p0 else upd p0 num.toNatClampNeg xk)) (h_39 : q1_32 = (if 10 ≤ num then p1 else upd p1 num.toNatClampNeg xf)) (h_40 : q2_33 = (if 10 ≤ num then p2 else upd p2 num.toNatClampNeg xv)) (h_41 : q3_34 = (if 10 ≤ num then p3 else upd p3 num.toNatClampNeg xs)) (h_42 : q4_35 = (if 10 ≤ num then p4 else upd p4 num.toNatClampNeg xn)) : okSz q3_34 := by
  first
  | (grind [bIn, rPiece, sNum])
  | (first
     | exact hz
     | (have h9 := okSz_upd (j := num.toNatClampNeg) hz (v := xs) (by grind [bIn]) (by grind [bIn])
        grind))
set_option maxHeartbeats 1000000 in
theorem pf_X3_piece_22 (num : Int32) (p0 : Nat → Int32) (p1 : Nat → Int32) (p2 : Nat → Int32) (p3 : Nat → Int32) (p4 : Nat → Int32) (sf : Nat → Int32) (xk : Int32) (xf : Int32) (xv : Int32) (xs : Int32) (xn : Int32) (r_1 : Int32) (r_5 : Int32) (r_9 : Int32) (r_13 : Int32) (r_17 : Int32) (ln2_24 : Int32) (f2_25 : Nat → Int32) (num2_30 : Int32) (q0_31 : Nat → Int32) (q1_32 : Nat → Int32) (q2_33 : Nat → Int32) (q3_34 : Nat → Int32) (q4_35 : Nat → Int32) (r_28 : Int32) (hn0 : 0 ≤ num) (hn1 : num ≤ 10) (hz : okSz p3) (hr0 : okRow sf num) (w_2 : r_1 = bIn xk (0 : Int32) (3 : Int32)) (c_4 : ¬ r_1 = 0) (w_6 : r_5 = bIn xf (0 : Int32) (5 : Int32)) (c_8 : ¬ r_5 = 0) (w_10 : r_9 = bIn xs (0 : Int32) (2 : Int32)) (c_12 : ¬ r_9 = 0) (w_14 : r_13 = bIn xv (1 : Int32) (200 : Int32)) (c_16 : ¬ r_13 = 0) (w_18 : r_17 = bIn xn (1 : Int32) (9 : Int32)) (c_20 : ¬ r_17 = 0) (c_21 : num < 10) (h_26 : ln2_24 = (if 10 ≤ num then num else num + 1)) (h_27 : f2_25 = (if 10 ≤ num then sf else upd sf num.toNatClampNeg num)) (h_36 : r_28 = (if 10 ≤ num then -4 else num)) (h_37 : num2_30 = (if 10 ≤ num then num else num + 1)) (h_38 : q0_31 = (if 10 ≤ num then p0 else upd p0 num.toNatClampNeg xk)) (h_39 : q1_32 = (if 10 ≤ num then p1 else upd p1 num.toNatClampNeg xf)) (h_40 : q2_33 = (if 10 ≤ num then p2 else upd p2 num.toNatClampNeg xv)) (h_41 : q3_34 = (if 10 ≤ num then p3 else upd p3 num.toNatClampNeg xs)) (h_42 : q4_35 = (if 10 ≤ num then p4 else upd p4 num.toNatClampNeg xn)) : okRow f2_25 num2_30 := by
  first
  | (grind [bIn, rPiece, sNum])
  | (first
     | exact hr0
     | (have h9 := okRow_app hr0 hn0 (by grind) rfl
        grind))
set_option maxHeartbeats 1000000 in
theorem pf_X3_piece_23 (num : Int32) (p0 : Nat → Int32) (p1 : Nat → Int32) (p2 : Nat → Int32) (p3 : Nat → Int32) (p4 : Nat → Int32) (sf : Nat → Int32) (xk : Int32) (xf : Int32) (xv : Int32) (xs : Int32) (xn : Int32) (r_1 : Int32) (r_5 : Int32) (r_9 : Int32) (r_13 : Int32) (r_17 : Int32) (ln2_24 : Int32) (f2_25 : Nat → Int32) (num2_30 : Int32) (q0_31 : Nat → Int32) (q1_32 : Nat → Int32) (q2_33 : Nat → Int32) (q3_34 : Nat → Int32) (q4_35 : Nat → Int32) (r_28 : Int32) (hn0 : 0 ≤ num) (hn1 : num ≤ 10) (hz : okSz p3) (hr0 : okRow sf num) (w_2 : r_1 = bIn xk (0 : Int32) (3 : Int32)) (c_4 : ¬ r_1 = 0) (w_6 : r_5 = bIn xf (0 : Int32) (5 : Int32)) (c_8 : ¬ r_5 = 0) (w_10 : r_9 = bIn xs (0 : Int32) (2 : Int32)) (c_12 : ¬ r_9 = 0) (w_14 : r_13 = bIn xv (1 : Int32) (200 : Int32)) (c_16 : ¬ r_13 = 0) (w_18 : r_17 = bIn xn (1 : Int32) (9 : Int32)) (c_20 : ¬ r_17 = 0) (c_21 : num < 10) (h_26 : ln2_24 = (if 10 ≤ num then num else num + 1)) (h_27 : f2_25 = (if 10 ≤ num then sf else upd sf num.toNatClampNeg num)) (h_36 : r_28 = (if 10 ≤ num then -4 else num)) (h_37 : num2_30 = (if 10 ≤ num then num else num + 1)) (h_38 : q0_31 = (if 10 ≤ num then p0 else upd p0 num.toNatClampNeg xk)) (h_39 : q1_32 = (if 10 ≤ num then p1 else upd p1 num.toNatClampNeg xf)) (h_40 : q2_33 = (if 10 ≤ num then p2 else upd p2 num.toNatClampNeg xv)) (h_41 : q3_34 = (if 10 ≤ num then p3 else upd p3 num.toNatClampNeg xs)) (h_42 : q4_35 = (if 10 ≤ num then p4 else upd p4 num.toNatClampNeg xn)) : (0 ≤ num2_30 ∧ num2_30 ≤ 10) := by
  grind [bIn, rPiece, sNum]
set_option maxHeartbeats 1000000 in
theorem pf_X3_piece_24 (num : Int32) (p3 : Nat → Int32) (sf : Nat → Int32) (xk : Int32) (xf : Int32) (xv : Int32) (xs : Int32) (xn : Int32) (r_1 : Int32) (r_5 : Int32) (r_9 : Int32) (r_13 : Int32) (r_17 : Int32) (hn0 : 0 ≤ num) (hn1 : num ≤ 10) (hz : okSz p3) (hr0 : okRow sf num) (w_2 : r_1 = bIn xk (0 : Int32) (3 : Int32)) (c_4 : ¬ r_1 = 0) (w_6 : r_5 = bIn xf (0 : Int32) (5 : Int32)) (c_8 : ¬ r_5 = 0) (w_10 : r_9 = bIn xs (0 : Int32) (2 : Int32)) (c_12 : ¬ r_9 = 0) (w_14 : r_13 = bIn xv (1 : Int32) (200 : Int32)) (c_16 : ¬ r_13 = 0) (w_18 : r_17 = bIn xn (1 : Int32) (9 : Int32)) (c_20 : ¬ r_17 = 0) (c_21 : ¬ num < 10) : (-4 : Int32) = rPiece num xk xf xv xs xn := by
  grind [bIn, rPiece, sNum]
set_option maxHeartbeats 1000000 in
theorem pf_X3_piece_25 (num : Int32) (p3 : Nat → Int32) (sf : Nat → Int32) (xk : Int32) (xf : Int32) (xv : Int32) (xs : Int32) (xn : Int32) (r_1 : Int32) (r_5 : Int32) (r_9 : Int32) (r_13 : Int32) (r_17 : Int32) (hn0 : 0 ≤ num) (hn1 : num ≤ 10) (hz : okSz p3) (hr0 : okRow sf num) (w_2 : r_1 = bIn xk (0 : Int32) (3 : Int32)) (c_4 : ¬ r_1 = 0) (w_6 : r_5 = bIn xf (0 : Int32) (5 : Int32)) (c_8 : ¬ r_5 = 0) (w_10 : r_9 = bIn xs (0 : Int32) (2 : Int32)) (c_12 : ¬ r_9 = 0) (w_14 : r_13 = bIn xv (1 : Int32) (200 : Int32)) (c_16 : ¬ r_13 = 0) (w_18 : r_17 = bIn xn (1 : Int32) (9 : Int32)) (c_20 : ¬ r_17 = 0) (c_21 : ¬ num < 10) : num = sNum num xk xf xv xs xn := by
  grind [bIn, rPiece, sNum]
set_option maxHeartbeats 1000000 in
theorem pf_X3_piece_26 (num : Int32) (p3 : Nat → Int32) (sf : Nat → Int32) (xk : Int32) (xf : Int32) (xv : Int32) (xs : Int32) (xn : Int32) (r_1 : Int32) (r_5 : Int32) (r_9 : Int32) (r_13 : Int32) (r_17 : Int32) (hn0 : 0 ≤ num) (hn1 : num ≤ 10) (hz : okSz p3) (hr0 : okRow sf num) (w_2 : r_1 = bIn xk (0 : Int32) (3 : Int32)) (c_4 : ¬ r_1 = 0) (w_6 : r_5 = bIn xf (0 : Int32) (5 : Int32)) (c_8 : ¬ r_5 = 0) (w_10 : r_9 = bIn xs (0 : Int32) (2 : Int32)) (c_12 : ¬ r_9 = 0) (w_14 : r_13 = bIn xv (1 : Int32) (200 : Int32)) (c_16 : ¬ r_13 = 0) (w_18 : r_17 = bIn xn (1 : Int32) (9 : Int32)) (c_20 : ¬ r_17 = 0) (c_21 : ¬ num < 10) : okSz p3 := by
  first
  | (grind [bIn, rPiece, sNum])
  | (first
     | exact hz
     | (have h9 := okSz_upd (j := num.toNatClampNeg) hz (v := xs) (by grind [bIn]) (by grind [bIn])
        grind))
set_option maxHeartbeats 1000000 in
theorem pf_X3_piece_27 (num : Int32) (p3 : Nat → Int32) (sf : Nat → Int32) (xk : Int32) (xf : Int32) (xv : Int32) (xs : Int32) (xn : Int32) (r_1 : Int32) (r_5 : Int32) (r_9 : Int32) (r_13 : Int32) (r_17 : Int32) (hn0 : 0 ≤ num) (hn1 : num ≤ 10) (hz : okSz p3) (hr0 : okRow sf num) (w_2 : r_1 = bIn xk (0 : Int32) (3 : Int32)) (c_4 : ¬ r_1 = 0) (w_6 : r_5 = bIn xf (0 : Int32) (5 : Int32)) (c_8 : ¬ r_5 = 0) (w_10 : r_9 = bIn xs (0 : Int32) (2 : Int32)) (c_12 : ¬ r_9 = 0) (w_14 : r_13 = bIn xv (1 : Int32) (200 : Int32)) (c_16 : ¬ r_13 = 0) (w_18 : r_17 = bIn xn (1 : Int32) (9 : Int32)) (c_20 : ¬ r_17 = 0) (c_21 : ¬ num < 10) : okRow sf num := by
  first
  | (grind [bIn, rPiece, sNum])
  | (first
     | exact hr0
     | (have h9 := okRow_app hr0 hn0 (by grind) rfl
        grind))
set_option maxHeartbeats 1000000 in
theorem pf_X3_piece_28 (num : Int32) (p3 : Nat → Int32) (sf : Nat → Int32) (xk : Int32) (xf : Int32) (xv : Int32) (xs : Int32) (xn : Int32) (r_1 : Int32) (r_5 : Int32) (r_9 : Int32) (r_13 : Int32) (r_17 : Int32) (hn0 : 0 ≤ num) (hn1 : num ≤ 10) (hz : okSz p3) (hr0 : okRow sf num) (w_2 : r_1 = bIn xk (0 : Int32) (3 : Int32)) (c_4 : ¬ r_1 = 0) (w_6 : r_5 = bIn xf (0 : Int32) (5 : Int32)) (c_8 : ¬ r_5 = 0) (w_10 : r_9 = bIn xs (0 : Int32) (2 : Int32)) (c_12 : ¬ r_9 = 0) (w_14 : r_13 = bIn xv (1 : Int32) (200 : Int32)) (c_16 : ¬ r_13 = 0) (w_18 : r_17 = bIn xn (1 : Int32) (9 : Int32)) (c_20 : ¬ r_17 = 0) (c_21 : ¬ num < 10) : (0 ≤ num ∧ num ≤ 10) := by
  grind [bIn, rPiece, sNum]
set_option maxHeartbeats 1000000 in
theorem pf_X3_piece_29 (num : Int32) (p3 : Nat → Int32) (sf : Nat → Int32) (xk : Int32) (xf : Int32) (xv : Int32) (xs : Int32) (xn : Int32) (r_1 : Int32) (r_5 : Int32) (r_9 : Int32) (r_13 : Int32) (r_17 : Int32) (hn0 : 0 ≤ num) (hn1 : num ≤ 10) (hz : okSz p3) (hr0 : okRow sf num) (w_2 : r_1 = bIn xk (0 : Int32) (3 : Int32)) (c_4 : ¬ r_1 = 0) (w_6 : r_5 = bIn xf (0 : Int32) (5 : Int32)) (c_8 : ¬ r_5 = 0) (w_10 : r_9 = bIn xs (0 : Int32) (2 : Int32)) (c_12 : ¬ r_9 = 0) (w_14 : r_13 = bIn xv (1 : Int32) (200 : Int32)) (c_16 : ¬ r_13 = 0) (w_18 : r_17 = bIn xn (1 : Int32) (9 : Int32)) (c_20 : r_17 = 0) : (-2 : Int32) = rPiece num xk xf xv xs xn := by
  grind [bIn, rPiece, sNum]
set_option maxHeartbeats 1000000 in
theorem pf_X3_piece_30 (num : Int32) (p3 : Nat → Int32) (sf : Nat → Int32) (xk : Int32) (xf : Int32) (xv : Int32) (xs : Int32) (xn : Int32) (r_1 : Int32) (r_5 : Int32) (r_9 : Int32) (r_13 : Int32) (r_17 : Int32) (hn0 : 0 ≤ num) (hn1 : num ≤ 10) (hz : okSz p3) (hr0 : okRow sf num) (w_2 : r_1 = bIn xk (0 : Int32) (3 : Int32)) (c_4 : ¬ r_1 = 0) (w_6 : r_5 = bIn xf (0 : Int32) (5 : Int32)) (c_8 : ¬ r_5 = 0) (w_10 : r_9 = bIn xs (0 : Int32) (2 : Int32)) (c_12 : ¬ r_9 = 0) (w_14 : r_13 = bIn xv (1 : Int32) (200 : Int32)) (c_16 : ¬ r_13 = 0) (w_18 : r_17 = bIn xn (1 : Int32) (9 : Int32)) (c_20 : r_17 = 0) : num = sNum num xk xf xv xs xn := by
  grind [bIn, rPiece, sNum]
set_option maxHeartbeats 1000000 in
theorem pf_X3_piece_31 (num : Int32) (p3 : Nat → Int32) (sf : Nat → Int32) (xk : Int32) (xf : Int32) (xv : Int32) (xs : Int32) (xn : Int32) (r_1 : Int32) (r_5 : Int32) (r_9 : Int32) (r_13 : Int32) (r_17 : Int32) (hn0 : 0 ≤ num) (hn1 : num ≤ 10) (hz : okSz p3) (hr0 : okRow sf num) (w_2 : r_1 = bIn xk (0 : Int32) (3 : Int32)) (c_4 : ¬ r_1 = 0) (w_6 : r_5 = bIn xf (0 : Int32) (5 : Int32)) (c_8 : ¬ r_5 = 0) (w_10 : r_9 = bIn xs (0 : Int32) (2 : Int32)) (c_12 : ¬ r_9 = 0) (w_14 : r_13 = bIn xv (1 : Int32) (200 : Int32)) (c_16 : ¬ r_13 = 0) (w_18 : r_17 = bIn xn (1 : Int32) (9 : Int32)) (c_20 : r_17 = 0) : okSz p3 := by
  first
  | (grind [bIn, rPiece, sNum])
  | (first
     | exact hz
     | (have h9 := okSz_upd (j := num.toNatClampNeg) hz (v := xs) (by grind [bIn]) (by grind [bIn])
        grind))
set_option maxHeartbeats 1000000 in
theorem pf_X3_piece_32 (num : Int32) (p3 : Nat → Int32) (sf : Nat → Int32) (xk : Int32) (xf : Int32) (xv : Int32) (xs : Int32) (xn : Int32) (r_1 : Int32) (r_5 : Int32) (r_9 : Int32) (r_13 : Int32) (r_17 : Int32) (hn0 : 0 ≤ num) (hn1 : num ≤ 10) (hz : okSz p3) (hr0 : okRow sf num) (w_2 : r_1 = bIn xk (0 : Int32) (3 : Int32)) (c_4 : ¬ r_1 = 0) (w_6 : r_5 = bIn xf (0 : Int32) (5 : Int32)) (c_8 : ¬ r_5 = 0) (w_10 : r_9 = bIn xs (0 : Int32) (2 : Int32)) (c_12 : ¬ r_9 = 0) (w_14 : r_13 = bIn xv (1 : Int32) (200 : Int32)) (c_16 : ¬ r_13 = 0) (w_18 : r_17 = bIn xn (1 : Int32) (9 : Int32)) (c_20 : r_17 = 0) : okRow sf num := by
  first
  | (grind [bIn, rPiece, sNum])
  | (first
     | exact hr0
     | (have h9 := okRow_app hr0 hn0 (by grind) rfl
        grind))
set_option maxHeartbeats 1000000 in
theorem pf_X3_piece_33 (num : Int32) (p3 : Nat → Int32) (sf : Nat → Int32) (xk : Int32) (xf : Int32) (xv : Int32) (xs : Int32) (xn : Int32) (r_1 : Int32) (r_5 : Int32) (r_9 : Int32) (r_13 : Int32) (r_17 : Int32) (hn0 : 0 ≤ num) (hn1 : num ≤ 10) (hz : okSz p3) (hr0 : okRow sf num) (w_2 : r_1 = bIn xk (0 : Int32) (3 : Int32)) (c_4 : ¬ r_1 = 0) (w_6 : r_5 = bIn xf (0 : Int32) (5 : Int32)) (c_8 : ¬ r_5 = 0) (w_10 : r_9 = bIn xs (0 : Int32) (2 : Int32)) (c_12 : ¬ r_9 = 0) (w_14 : r_13 = bIn xv (1 : Int32) (200 : Int32)) (c_16 : ¬ r_13 = 0) (w_18 : r_17 = bIn xn (1 : Int32) (9 : Int32)) (c_20 : r_17 = 0) : (0 ≤ num ∧ num ≤ 10) := by
  grind [bIn, rPiece, sNum]
set_option maxHeartbeats 1000000 in
theorem pf_X3_piece_34 (num : Int32) (p3 : Nat → Int32) (sf : Nat → Int32) (xk : Int32) (xf : Int32) (xv : Int32) (xs : Int32) (xn : Int32) (r_1 : Int32) (r_5 : Int32) (r_9 : Int32) (hn0 : 0 ≤ num) (hn1 : num ≤ 10) (hz : okSz p3) (hr0 : okRow sf num) (w_2 : r_1 = bIn xk (0 : Int32) (3 : Int32)) (c_4 : ¬ r_1 = 0) (w_6 : r_5 = bIn xf (0 : Int32) (5 : Int32)) (c_8 : ¬ r_5 = 0) (w_10 : r_9 = bIn xs (0 : Int32) (2 : Int32)) (c_12 : r_9 = 0) : (-1 : Int32) = rPiece num xk xf xv xs xn := by
  grind [bIn, rPiece, sNum]
set_option maxHeartbeats 1000000 in
theorem pf_X3_piece_35 (num : Int32) (p3 : Nat → Int32) (sf : Nat → Int32) (xk : Int32) (xf : Int32) (xv : Int32) (xs : Int32) (xn : Int32) (r_1 : Int32) (r_5 : Int32) (r_9 : Int32) (hn0 : 0 ≤ num) (hn1 : num ≤ 10) (hz : okSz p3) (hr0 : okRow sf num) (w_2 : r_1 = bIn xk (0 : Int32) (3 : Int32)) (c_4 : ¬ r_1 = 0) (w_6 : r_5 = bIn xf (0 : Int32) (5 : Int32)) (c_8 : ¬ r_5 = 0) (w_10 : r_9 = bIn xs (0 : Int32) (2 : Int32)) (c_12 : r_9 = 0) : num = sNum num xk xf xv xs xn := by
  grind [bIn, rPiece, sNum]
set_option maxHeartbeats 1000000 in
theorem pf_X3_piece_36 (num : Int32) (p3 : Nat → Int32) (sf : Nat → Int32) (xk : Int32) (xf : Int32) (xs : Int32) (r_1 : Int32) (r_5 : Int32) (r_9 : Int32) (hn0 : 0 ≤ num) (hn1 : num ≤ 10) (hz : okSz p3) (hr0 : okRow sf num) (w_2 : r_1 = bIn xk (0 : Int32) (3 : Int32)) (c_4 : ¬ r_1 = 0) (w_6 : r_5 = bIn xf (0 : Int32) (5 : Int32)) (c_8 : ¬ r_5 = 0) (w_10 : r_9 = bIn xs (0 : Int32) (2 : Int32)) (c_12 : r_9 = 0) : okSz p3 := by
  first
  | (grind [bIn, rPiece, sNum])
  | (first
     | exact hz
     | (have h9 := okSz_upd (j := num.toNatClampNeg) hz (v := xs) (by grind [bIn]) (by grind [bIn])
        grind))
set_option maxHeartbeats 1000000 in
theorem pf_X3_piece_37 (num : Int32) (p3 : Nat → Int32) (sf : Nat → Int32) (xk : Int32) (xf : Int32) (xs : Int32) (r_1 : Int32) (r_5 : Int32) (r_9 : Int32) (hn0 : 0 ≤ num) (hn1 : num ≤ 10) (hz : okSz p3) (hr0 : okRow sf num) (w_2 : r_1 = bIn xk (0 : Int32) (3 : Int32)) (c_4 : ¬ r_1 = 0) (w_6 : r_5 = bIn xf (0 : Int32) (5 : Int32)) (c_8 : ¬ r_5 = 0) (w_10 : r_9 = bIn xs (0 : Int32) (2 : Int32)) (c_12 : r_9 = 0) : okRow sf num := by
  first
  | (grind [bIn, rPiece, sNum])
  | (first
     | exact hr0
     | (have h9 := okRow_app hr0 hn0 (by grind) rfl
        grind))
set_option maxHeartbeats 1000000 in
theorem pf_X3_piece_38 (num : Int32) (p3 : Nat → Int32) (sf : Nat → Int32) (xk : Int32) (xf : Int32) (xs : Int32) (r_1 : Int32) (r_5 : Int32) (r_9 : Int32) (hn0 : 0 ≤ num) (hn1 : num ≤ 10) (hz : okSz p3) (hr0 : okRow sf num) (w_2 : r_1 = bIn xk (0 : Int32) (3 : Int32)) (c_4 : ¬ r_1 = 0) (w_6 : r_5 = bIn xf (0 : Int32) (5 : Int32)) (c_8 : ¬ r_5 = 0) (w_10 : r_9 = bIn xs (0 : Int32) (2 : Int32)) (c_12 : r_9 = 0) : (0 ≤ num ∧ num ≤ 10) := by
  grind [bIn, rPiece, sNum]
set_option maxHeartbeats 4000000 in
set_option maxRecDepth 100000 in
theorem c_X3_piece (l : Launch) (D : va_G) (cI cQ : ClassId) (sz : Nat) (x : Nat) (pi : Nat) (k0 : Nat) (k1 : Nat) (k2 : Nat) (k3 : Nat) (k4 : Nat) (sq : Nat) (s0 : Nat) (cu : Nat) (fo : Nat) (bo : Nat) (gl : Int32) (td : Int32) (le : Int32) (k5 : Nat) (k6 : Nat) (k7 : Nat) (num : Int32) (p0 : Nat → Int32) (p1 : Nat → Int32) (p2 : Nat → Int32) (p3 : Nat → Int32) (p4 : Nat → Int32) (sf : Nat → Int32) (xk : Int32) (xf : Int32) (xv : Int32) (xs : Int32) (xn : Int32) (hn0 : 0 ≤ num) (hn1 : num ≤ 10) (hz : okSz p3) (hr0 : okRow sf num) : CtI l yX3_piece wsX3_piece 1 26 0 0 [.ref x, .int xk, .int xf, .int xv, .int xs, .int xn] D [(cI, .int), (cQ, .array .int)] [(x, .inr (3, [.ref cu, .ref pi, .ref sq, .ref fo, .ref bo, .int gl, .int td, .int le])), (pi, .inr (1, [.ref k0, .ref k1, .ref k2, .ref k3, .ref k4, .ref k5, .ref k6, .ref k7, .int num])), (k0, .inl (cI, 10, .inl p0)), (k1, .inl (cI, 10, .inl p1)), (k2, .inl (cI, 10, .inl p2)), (k3, .inl (cI, 10, .inl p3)), (k4, .inl (cI, 10, .inl p4)), (sq, .inr (2, [.ref s0, .int num])), (s0, .inl (cI, 10, .inl sf))] sz (fun (r : Int32) (u : Int32 × (Nat → Int32) × (Nat → Int32) × (Nat → Int32) × (Nat → Int32) × (Nat → Int32) × (Nat → Int32)) => r = rPiece num xk xf xv xs xn ∧ u.1 = sNum num xk xf xv xs xn ∧ okSz u.2.2.2.2.2.1 ∧ okRow u.2.1 u.1 ∧ (0 ≤ u.1 ∧ u.1 ≤ 10)) (fun (u : Int32 × (Nat → Int32) × (Nat → Int32) × (Nat → Int32) × (Nat → Int32) × (Nat → Int32) × (Nat → Int32)) => [(x, .inr (3, [.ref cu, .ref pi, .ref sq, .ref fo, .ref bo, .int gl, .int td, .int le])), (pi, .inr (1, [.ref k0, .ref k1, .ref k2, .ref k3, .ref k4, .ref k5, .ref k6, .ref k7, .int u.1])), (k0, .inl (cI, 10, .inl u.2.2.1)), (k1, .inl (cI, 10, .inl u.2.2.2.1)), (k2, .inl (cI, 10, .inl u.2.2.2.2.1)), (k3, .inl (cI, 10, .inl u.2.2.2.2.2.1)), (k4, .inl (cI, 10, .inl u.2.2.2.2.2.2)), (sq, .inr (2, [.ref s0, .int u.1])), (s0, .inl (cI, 10, .inl u.2.1))]) := by
  refine Met.ofW (cc := cX3_piece) (maxL := 6) (ret := (some .int)) (by decide) rfl ?_
  intro p e s m args below meth c s₁ B hml hv
  obtain ⟨rfl, hsz, hP, hK, hD0, hN⟩ := hv
  have hx := B.exec
  have hb := B.bytes
  have hr := B.returns
  have hts := atoms_spec (ws := wsX3_piece) B.pre
  have hown : s.vm.findClass RX3 = some m.cls := findClass_of_methodNamed B.named
  have hlocks := B.notSynchronized
  subst hsz
  have hD := hD0.self (sz := s.heap.size)
  generalize hAe : va_A [(x, .inr (3, [.ref cu, .ref pi, .ref sq, .ref fo, .ref bo, .int gl, .int td, .int le])), (pi, .inr (1, [.ref k0, .ref k1, .ref k2, .ref k3, .ref k4, .ref k5, .ref k6, .ref k7, .int num])), (k0, .inl (cI, 10, .inl p0)), (k1, .inl (cI, 10, .inl p1)), (k2, .inl (cI, 10, .inl p2)), (k3, .inl (cI, 10, .inl p3)), (k4, .inl (cI, 10, .inl p4)), (sq, .inr (2, [.ref s0, .int num])), (s0, .inl (cI, 10, .inl sf))] s.heap.size = A at hD ⊢
  have hA : ∀ q : Nat, s.heap.size ≤ q → A q := fun q h => by rw [← hAe]; exact Or.inr h
  have hS : va_S A s.heap s.heap [] := va_S.rf
  have hl := lv_entry ([.ref x, .int xk, .int xf, .int xv, .int xs, .int xn]) (n := 6) (Nat.le_of_ble_eq_true rfl)
  rw [lg_entry_eq]
  generalize (lg_sl ([.ref x, .int xk, .int xf, .int xv, .int xs, .int xn]) ++ List.replicate (6 - (lg_sl ([.ref x, .int xk, .int xf, .int xv, .int xs, .int xn])).length) Slot.unset).toArray = ls at hl ⊢
  have hl : lv_has ls 6 [(0, .ref x), (1, .int xk), (2, .int xf), (3, .int xv), (4, .int xs), (5, .int xn)] := hl
  have hP0 := hP
  refine lv_iload_n hx hb dX3_piece_0 rfl (lv_at hl 1 rfl) ?_
  refine lv_iconst (v := 0) hx hb dX3_piece_1 (by decide) ?_
  refine lv_iconst (v := 3) hx hb dX3_piece_2 (by decide) ?_
  refine cc_i (wc := []) (wr := [(x, .inr (3, [.ref cu, .ref pi, .ref sq, .ref fo, .ref bo, .int gl, .int td, .int le])), (pi, .inr (1, [.ref k0, .ref k1, .ref k2, .ref k3, .ref k4, .ref k5, .ref k6, .ref k7, .int num])), (k0, .inl (cI, 10, .inl p0)), (k1, .inl (cI, 10, .inl p1)), (k2, .inl (cI, 10, .inl p2)), (k3, .inl (cI, 10, .inl p3)), (k4, .inl (cI, 10, .inl p4)), (sq, .inr (2, [.ref s0, .int num])), (s0, .inl (cI, 10, .inl sf))]) (va_runS (As := [.int xk, .int 0, .int 3]) (rest := []) ⟨hx, hb, hml, hown, hts⟩ (c_X3_isIn l D cI cQ s.heap.size xk 0 3 ) (va_cwS 3 hts gX3_piece_X3_isIn rfl rfl rfl (by decide +kernel) ⟨Nat.le_of_ble_eq_true rfl, Nat.le_of_ble_eq_true rfl⟩) (preS (wc := []) hK hP hD hN [] rfl (by decide)) rfl rfl hl.1 rfl (lv_room (Nat.le_of_ble_eq_true rfl)) dX3_piece_3 ⟨Nat.le_of_ble_eq_true rfl, Nat.le_of_ble_eq_true rfl⟩) hP hD hS hA [] [0, 1, 2, 3, 4, 5, 6, 7, 8] rfl rfl (by decide) (by decide) (fun r_1 u H locs w_2 hP hD hS => ?_)
  have hP : va_P D vwCl [(x, .inr (3, [.ref cu, .ref pi, .ref sq, .ref fo, .ref bo, .int gl, .int td, .int le])), (pi, .inr (1, [.ref k0, .ref k1, .ref k2, .ref k3, .ref k4, .ref k5, .ref k6, .ref k7, .int num])), (k0, .inl (cI, 10, .inl p0)), (k1, .inl (cI, 10, .inl p1)), (k2, .inl (cI, 10, .inl p2)), (k3, .inl (cI, 10, .inl p3)), (k4, .inl (cI, 10, .inl p4)), (sq, .inr (2, [.ref s0, .int num])), (s0, .inl (cI, 10, .inl sf))] H := hP
  have hD : va_D A [(x, .inr (3, [.ref cu, .ref pi, .ref sq, .ref fo, .ref bo, .int gl, .int td, .int le])), (pi, .inr (1, [.ref k0, .ref k1, .ref k2, .ref k3, .ref k4, .ref k5, .ref k6, .ref k7, .int num])), (k0, .inl (cI, 10, .inl p0)), (k1, .inl (cI, 10, .inl p1)), (k2, .inl (cI, 10, .inl p2)), (k3, .inl (cI, 10, .inl p3)), (k4, .inl (cI, 10, .inl p4)), (sq, .inr (2, [.ref s0, .int num])), (s0, .inl (cI, 10, .inl sf))] := hD
  have w_2 : r_1 = bIn xk (0 : Int32) (3 : Int32) := w_2
  refine lv_if_eq (tgt := 28) hx hb dX3_piece_6 (by decide) (fun c_4 => ?_) (fun c_4 => ?_)
  · refine lv_iconst (v := (-1)) hx hb dX3_piece_28 (by decide) ?_
    refine W.widen (k := 0) (n := 0) (Nat.le_of_ble_eq_true rfl) (Nat.le_of_ble_eq_true rfl) ?_
    exact fi_i (num, sf, p0, p1, p2, p3, p4) hx hb hr hlocks hK (hP.sub [0, 1, 2, 3, 4, 5, 6, 7, 8] rfl) (hD.sub [0, 1, 2, 3, 4, 5, 6, 7, 8] (by decide) rfl) hS ⟨(pf_X3_piece_1 num p3 sf xk xf xv xs xn r_1 hn0 hn1 hz hr0 w_2 c_4), (pf_X3_piece_2 num p3 sf xk xf xv xs xn r_1 hn0 hn1 hz hr0 w_2 c_4), (pf_X3_piece_3 num p3 sf xk r_1 hn0 hn1 hz hr0 w_2 c_4), (pf_X3_piece_4 num p3 sf xk r_1 hn0 hn1 hz hr0 w_2 c_4), (pf_X3_piece_5 num p3 sf xk r_1 hn0 hn1 hz hr0 w_2 c_4)⟩ dX3_piece_29
  · refine lv_iload_n hx hb dX3_piece_9 rfl (lv_at hl 2 rfl) ?_
    refine lv_iconst (v := 0) hx hb dX3_piece_10 (by decide) ?_
    refine lv_iconst (v := 5) hx hb dX3_piece_11 (by decide) ?_
    refine cc_i (wc := []) (wr := [(x, .inr (3, [.ref cu, .ref pi, .ref sq, .ref fo, .ref bo, .int gl, .int td, .int le])), (pi, .inr (1, [.ref k0, .ref k1, .ref k2, .ref k3, .ref k4, .ref k5, .ref k6, .ref k7, .int num])), (k0, .inl (cI, 10, .inl p0)), (k1, .inl (cI, 10, .inl p1)), (k2, .inl (cI, 10, .inl p2)), (k3, .inl (cI, 10, .inl p3)), (k4, .inl (cI, 10, .inl p4)), (sq, .inr (2, [.ref s0, .int num])), (s0, .inl (cI, 10, .inl sf))]) (va_runS (As := [.int xf, .int 0, .int 5]) (rest := []) ⟨hx, hb, hml, hown, hts⟩ (c_X3_isIn l D cI cQ H.size xf 0 5 ) (va_cwS 3 hts gX3_piece_X3_isIn rfl rfl rfl (by decide +kernel) ⟨Nat.le_of_ble_eq_true rfl, Nat.le_of_ble_eq_true rfl⟩) (preS (wc := []) hK hP hD hN [] rfl (by decide)) rfl rfl hl.1 rfl (lv_room (Nat.le_of_ble_eq_true rfl)) dX3_piece_12 ⟨Nat.le_of_ble_eq_true rfl, Nat.le_of_ble_eq_true rfl⟩) hP hD hS hA [] [0, 1, 2, 3, 4, 5, 6, 7, 8] rfl rfl (by decide) (by decide) (fun r_5 u H locs w_6 hP hD hS => ?_)
    have hP : va_P D vwCl [(x, .inr (3, [.ref cu, .ref pi, .ref sq, .ref fo, .ref bo, .int gl, .int td, .int le])), (pi, .inr (1, [.ref k0, .ref k1, .ref k2, .ref k3, .ref k4, .ref k5, .ref k6, .ref k7, .int num])), (k0, .inl (cI, 10, .inl p0)), (k1, .inl (cI, 10, .inl p1)), (k2, .inl (cI, 10, .inl p2)), (k3, .inl (cI, 10, .inl p3)), (k4, .inl (cI, 10, .inl p4)), (sq, .inr (2, [.ref s0, .int num])), (s0, .inl (cI, 10, .inl sf))] H := hP
    have hD : va_D A [(x, .inr (3, [.ref cu, .ref pi, .ref sq, .ref fo, .ref bo, .int gl, .int td, .int le])), (pi, .inr (1, [.ref k0, .ref k1, .ref k2, .ref k3, .ref k4, .ref k5, .ref k6, .ref k7, .int num])), (k0, .inl (cI, 10, .inl p0)), (k1, .inl (cI, 10, .inl p1)), (k2, .inl (cI, 10, .inl p2)), (k3, .inl (cI, 10, .inl p3)), (k4, .inl (cI, 10, .inl p4)), (sq, .inr (2, [.ref s0, .int num])), (s0, .inl (cI, 10, .inl sf))] := hD
    have w_6 : r_5 = bIn xf (0 : Int32) (5 : Int32) := w_6
    refine lv_if_eq (tgt := 28) hx hb dX3_piece_15 (by decide) (fun c_8 => ?_) (fun c_8 => ?_)
    · refine lv_iconst (v := (-1)) hx hb dX3_piece_28 (by decide) ?_
      refine W.widen (k := 0) (n := 0) (Nat.le_of_ble_eq_true rfl) (Nat.le_of_ble_eq_true rfl) ?_
      exact fi_i (num, sf, p0, p1, p2, p3, p4) hx hb hr hlocks hK (hP.sub [0, 1, 2, 3, 4, 5, 6, 7, 8] rfl) (hD.sub [0, 1, 2, 3, 4, 5, 6, 7, 8] (by decide) rfl) hS ⟨(pf_X3_piece_6 num p3 sf xk xf xv xs xn r_1 r_5 hn0 hn1 hz hr0 w_2 c_4 w_6 c_8), (pf_X3_piece_7 num p3 sf xk xf xv xs xn r_1 r_5 hn0 hn1 hz hr0 w_2 c_4 w_6 c_8), (pf_X3_piece_8 num p3 sf xk xf r_1 r_5 hn0 hn1 hz hr0 w_2 c_4 w_6 c_8), (pf_X3_piece_9 num p3 sf xk xf r_1 r_5 hn0 hn1 hz hr0 w_2 c_4 w_6 c_8), (pf_X3_piece_10 num p3 sf xk xf r_1 r_5 hn0 hn1 hz hr0 w_2 c_4 w_6 c_8)⟩ dX3_piece_29
    · refine lv_iload hx hb dX3_piece_18 (lv_at hl 4 rfl) ?_
      refine lv_iconst (v := 0) hx hb dX3_piece_20 (by decide) ?_
      refine lv_iconst (v := 2) hx hb dX3_piece_21 (by decide) ?_
      refine cc_i (wc := []) (wr := [(x, .inr (3, [.ref cu, .ref pi, .ref sq, .ref fo, .ref bo, .int gl, .int td, .int le])), (pi, .inr (1, [.ref k0, .ref k1, .ref k2, .ref k3, .ref k4, .ref k5, .ref k6, .ref k7, .int num])), (k0, .inl (cI, 10, .inl p0)), (k1, .inl (cI, 10, .inl p1)), (k2, .inl (cI, 10, .inl p2)), (k3, .inl (cI, 10, .inl p3)), (k4, .inl (cI, 10, .inl p4)), (sq, .inr (2, [.ref s0, .int num])), (s0, .inl (cI, 10, .inl sf))]) (va_runS (As := [.int xs, .int 0, .int 2]) (rest := []) ⟨hx, hb, hml, hown, hts⟩ (c_X3_isIn l D cI cQ H.size xs 0 2 ) (va_cwS 3 hts gX3_piece_X3_isIn rfl rfl rfl (by decide +kernel) ⟨Nat.le_of_ble_eq_true rfl, Nat.le_of_ble_eq_true rfl⟩) (preS (wc := []) hK hP hD hN [] rfl (by decide)) rfl rfl hl.1 rfl (lv_room (Nat.le_of_ble_eq_true rfl)) dX3_piece_22 ⟨Nat.le_of_ble_eq_true rfl, Nat.le_of_ble_eq_true rfl⟩) hP hD hS hA [] [0, 1, 2, 3, 4, 5, 6, 7, 8] rfl rfl (by decide) (by decide) (fun r_9 u H locs w_10 hP hD hS => ?_)
      have hP : va_P D vwCl [(x, .inr (3, [.ref cu, .ref pi, .ref sq, .ref fo, .ref bo, .int gl, .int td, .int le])), (pi, .inr (1, [.ref k0, .ref k1, .ref k2, .ref k3, .ref k4, .ref k5, .ref k6, .ref k7, .int num])), (k0, .inl (cI, 10, .inl p0)), (k1, .inl (cI, 10, .inl p1)), (k2, .inl (cI, 10, .inl p2)), (k3, .inl (cI, 10, .inl p3)), (k4, .inl (cI, 10, .inl p4)), (sq, .inr (2, [.ref s0, .int num])), (s0, .inl (cI, 10, .inl sf))] H := hP
      have hD : va_D A [(x, .inr (3, [.ref cu, .ref pi, .ref sq, .ref fo, .ref bo, .int gl, .int td, .int le])), (pi, .inr (1, [.ref k0, .ref k1, .ref k2, .ref k3, .ref k4, .ref k5, .ref k6, .ref k7, .int num])), (k0, .inl (cI, 10, .inl p0)), (k1, .inl (cI, 10, .inl p1)), (k2, .inl (cI, 10, .inl p2)), (k3, .inl (cI, 10, .inl p3)), (k4, .inl (cI, 10, .inl p4)), (sq, .inr (2, [.ref s0, .int num])), (s0, .inl (cI, 10, .inl sf))] := hD
      have w_10 : r_9 = bIn xs (0 : Int32) (2 : Int32) := w_10
      refine lv_if_ne (tgt := 30) hx hb dX3_piece_25 (by decide) (fun c_12 => ?_) (fun c_12 => ?_)
      · refine lv_iload_n hx hb dX3_piece_30 rfl (lv_at hl 3 rfl) ?_
        refine lv_iconst (v := 1) hx hb dX3_piece_31 (by decide) ?_
        refine lv_sipush (v := 200) hx hb dX3_piece_32 (by decide) ?_
        refine cc_i (wc := []) (wr := [(x, .inr (3, [.ref cu, .ref pi, .ref sq, .ref fo, .ref bo, .int gl, .int td, .int le])), (pi, .inr (1, [.ref k0, .ref k1, .ref k2, .ref k3, .ref k4, .ref k5, .ref k6, .ref k7, .int num])), (k0, .inl (cI, 10, .inl p0)), (k1, .inl (cI, 10, .inl p1)), (k2, .inl (cI, 10, .inl p2)), (k3, .inl (cI, 10, .inl p3)), (k4, .inl (cI, 10, .inl p4)), (sq, .inr (2, [.ref s0, .int num])), (s0, .inl (cI, 10, .inl sf))]) (va_runS (As := [.int xv, .int 1, .int 200]) (rest := []) ⟨hx, hb, hml, hown, hts⟩ (c_X3_isIn l D cI cQ H.size xv 1 200 ) (va_cwS 3 hts gX3_piece_X3_isIn rfl rfl rfl (by decide +kernel) ⟨Nat.le_of_ble_eq_true rfl, Nat.le_of_ble_eq_true rfl⟩) (preS (wc := []) hK hP hD hN [] rfl (by decide)) rfl rfl hl.1 rfl (lv_room (Nat.le_of_ble_eq_true rfl)) dX3_piece_35 ⟨Nat.le_of_ble_eq_true rfl, Nat.le_of_ble_eq_true rfl⟩) hP hD hS hA [] [0, 1, 2, 3, 4, 5, 6, 7, 8] rfl rfl (by decide) (by decide) (fun r_13 u H locs w_14 hP hD hS => ?_)
        have hP : va_P D vwCl [(x, .inr (3, [.ref cu, .ref pi, .ref sq, .ref fo, .ref bo, .int gl, .int td, .int le])), (pi, .inr (1, [.ref k0, .ref k1, .ref k2, .ref k3, .ref k4, .ref k5, .ref k6, .ref k7, .int num])), (k0, .inl (cI, 10, .inl p0)), (k1, .inl (cI, 10, .inl p1)), (k2, .inl (cI, 10, .inl p2)), (k3, .inl (cI, 10, .inl p3)), (k4, .inl (cI, 10, .inl p4)), (sq, .inr (2, [.ref s0, .int num])), (s0, .inl (cI, 10, .inl sf))] H := hP
        have hD : va_D A [(x, .inr (3, [.ref cu, .ref pi, .ref sq, .ref fo, .ref bo, .int gl, .int td, .int le])), (pi, .inr (1, [.ref k0, .ref k1, .ref k2, .ref k3, .ref k4, .ref k5, .ref k6, .ref k7, .int num])), (k0, .inl (cI, 10, .inl p0)), (k1, .inl (cI, 10, .inl p1)), (k2, .inl (cI, 10, .inl p2)), (k3, .inl (cI, 10, .inl p3)), (k4, .inl (cI, 10, .inl p4)), (sq, .inr (2, [.ref s0, .int num])), (s0, .inl (cI, 10, .inl sf))] := hD
        have w_14 : r_13 = bIn xv (1 : Int32) (200 : Int32) := w_14
        refine lv_if_eq (tgt := 52) hx hb dX3_piece_38 (by decide) (fun c_16 => ?_) (fun c_16 => ?_)
        · refine lv_bipush (v := (-2)) hx hb dX3_piece_52 (by decide) ?_
          refine W.widen (k := 0) (n := 0) (Nat.le_of_ble_eq_true rfl) (Nat.le_of_ble_eq_true rfl) ?_
          exact fi_i (num, sf, p0, p1, p2, p3, p4) hx hb hr hlocks hK (hP.sub [0, 1, 2, 3, 4, 5, 6, 7, 8] rfl) (hD.sub [0, 1, 2, 3, 4, 5, 6, 7, 8] (by decide) rfl) hS ⟨(pf_X3_piece_11 num p3 sf xk xf xv xs xn r_1 r_5 r_9 r_13 hn0 hn1 hz hr0 w_2 c_4 w_6 c_8 w_10 c_12 w_14 c_16), (pf_X3_piece_12 num p3 sf xk xf xv xs xn r_1 r_5 r_9 r_13 hn0 hn1 hz hr0 w_2 c_4 w_6 c_8 w_10 c_12 w_14 c_16), (pf_X3_piece_13 num p3 sf xk xf xv xs r_1 r_5 r_9 r_13 hn0 hn1 hz hr0 w_2 c_4 w_6 c_8 w_10 c_12 w_14 c_16), (pf_X3_piece_14 num p3 sf xk xf xv xs r_1 r_5 r_9 r_13 hn0 hn1 hz hr0 w_2 c_4 w_6 c_8 w_10 c_12 w_14 c_16), (pf_X3_piece_15 num p3 sf xk xf xv xs r_1 r_5 r_9 r_13 hn0 hn1 hz hr0 w_2 c_4 w_6 c_8 w_10 c_12 w_14 c_16)⟩ dX3_piece_54
        · refine lv_iload hx hb dX3_piece_41 (lv_at hl 5 rfl) ?_
          refine lv_iconst (v := 1) hx hb dX3_piece_43 (by decide) ?_
          refine lv_bipush (v := 9) hx hb dX3_piece_44 (by decide) ?_
          refine cc_i (wc := []) (wr := [(x, .inr (3, [.ref cu, .ref pi, .ref sq, .ref fo, .ref bo, .int gl, .int td, .int le])), (pi, .inr (1, [.ref k0, .ref k1, .ref k2, .ref k3, .ref k4, .ref k5, .ref k6, .ref k7, .int num])), (k0, .inl (cI, 10, .inl p0)), (k1, .inl (cI, 10, .inl p1)), (k2, .inl (cI, 10, .inl p2)), (k3, .inl (cI, 10, .inl p3)), (k4, .inl (cI, 10, .inl p4)), (sq, .inr (2, [.ref s0, .int num])), (s0, .inl (cI, 10, .inl sf))]) (va_runS (As := [.int xn, .int 1, .int 9]) (rest := []) ⟨hx, hb, hml, hown, hts⟩ (c_X3_isIn l D cI cQ H.size xn 1 9 ) (va_cwS 3 hts gX3_piece_X3_isIn rfl rfl rfl (by decide +kernel) ⟨Nat.le_of_ble_eq_true rfl, Nat.le_of_ble_eq_true rfl⟩) (preS (wc := []) hK hP hD hN [] rfl (by decide)) rfl rfl hl.1 rfl (lv_room (Nat.le_of_ble_eq_true rfl)) dX3_piece_46 ⟨Nat.le_of_ble_eq_true rfl, Nat.le_of_ble_eq_true rfl⟩) hP hD hS hA [] [0, 1, 2, 3, 4, 5, 6, 7, 8] rfl rfl (by decide) (by decide) (fun r_17 u H locs w_18 hP hD hS => ?_)
          have hP : va_P D vwCl [(x, .inr (3, [.ref cu, .ref pi, .ref sq, .ref fo, .ref bo, .int gl, .int td, .int le])), (pi, .inr (1, [.ref k0, .ref k1, .ref k2, .ref k3, .ref k4, .ref k5, .ref k6, .ref k7, .int num])), (k0, .inl (cI, 10, .inl p0)), (k1, .inl (cI, 10, .inl p1)), (k2, .inl (cI, 10, .inl p2)), (k3, .inl (cI, 10, .inl p3)), (k4, .inl (cI, 10, .inl p4)), (sq, .inr (2, [.ref s0, .int num])), (s0, .inl (cI, 10, .inl sf))] H := hP
          have hD : va_D A [(x, .inr (3, [.ref cu, .ref pi, .ref sq, .ref fo, .ref bo, .int gl, .int td, .int le])), (pi, .inr (1, [.ref k0, .ref k1, .ref k2, .ref k3, .ref k4, .ref k5, .ref k6, .ref k7, .int num])), (k0, .inl (cI, 10, .inl p0)), (k1, .inl (cI, 10, .inl p1)), (k2, .inl (cI, 10, .inl p2)), (k3, .inl (cI, 10, .inl p3)), (k4, .inl (cI, 10, .inl p4)), (sq, .inr (2, [.ref s0, .int num])), (s0, .inl (cI, 10, .inl sf))] := hD
          have w_18 : r_17 = bIn xn (1 : Int32) (9 : Int32) := w_18
          refine lv_if_ne (tgt := 55) hx hb dX3_piece_49 (by decide) (fun c_20 => ?_) (fun c_20 => ?_)
          · refine lv_aload_n hx hb dX3_piece_55 rfl (lv_at hl 0 rfl) ?_
            refine va_get (D := D) (ci := 3) (v := .ref pi) (C := RX3) (T := TX3) (N := 8) hx hb hts iw_X3_piece_3 hown hK hP 0 rfl rfl 1 (by decide) (hts _ wd_X3_piece_1) (fun _ h9 => h9) rfl dX3_piece_56 ?_
            refine va_getN (D := D) (ci := 1) (v := .int num) (C := RX1) (T := TX1) (N := 9) hx hb hts iw_X3_piece_1 hown hK hP 1 rfl rfl 8 (by decide) (va_Nw.use rfl (nwF_53 hN)) (fun _ h9 => h9) rfl dX3_piece_59 ?_
            refine lv_bipush (v := 10) hx hb dX3_piece_62 (by decide) ?_
            refine lv_icmp_lt (tgt := 70) hx hb dX3_piece_64 (by decide) (fun c_21 => ?_) (fun c_21 => ?_)
            · refine lv_aload_n hx hb dX3_piece_70 rfl (lv_at hl 0 rfl) ?_
              refine va_get (D := D) (ci := 3) (v := .ref sq) (C := RX3) (T := TX3) (N := 8) hx hb hts iw_X3_piece_3 hown hK hP 0 rfl rfl 2 (by decide) (hts _ wd_X3_piece_2) (fun _ h9 => h9) rfl dX3_piece_71 ?_
              refine lv_aload_n hx hb dX3_piece_74 rfl (lv_at hl 0 rfl) ?_
              refine va_get (D := D) (ci := 3) (v := .ref pi) (C := RX3) (T := TX3) (N := 8) hx hb hts iw_X3_piece_3 hown hK hP 0 rfl rfl 1 (by decide) (hts _ wd_X3_piece_1) (fun _ h9 => h9) rfl dX3_piece_75 ?_
              refine va_getN (D := D) (ci := 1) (v := .int num) (C := RX1) (T := TX1) (N := 9) hx hb hts iw_X3_piece_1 hown hK hP 1 rfl rfl 8 (by decide) (va_Nw.use rfl (nwF_53 hN)) (fun _ h9 => h9) rfl dX3_piece_78 ?_
              refine cc_v (wc := [(sq, .inr (2, [.ref s0, .int num])), (s0, .inl (cI, 10, .inl sf))]) (wr := [(x, .inr (3, [.ref cu, .ref pi, .ref sq, .ref fo, .ref bo, .int gl, .int td, .int le])), (pi, .inr (1, [.ref k0, .ref k1, .ref k2, .ref k3, .ref k4, .ref k5, .ref k6, .ref k7, .int num])), (k0, .inl (cI, 10, .inl p0)), (k1, .inl (cI, 10, .inl p1)), (k2, .inl (cI, 10, .inl p2)), (k3, .inl (cI, 10, .inl p3)), (k4, .inl (cI, 10, .inl p4))]) (va_runVN (As := [.int num]) (rest := []) ⟨hx, hb, hml, hown, hts⟩ (c_X2_append l D cI cQ H.size sq s0 num sf num (pf_X3_piece_16 num p3 sf xk xf xv xs xn r_1 r_5 r_9 r_13 r_17 hn0 hn1 hz hr0 w_2 c_4 w_6 c_8 w_10 c_12 w_14 c_16 w_18 c_20 c_21)) ⟨va_cnB 1 hts gX3_piece_X2_append_n56 rfl rfl rfl (nwM_56 hN) (hts _ wd_X3_piece_8) (by decide +kernel) ⟨Nat.le_of_ble_eq_true rfl, Nat.le_of_ble_eq_true rfl⟩, (hts _ wd_X3_piece_7), (hts _ wd_X3_piece_9)⟩ (preV (wc := [(sq, .inr (2, [.ref s0, .int num])), (s0, .inl (cI, 10, .inl sf))]) (ci := 2) (q0 := 7) hK hP hD hN [7, 8] rfl (by decide) rfl rfl) rfl rfl hl.1 rfl (lv_room (Nat.le_of_ble_eq_true rfl)) dX3_piece_81 ⟨Nat.le_of_ble_eq_true rfl, Nat.le_of_ble_eq_true rfl⟩) hP hD hS hA [7, 8] [0, 1, 2, 3, 4, 5, 6] rfl rfl (by decide) (by decide) (fun u H locs w_23 hP hD hS => ?_)
              obtain ⟨ln2_24, f2_25⟩ := u
              have hP : va_P D vwCl [(x, .inr (3, [.ref cu, .ref pi, .ref sq, .ref fo, .ref bo, .int gl, .int td, .int le])), (pi, .inr (1, [.ref k0, .ref k1, .ref k2, .ref k3, .ref k4, .ref k5, .ref k6, .ref k7, .int num])), (k0, .inl (cI, 10, .inl p0)), (k1, .inl (cI, 10, .inl p1)), (k2, .inl (cI, 10, .inl p2)), (k3, .inl (cI, 10, .inl p3)), (k4, .inl (cI, 10, .inl p4)), (sq, .inr (2, [.ref s0, .int ln2_24])), (s0, .inl (cI, 10, .inl f2_25))] H := hP
              have hD : va_D A [(x, .inr (3, [.ref cu, .ref pi, .ref sq, .ref fo, .ref bo, .int gl, .int td, .int le])), (pi, .inr (1, [.ref k0, .ref k1, .ref k2, .ref k3, .ref k4, .ref k5, .ref k6, .ref k7, .int num])), (k0, .inl (cI, 10, .inl p0)), (k1, .inl (cI, 10, .inl p1)), (k2, .inl (cI, 10, .inl p2)), (k3, .inl (cI, 10, .inl p3)), (k4, .inl (cI, 10, .inl p4)), (sq, .inr (2, [.ref s0, .int ln2_24])), (s0, .inl (cI, 10, .inl f2_25))] := hD
              have w_23 : ln2_24 = (if 10 ≤ num then num else num + 1) ∧ f2_25 = (if 10 ≤ num then sf else upd sf num.toNatClampNeg num) := w_23
              obtain ⟨h_26, h_27⟩ := w_23
              refine lv_aload_n hx hb dX3_piece_84 rfl (lv_at hl 0 rfl) ?_
              refine va_get (D := D) (ci := 3) (v := .ref pi) (C := RX3) (T := TX3) (N := 8) hx hb hts iw_X3_piece_3 hown hK hP 0 rfl rfl 1 (by decide) (hts _ wd_X3_piece_1) (fun _ h9 => h9) rfl dX3_piece_85 ?_
              refine lv_iload_n hx hb dX3_piece_88 rfl (lv_at hl 1 rfl) ?_
              refine lv_iload_n hx hb dX3_piece_89 rfl (lv_at hl 2 rfl) ?_
              refine lv_iload_n hx hb dX3_piece_90 rfl (lv_at hl 3 rfl) ?_
              refine lv_iload hx hb dX3_piece_91 (lv_at hl 4 rfl) ?_
              refine lv_iload hx hb dX3_piece_93 (lv_at hl 5 rfl) ?_
              refine cc_i (wc := [(pi, .inr (1, [.ref k0, .ref k1, .ref k2, .ref k3, .ref k4, .ref k5, .ref k6, .ref k7, .int num])), (k0, .inl (cI, 10, .inl p0)), (k1, .inl (cI, 10, .inl p1)), (k2, .inl (cI, 10, .inl p2)), (k3, .inl (cI, 10, .inl p3)), (k4, .inl (cI, 10, .inl p4))]) (wr := [(x, .inr (3, [.ref cu, .ref pi, .ref sq, .ref fo, .ref bo, .int gl, .int td, .int le])), (sq, .inr (2, [.ref s0, .int ln2_24])), (s0, .inl (cI, 10, .inl f2_25))]) (va_runVN (As := [.int xk, .int xf, .int xv, .int xs, .int xn]) (rest := []) ⟨hx, hb, hml, hown, hts⟩ (c_X1_add l D cI cQ H.size pi k0 k1 k2 k3 k4 k5 k6 k7 num p0 p1 p2 p3 p4 xk xf xv xs xn (pf_X3_piece_17 num p3 sf xk xf xv xs xn r_1 r_5 r_9 r_13 r_17 ln2_24 f2_25 hn0 hn1 hz hr0 w_2 c_4 w_6 c_8 w_10 c_12 w_14 c_16 w_18 c_20 c_21 h_26 h_27)) ⟨va_cnB 5 hts gX3_piece_X1_add_n60 rfl rfl rfl (nwM_60 hN) (hts _ wd_X3_piece_14) (by decide +kernel) ⟨Nat.le_of_ble_eq_true rfl, Nat.le_of_ble_eq_true rfl⟩, (hts _ wd_X3_piece_13), (hts _ wd_X3_piece_15)⟩ (preV (wc := [(pi, .inr (1, [.ref k0, .ref k1, .ref k2, .ref k3, .ref k4, .ref k5, .ref k6, .ref k7, .int num])), (k0, .inl (cI, 10, .inl p0)), (k1, .inl (cI, 10, .inl p1)), (k2, .inl (cI, 10, .inl p2)), (k3, .inl (cI, 10, .inl p3)), (k4, .inl (cI, 10, .inl p4))]) (ci := 1) (q0 := 1) hK hP hD hN [1, 2, 3, 4, 5, 6] rfl (by decide) rfl rfl) rfl rfl hl.1 rfl (lv_room (Nat.le_of_ble_eq_true rfl)) dX3_piece_95 ⟨Nat.le_of_ble_eq_true rfl, Nat.le_of_ble_eq_true rfl⟩) hP hD hS hA [1, 2, 3, 4, 5, 6] [0, 7, 8] rfl rfl (by decide) (by decide) (fun r_28 u H locs w_29 hP hD hS => ?_)
              obtain ⟨num2_30, q0_31, q1_32, q2_33, q3_34, q4_35⟩ := u
              have hP : va_P D vwCl [(x, .inr (3, [.ref cu, .ref pi, .ref sq, .ref fo, .ref bo, .int gl, .int td, .int le])), (sq, .inr (2, [.ref s0, .int ln2_24])), (s0, .inl (cI, 10, .inl f2_25)), (pi, .inr (1, [.ref k0, .ref k1, .ref k2, .ref k3, .ref k4, .ref k5, .ref k6, .ref k7, .int num2_30])), (k0, .inl (cI, 10, .inl q0_31)), (k1, .inl (cI, 10, .inl q1_32)), (k2, .inl (cI, 10, .inl q2_33)), (k3, .inl (cI, 10, .inl q3_34)), (k4, .inl (cI, 10, .inl q4_35))] H := hP
              have hD : va_D A [(x, .inr (3, [.ref cu, .ref pi, .ref sq, .ref fo, .ref bo, .int gl, .int td, .int le])), (sq, .inr (2, [.ref s0, .int ln2_24])), (s0, .inl (cI, 10, .inl f2_25)), (pi, .inr (1, [.ref k0, .ref k1, .ref k2, .ref k3, .ref k4, .ref k5, .ref k6, .ref k7, .int num2_30])), (k0, .inl (cI, 10, .inl q0_31)), (k1, .inl (cI, 10, .inl q1_32)), (k2, .inl (cI, 10, .inl q2_33)), (k3, .inl (cI, 10, .inl q3_34)), (k4, .inl (cI, 10, .inl q4_35))] := hD
              have w_29 : r_28 = (if 10 ≤ num then -4 else num) ∧ num2_30 = (if 10 ≤ num then num else num + 1) ∧ q0_31 = (if 10 ≤ num then p0 else upd p0 num.toNatClampNeg xk) ∧ q1_32 = (if 10 ≤ num then p1 else upd p1 num.toNatClampNeg xf) ∧ q2_33 = (if 10 ≤ num then p2 else upd p2 num.toNatClampNeg xv) ∧ q3_34 = (if 10 ≤ num then p3 else upd p3 num.toNatClampNeg xs) ∧ q4_35 = (if 10 ≤ num then p4 else upd p4 num.toNatClampNeg xn) := w_29
              obtain ⟨h_36, h_37, h_38, h_39, h_40, h_41, h_42⟩ := w_29
              have e9_43 : ln2_24 = num2_30 := (pf_X3_piece_18 num p0 p1 p2 p3 p4 sf xk xf xv xs xn r_1 r_5 r_9 r_13 r_17 ln2_24 f2_25 num2_30 q0_31 q1_32 q2_33 q3_34 q4_35 r_28 hn0 hn1 hz hr0 w_2 c_4 w_6 c_8 w_10 c_12 w_14 c_16 w_18 c_20 c_21 h_26 h_27 h_36 h_37 h_38 h_39 h_40 h_41 h_42)
              have hP : va_P D vwCl [(x, .inr (3, [.ref cu, .ref pi, .ref sq, .ref fo, .ref bo, .int gl, .int td, .int le])), (sq, .inr (2, [.ref s0, .int num2_30])), (s0, .inl (cI, 10, .inl f2_25)), (pi, .inr (1, [.ref k0, .ref k1, .ref k2, .ref k3, .ref k4, .ref k5, .ref k6, .ref k7, .int num2_30])), (k0, .inl (cI, 10, .inl q0_31)), (k1, .inl (cI, 10, .inl q1_32)), (k2, .inl (cI, 10, .inl q2_33)), (k3, .inl (cI, 10, .inl q3_34)), (k4, .inl (cI, 10, .inl q4_35))] H := by rw [e9_43] at hP; exact hP
              have hD : va_D A [(x, .inr (3, [.ref cu, .ref pi, .ref sq, .ref fo, .ref bo, .int gl, .int td, .int le])), (sq, .inr (2, [.ref s0, .int num2_30])), (s0, .inl (cI, 10, .inl f2_25)), (pi, .inr (1, [.ref k0, .ref k1, .ref k2, .ref k3, .ref k4, .ref k5, .ref k6, .ref k7, .int num2_30])), (k0, .inl (cI, 10, .inl q0_31)), (k1, .inl (cI, 10, .inl q1_32)), (k2, .inl (cI, 10, .inl q2_33)), (k3, .inl (cI, 10, .inl q3_34)), (k4, .inl (cI, 10, .inl q4_35))] := by rw [e9_43] at hD; exact hD
              refine W.widen (k := 0) (n := 0) (Nat.le_of_ble_eq_true rfl) (Nat.le_of_ble_eq_true rfl) ?_
              exact fi_i (num2_30, f2_25, q0_31, q1_32, q2_33, q3_34, q4_35) hx hb hr hlocks hK (hP.sub [0, 3, 4, 5, 6, 7, 8, 1, 2] rfl) (hD.sub [0, 3, 4, 5, 6, 7, 8, 1, 2] (by decide) rfl) hS ⟨(pf_X3_piece_19 num p0 p1 p2 p3 p4 sf xk xf xv xs xn r_1 r_5 r_9 r_13 r_17 ln2_24 f2_25 num2_30 q0_31 q1_32 q2_33 q3_34 q4_35 r_28 hn0 hn1 hz hr0 w_2 c_4 w_6 c_8 w_10 c_12 w_14 c_16 w_18 c_20 c_21 h_26 h_27 h_36 h_37 h_38 h_39 h_40 h_41 h_42), (pf_X3_piece_20 num p0 p1 p2 p3 p4 sf xk xf xv xs xn r_1 r_5 r_9 r_13 r_17 ln2_24 f2_25 num2_30 q0_31 q1_32 q2_33 q3_34 q4_35 r_28 hn0 hn1 hz hr0 w_2 c_4 w_6 c_8 w_10 c_12 w_14 c_16 w_18 c_20 c_21 h_26 h_27 h_36 h_37 h_38 h_39 h_40 h_41 h_42), (pf_X3_piece_21 num p0 p1 p2 p3 p4 sf xk xf xv xs xn r_1 r_5 r_9 r_13 r_17 ln2_24 f2_25 num2_30 q0_31 q1_32 q2_33 q3_34 q4_35 r_28 hn0 hn1 hz hr0 w_2 c_4 w_6 c_8 w_10 c_12 w_14 c_16 w_18 c_20 c_21 h_26 h_27 h_36 h_37 h_38 h_39 h_40 h_41 h_42), (pf_X3_piece_22 num p0 p1 p2 p3 p4 sf xk xf xv xs xn r_1 r_5 r_9 r_13 r_17 ln2_24 f2_25 num2_30 q0_31 q1_32 q2_33 q3_34 q4_35 r_28 hn0 hn1 hz hr0 w_2 c_4 w_6 c_8 w_10 c_12 w_14 c_16 w_18 c_20 c_21 h_26 h_27 h_36 h_37 h_38 h_39 h_40 h_41 h_42), (pf_X3_piece_23 num p0 p1 p2 p3 p4 sf xk xf xv xs xn r_1 r_5 r_9 r_13 r_17 ln2_24 f2_25 num2_30 q0_31 q1_32 q2_33 q3_34 q4_35 r_28 hn0 hn1 hz hr0 w_2 c_4 w_6 c_8 w_10 c_12 w_14 c_16 w_18 c_20 c_21 h_26 h_27 h_36 h_37 h_38 h_39 h_40 h_41 h_42)⟩ dX3_piece_98
            · refine lv_bipush (v := (-4)) hx hb dX3_piece_67 (by decide) ?_
              refine W.widen (k := 0) (n := 0) (Nat.le_of_ble_eq_true rfl) (Nat.le_of_ble_eq_true rfl) ?_
              exact fi_i (num, sf, p0, p1, p2, p3, p4) hx hb hr hlocks hK (hP.sub [0, 1, 2, 3, 4, 5, 6, 7, 8] rfl) (hD.sub [0, 1, 2, 3, 4, 5, 6, 7, 8] (by decide) rfl) hS ⟨(pf_X3_piece_24 num p3 sf xk xf xv xs xn r_1 r_5 r_9 r_13 r_17 hn0 hn1 hz hr0 w_2 c_4 w_6 c_8 w_10 c_12 w_14 c_16 w_18 c_20 c_21), (pf_X3_piece_25 num p3 sf xk xf xv xs xn r_1 r_5 r_9 r_13 r_17 hn0 hn1 hz hr0 w_2 c_4 w_6 c_8 w_10 c_12 w_14 c_16 w_18 c_20 c_21), (pf_X3_piece_26 num p3 sf xk xf xv xs xn r_1 r_5 r_9 r_13 r_17 hn0 hn1 hz hr0 w_2 c_4 w_6 c_8 w_10 c_12 w_14 c_16 w_18 c_20 c_21), (pf_X3_piece_27 num p3 sf xk xf xv xs xn r_1 r_5 r_9 r_13 r_17 hn0 hn1 hz hr0 w_2 c_4 w_6 c_8 w_10 c_12 w_14 c_16 w_18 c_20 c_21), (pf_X3_piece_28 num p3 sf xk xf xv xs xn r_1 r_5 r_9 r_13 r_17 hn0 hn1 hz hr0 w_2 c_4 w_6 c_8 w_10 c_12 w_14 c_16 w_18 c_20 c_21)⟩ dX3_piece_69
          · refine lv_bipush (v := (-2)) hx hb dX3_piece_52 (by decide) ?_
            refine W.widen (k := 0) (n := 0) (Nat.le_of_ble_eq_true rfl) (Nat.le_of_ble_eq_true rfl) ?_
            exact fi_i (num, sf, p0, p1, p2, p3, p4) hx hb hr hlocks hK (hP.sub [0, 1, 2, 3, 4, 5, 6, 7, 8] rfl) (hD.sub [0, 1, 2, 3, 4, 5, 6, 7, 8] (by decide) rfl) hS ⟨(pf_X3_piece_29 num p3 sf xk xf xv xs xn r_1 r_5 r_9 r_13 r_17 hn0 hn1 hz hr0 w_2 c_4 w_6 c_8 w_10 c_12 w_14 c_16 w_18 c_20), (pf_X3_piece_30 num p3 sf xk xf xv xs xn r_1 r_5 r_9 r_13 r_17 hn0 hn1 hz hr0 w_2 c_4 w_6 c_8 w_10 c_12 w_14 c_16 w_18 c_20), (pf_X3_piece_31 num p3 sf xk xf xv xs xn r_1 r_5 r_9 r_13 r_17 hn0 hn1 hz hr0 w_2 c_4 w_6 c_8 w_10 c_12 w_14 c_16 w_18 c_20), (pf_X3_piece_32 num p3 sf xk xf xv xs xn r_1 r_5 r_9 r_13 r_17 hn0 hn1 hz hr0 w_2 c_4 w_6 c_8 w_10 c_12 w_14 c_16 w_18 c_20), (pf_X3_piece_33 num p3 sf xk xf xv xs xn r_1 r_5 r_9 r_13 r_17 hn0 hn1 hz hr0 w_2 c_4 w_6 c_8 w_10 c_12 w_14 c_16 w_18 c_20)⟩ dX3_piece_54
      · refine lv_iconst (v := (-1)) hx hb dX3_piece_28 (by decide) ?_
        refine W.widen (k := 0) (n := 0) (Nat.le_of_ble_eq_true rfl) (Nat.le_of_ble_eq_true rfl) ?_
        exact fi_i (num, sf, p0, p1, p2, p3, p4) hx hb hr hlocks hK (hP.sub [0, 1, 2, 3, 4, 5, 6, 7, 8] rfl) (hD.sub [0, 1, 2, 3, 4, 5, 6, 7, 8] (by decide) rfl) hS ⟨(pf_X3_piece_34 num p3 sf xk xf xv xs xn r_1 r_5 r_9 hn0 hn1 hz hr0 w_2 c_4 w_6 c_8 w_10 c_12), (pf_X3_piece_35 num p3 sf xk xf xv xs xn r_1 r_5 r_9 hn0 hn1 hz hr0 w_2 c_4 w_6 c_8 w_10 c_12), (pf_X3_piece_36 num p3 sf xk xf xs r_1 r_5 r_9 hn0 hn1 hz hr0 w_2 c_4 w_6 c_8 w_10 c_12), (pf_X3_piece_37 num p3 sf xk xf xs r_1 r_5 r_9 hn0 hn1 hz hr0 w_2 c_4 w_6 c_8 w_10 c_12), (pf_X3_piece_38 num p3 sf xk xf xs r_1 r_5 r_9 hn0 hn1 hz hr0 w_2 c_4 w_6 c_8 w_10 c_12)⟩ dX3_piece_29

theorem iw_X3_ahead_1 : ∀ w ∈ wsX10, w ∈ wsX3_ahead := fun w h => (List.mem_cons_of_mem _ (List.mem_append_right _ h))
theorem iw_X3_ahead_3 : ∀ w ∈ wsX30, w ∈ wsX3_ahead := fun w h => (List.mem_cons_of_mem _ (List.mem_append_left _ (List.mem_append_right _ h)))
theorem wd_X3_ahead_1 : (.fieldLink RX3 21 "PourPlan" "pieces" "LPourPlan$Pieces;" : Cond) ∈ wsX3_ahead := List.mem_of_getElem? (i := 1) rfl
theorem wd_X3_ahead_2 : (.instanceMethod yX1_has : Cond) ∈ wsX3_ahead := List.mem_of_getElem? (i := 2) rfl
theorem wd_X3_ahead_3 : (.initialized RX1 : Cond) ∈ wsX3_ahead := List.mem_of_getElem? (i := 3) rfl
theorem wd_X3_ahead_4 : (.selects RX1 yX1_has yX1_has : Cond) ∈ wsX3_ahead := List.mem_of_getElem? (i := 4) rfl
theorem wd_X3_ahead_11 : (.instanceMethod yX1_mustLead : Cond) ∈ wsX3_ahead := List.mem_of_getElem? (i := 11) rfl
theorem wd_X3_ahead_12 : (.selects RX1 yX1_mustLead yX1_mustLead : Cond) ∈ wsX3_ahead := List.mem_of_getElem? (i := 12) rfl
set_option maxHeartbeats 1000000 in
theorem pf_X3_ahead_1 (num : Int32) (a : Int32) (b1 : Int32) (dy : Int32) (r_1 : Int32) (r_5 : Int32) (r_9 : Int32) (hn0 : 0 ≤ num) (hn1 : num ≤ 10) (w_2 : r_1 = bHas a num) (c_4 : ¬ r_1 = 0) (w_6 : r_5 = bHas b1 num) (c_8 : ¬ r_5 = 0) (w_10 : r_9 = bIn dy (0 : Int32) (9 : Int32)) (c_12 : ¬ r_9 = 0) (c_13 : ¬ a = b1) : 0 ≤ num := by
  grind [bIn, bHas]
set_option maxHeartbeats 1000000 in
theorem pf_X3_ahead_2 (num : Int32) (a : Int32) (b1 : Int32) (dy : Int32) (r_1 : Int32) (r_5 : Int32) (r_9 : Int32) (hn0 : 0 ≤ num) (hn1 : num ≤ 10) (w_2 : r_1 = bHas a num) (c_4 : ¬ r_1 = 0) (w_6 : r_5 = bHas b1 num) (c_8 : ¬ r_5 = 0) (w_10 : r_9 = bIn dy (0 : Int32) (9 : Int32)) (c_12 : ¬ r_9 = 0) (c_13 : ¬ a = b1) : num ≤ 10 := by
  grind [bIn, bHas]
set_option maxHeartbeats 1000000 in
theorem pf_X3_ahead_3 (num : Int32) (a : Int32) (b1 : Int32) (dy : Int32) (r_1 : Int32) (r_5 : Int32) (r_9 : Int32) (hn0 : 0 ≤ num) (hn1 : num ≤ 10) (w_2 : r_1 = bHas a num) (c_4 : ¬ r_1 = 0) (w_6 : r_5 = bHas b1 num) (c_8 : ¬ r_5 = 0) (w_10 : r_9 = bIn dy (0 : Int32) (9 : Int32)) (c_12 : ¬ r_9 = 0) (c_13 : ¬ a = b1) : 0 ≤ b1 := by
  grind [bIn, bHas]
set_option maxHeartbeats 1000000 in
theorem pf_X3_ahead_4 (num : Int32) (a : Int32) (b1 : Int32) (dy : Int32) (r_1 : Int32) (r_5 : Int32) (r_9 : Int32) (hn0 : 0 ≤ num) (hn1 : num ≤ 10) (w_2 : r_1 = bHas a num) (c_4 : ¬ r_1 = 0) (w_6 : r_5 = bHas b1 num) (c_8 : ¬ r_5 = 0) (w_10 : r_9 = bIn dy (0 : Int32) (9 : Int32)) (c_12 : ¬ r_9 = 0) (c_13 : ¬ a = b1) : b1 < num := by
  grind [bIn, bHas]
set_option maxHeartbeats 1000000 in
theorem pf_X3_ahead_5 (num : Int32) (a : Int32) (b1 : Int32) (dy : Int32) (r_1 : Int32) (r_5 : Int32) (r_9 : Int32) (hn0 : 0 ≤ num) (hn1 : num ≤ 10) (w_2 : r_1 = bHas a num) (c_4 : ¬ r_1 = 0) (w_6 : r_5 = bHas b1 num) (c_8 : ¬ r_5 = 0) (w_10 : r_9 = bIn dy (0 : Int32) (9 : Int32)) (c_12 : ¬ r_9 = 0) (c_13 : ¬ a = b1) : 0 ≤ a := by
  grind [bIn, bHas]
set_option maxHeartbeats 1000000 in
theorem pf_X3_ahead_6 (num : Int32) (a : Int32) (b1 : Int32) (dy : Int32) (r_1 : Int32) (r_5 : Int32) (r_9 : Int32) (hn0 : 0 ≤ num) (hn1 : num ≤ 10) (w_2 : r_1 = bHas a num) (c_4 : ¬ r_1 = 0) (w_6 : r_5 = bHas b1 num) (c_8 : ¬ r_5 = 0) (w_10 : r_9 = bIn dy (0 : Int32) (9 : Int32)) (c_12 : ¬ r_9 = 0) (c_13 : ¬ a = b1) : a < num := by
  grind [bIn, bHas]
set_option maxHeartbeats 1000000 in
theorem pf_X3_ahead_7 (num : Int32) (a : Int32) (b1 : Int32) (dy : Int32) (r_1 : Int32) (r_5 : Int32) (r_9 : Int32) (r_14 : Int32) (hn0 : 0 ≤ num) (hn1 : num ≤ 10) (w_2 : r_1 = bHas a num) (c_4 : ¬ r_1 = 0) (w_6 : r_5 = bHas b1 num) (c_8 : ¬ r_5 = 0) (w_10 : r_9 = bIn dy (0 : Int32) (9 : Int32)) (c_12 : ¬ r_9 = 0) (c_13 : ¬ a = b1) (c_17 : r_14 = 0) : vp_in a 10 := by
  exact vi_in (M := 10) rfl (by grind [bIn, bHas]) (by grind [bIn, bHas])
set_option maxHeartbeats 1000000 in
theorem pf_X3_ahead_8 (num : Int32) (a : Int32) (b1 : Int32) (dy : Int32) (r_1 : Int32) (r_5 : Int32) (r_9 : Int32) (r_14 : Int32) (hn0 : 0 ≤ num) (hn1 : num ≤ 10) (w_2 : r_1 = bHas a num) (c_4 : ¬ r_1 = 0) (w_6 : r_5 = bHas b1 num) (c_8 : ¬ r_5 = 0) (w_10 : r_9 = bIn dy (0 : Int32) (9 : Int32)) (c_12 : ¬ r_9 = 0) (c_13 : ¬ a = b1) (c_17 : r_14 = 0) : a.toNatClampNeg < 10 := by
  refine cl_lt (n := 10) ?_
  exact vi_in (M := 10) rfl (by grind [bIn, bHas]) (by grind [bIn, bHas])
set_option maxHeartbeats 1000000 in
theorem pf_X3_ahead_9 (num : Int32) (a : Int32) (b1 : Int32) (dy : Int32) (r_1 : Int32) (r_5 : Int32) (r_9 : Int32) (r_14 : Int32) (hn0 : 0 ≤ num) (hn1 : num ≤ 10) (w_2 : r_1 = bHas a num) (c_4 : ¬ r_1 = 0) (w_6 : r_5 = bHas b1 num) (c_8 : ¬ r_5 = 0) (w_10 : r_9 = bIn dy (0 : Int32) (9 : Int32)) (c_12 : ¬ r_9 = 0) (c_13 : ¬ a = b1) (c_17 : r_14 = 0) : vp_in b1 10 := by
  exact vi_in (M := 10) rfl (by grind [bIn, bHas]) (by grind [bIn, bHas])
set_option maxHeartbeats 1000000 in
theorem pf_X3_ahead_10 (num : Int32) (M : Nat → Nat → Int32) (a : Int32) (b1 : Int32) (dy : Int32) (r_1 : Int32) (r_5 : Int32) (r_9 : Int32) (r_14 : Int32) (v_18 : Int32) (hn0 : 0 ≤ num) (hn1 : num ≤ 10) (w_2 : r_1 = bHas a num) (c_4 : ¬ r_1 = 0) (w_6 : r_5 = bHas b1 num) (c_8 : ¬ r_5 = 0) (w_10 : r_9 = bIn dy (0 : Int32) (9 : Int32)) (c_12 : ¬ r_9 = 0) (c_13 : ¬ a = b1) (c_17 : r_14 = 0) (ev_18 : v_18 = M a.toNatClampNeg b1.toNatClampNeg) : vp_in a 10 := by
  exact vi_in (M := 10) rfl (by grind [bIn, bHas]) (by grind [bIn, bHas])
set_option maxHeartbeats 1000000 in
theorem pf_X3_ahead_11 (num : Int32) (M : Nat → Nat → Int32) (a : Int32) (b1 : Int32) (dy : Int32) (r_1 : Int32) (r_5 : Int32) (r_9 : Int32) (r_14 : Int32) (v_18 : Int32) (hn0 : 0 ≤ num) (hn1 : num ≤ 10) (w_2 : r_1 = bHas a num) (c_4 : ¬ r_1 = 0) (w_6 : r_5 = bHas b1 num) (c_8 : ¬ r_5 = 0) (w_10 : r_9 = bIn dy (0 : Int32) (9 : Int32)) (c_12 : ¬ r_9 = 0) (c_13 : ¬ a = b1) (c_17 : r_14 = 0) (ev_18 : v_18 = M a.toNatClampNeg b1.toNatClampNeg) : a.toNatClampNeg < 10 := by
  refine cl_lt (n := 10) ?_
  exact vi_in (M := 10) rfl (by grind [bIn, bHas]) (by grind [bIn, bHas])
set_option maxHeartbeats 1000000 in
theorem pf_X3_ahead_12 (num : Int32) (M : Nat → Nat → Int32) (a : Int32) (b1 : Int32) (dy : Int32) (r_1 : Int32) (r_5 : Int32) (r_9 : Int32) (r_14 : Int32) (v_18 : Int32) (hn0 : 0 ≤ num) (hn1 : num ≤ 10) (w_2 : r_1 = bHas a num) (c_4 : ¬ r_1 = 0) (w_6 : r_5 = bHas b1 num) (c_8 : ¬ r_5 = 0) (w_10 : r_9 = bIn dy (0 : Int32) (9 : Int32)) (c_12 : ¬ r_9 = 0) (c_13 : ¬ a = b1) (c_17 : r_14 = 0) (ev_18 : v_18 = M a.toNatClampNeg b1.toNatClampNeg) : vp_in b1 10 := by
  exact vi_in (M := 10) rfl (by grind [bIn, bHas]) (by grind [bIn, bHas])
set_option maxHeartbeats 4000000 in
set_option maxRecDepth 100000 in
theorem c_X3_ahead (l : Launch) (D : va_G) (cI cQ : ClassId) (sz : Nat) (x : Nat) (pi : Nat) (k7 : Nat) (k6 : Nat) (cu : Nat) (sq : Nat) (fo : Nat) (bo : Nat) (gl : Int32) (td : Int32) (le : Int32) (k0 : Nat) (k1 : Nat) (k2 : Nat) (k3 : Nat) (k4 : Nat) (k5 : Nat) (num : Int32) (p7 : Nat → Int32) (R : Nat → Nat) (M : Nat → Nat → Int32) (a : Int32) (b1 : Int32) (dy : Int32) (hn0 : 0 ≤ num) (hn1 : num ≤ 10) : CtI l yX3_ahead wsX3_ahead 3 67 0 0 [.ref x, .int a, .int b1, .int dy] D [(cI, .int), (cQ, .array .int)] [(x, .inr (3, [.ref cu, .ref pi, .ref sq, .ref fo, .ref bo, .int gl, .int td, .int le])), (pi, .inr (1, [.ref k0, .ref k1, .ref k2, .ref k3, .ref k4, .ref k5, .ref k6, .ref k7, .int num])), (k7, .inl (cI, 10, .inl p7)), (k6, .inl (cQ, 10, .inr (.inr (.inr (.inr (fun i => if i < 10 then some (R i) else none)))))), ((R 0), .inl (cI, 10, .inl (M 0))), ((R 1), .inl (cI, 10, .inl (M 1))), ((R 2), .inl (cI, 10, .inl (M 2))), ((R 3), .inl (cI, 10, .inl (M 3))), ((R 4), .inl (cI, 10, .inl (M 4))), ((R 5), .inl (cI, 10, .inl (M 5))), ((R 6), .inl (cI, 10, .inl (M 6))), ((R 7), .inl (cI, 10, .inl (M 7))), ((R 8), .inl (cI, 10, .inl (M 8))), ((R 9), .inl (cI, 10, .inl (M 9)))] sz (fun (r : Int32) (u : (Nat → Int32) × (Nat → Nat → Int32)) => True) (fun (u : (Nat → Int32) × (Nat → Nat → Int32)) => [(x, .inr (3, [.ref cu, .ref pi, .ref sq, .ref fo, .ref bo, .int gl, .int td, .int le])), (pi, .inr (1, [.ref k0, .ref k1, .ref k2, .ref k3, .ref k4, .ref k5, .ref k6, .ref k7, .int num])), (k7, .inl (cI, 10, .inl u.1)), (k6, .inl (cQ, 10, .inr (.inr (.inr (.inr (fun i => if i < 10 then some (R i) else none)))))), ((R 0), .inl (cI, 10, .inl (u.2 0))), ((R 1), .inl (cI, 10, .inl (u.2 1))), ((R 2), .inl (cI, 10, .inl (u.2 2))), ((R 3), .inl (cI, 10, .inl (u.2 3))), ((R 4), .inl (cI, 10, .inl (u.2 4))), ((R 5), .inl (cI, 10, .inl (u.2 5))), ((R 6), .inl (cI, 10, .inl (u.2 6))), ((R 7), .inl (cI, 10, .inl (u.2 7))), ((R 8), .inl (cI, 10, .inl (u.2 8))), ((R 9), .inl (cI, 10, .inl (u.2 9)))]) := by
  refine Met.ofW (cc := cX3_ahead) (maxL := 5) (ret := (some .int)) (by decide) rfl ?_
  intro p e s m args below meth c s₁ B hml hv
  obtain ⟨rfl, hsz, hP, hK, hD0, hN⟩ := hv
  have hx := B.exec
  have hb := B.bytes
  have hr := B.returns
  have hts := atoms_spec (ws := wsX3_ahead) B.pre
  have hown : s.vm.findClass RX3 = some m.cls := findClass_of_methodNamed B.named
  have hlocks := B.notSynchronized
  subst hsz
  have hD := hD0.self (sz := s.heap.size)
  generalize hAe : va_A [(x, .inr (3, [.ref cu, .ref pi, .ref sq, .ref fo, .ref bo, .int gl, .int td, .int le])), (pi, .inr (1, [.ref k0, .ref k1, .ref k2, .ref k3, .ref k4, .ref k5, .ref k6, .ref k7, .int num])), (k7, .inl (cI, 10, .inl p7)), (k6, .inl (cQ, 10, .inr (.inr (.inr (.inr (fun i => if i < 10 then some (R i) else none)))))), ((R 0), .inl (cI, 10, .inl (M 0))), ((R 1), .inl (cI, 10, .inl (M 1))), ((R 2), .inl (cI, 10, .inl (M 2))), ((R 3), .inl (cI, 10, .inl (M 3))), ((R 4), .inl (cI, 10, .inl (M 4))), ((R 5), .inl (cI, 10, .inl (M 5))), ((R 6), .inl (cI, 10, .inl (M 6))), ((R 7), .inl (cI, 10, .inl (M 7))), ((R 8), .inl (cI, 10, .inl (M 8))), ((R 9), .inl (cI, 10, .inl (M 9)))] s.heap.size = A at hD ⊢
  have hA : ∀ q : Nat, s.heap.size ≤ q → A q := fun q h => by rw [← hAe]; exact Or.inr h
  have hS : va_S A s.heap s.heap [] := va_S.rf
  have hl := lv_entry ([.ref x, .int a, .int b1, .int dy]) (n := 5) (Nat.le_of_ble_eq_true rfl)
  rw [lg_entry_eq]
  generalize (lg_sl ([.ref x, .int a, .int b1, .int dy]) ++ List.replicate (5 - (lg_sl ([.ref x, .int a, .int b1, .int dy])).length) Slot.unset).toArray = ls at hl ⊢
  have hl : lv_has ls 5 [(0, .ref x), (1, .int a), (2, .int b1), (3, .int dy)] := hl
  have hP0 := hP
  refine lv_aload_n hx hb dX3_ahead_0 rfl (lv_at hl 0 rfl) ?_
  refine va_get (D := D) (ci := 3) (v := .ref pi) (C := RX3) (T := TX3) (N := 8) hx hb hts iw_X3_ahead_3 hown hK hP 0 rfl rfl 1 (by decide) (hts _ wd_X3_ahead_1) (fun _ h9 => h9) rfl dX3_ahead_1 ?_
  refine lv_iload_n hx hb dX3_ahead_4 rfl (lv_at hl 1 rfl) ?_
  refine cc_i (wc := [(pi, .inr (1, [.ref k0, .ref k1, .ref k2, .ref k3, .ref k4, .ref k5, .ref k6, .ref k7, .int num]))]) (wr := [(x, .inr (3, [.ref cu, .ref pi, .ref sq, .ref fo, .ref bo, .int gl, .int td, .int le])), (k7, .inl (cI, 10, .inl p7)), (k6, .inl (cQ, 10, .inr (.inr (.inr (.inr (fun i => if i < 10 then some (R i) else none)))))), ((R 0), .inl (cI, 10, .inl (M 0))), ((R 1), .inl (cI, 10, .inl (M 1))), ((R 2), .inl (cI, 10, .inl (M 2))), ((R 3), .inl (cI, 10, .inl (M 3))), ((R 4), .inl (cI, 10, .inl (M 4))), ((R 5), .inl (cI, 10, .inl (M 5))), ((R 6), .inl (cI, 10, .inl (M 6))), ((R 7), .inl (cI, 10, .inl (M 7))), ((R 8), .inl (cI, 10, .inl (M 8))), ((R 9), .inl (cI, 10, .inl (M 9)))]) (va_runVN (As := [.int a]) (rest := []) ⟨hx, hb, hml, hown, hts⟩ (c_X1_has l D cI cQ s.heap.size pi k0 k1 k2 k3 k4 k5 k6 k7 num a ) ⟨va_cnB 1 hts gX3_ahead_X1_has_n64 rfl rfl rfl (nwM_64 hN) (hts _ wd_X3_ahead_3) (by decide +kernel) ⟨Nat.le_of_ble_eq_true rfl, Nat.le_of_ble_eq_true rfl⟩, (hts _ wd_X3_ahead_2), (hts _ wd_X3_ahead_4)⟩ (preV (wc := [(pi, .inr (1, [.ref k0, .ref k1, .ref k2, .ref k3, .ref k4, .ref k5, .ref k6, .ref k7, .int num]))]) (ci := 1) (q0 := 1) hK hP hD hN [1] rfl (by decide) rfl rfl) rfl rfl hl.1 rfl (lv_room (Nat.le_of_ble_eq_true rfl)) dX3_ahead_5 ⟨Nat.le_of_ble_eq_true rfl, Nat.le_of_ble_eq_true rfl⟩) hP hD hS hA [1] [0, 2, 3, 4, 5, 6, 7, 8, 9, 10, 11, 12, 13] rfl rfl (by decide) (by decide) (fun r_1 u H locs w_2 hP hD hS => ?_)
  have hP : va_P D vwCl [(x, .inr (3, [.ref cu, .ref pi, .ref sq, .ref fo, .ref bo, .int gl, .int td, .int le])), (k7, .inl (cI, 10, .inl p7)), (k6, .inl (cQ, 10, .inr (.inr (.inr (.inr (fun i => if i < 10 then some (R i) else none)))))), ((R 0), .inl (cI, 10, .inl (M 0))), ((R 1), .inl (cI, 10, .inl (M 1))), ((R 2), .inl (cI, 10, .inl (M 2))), ((R 3), .inl (cI, 10, .inl (M 3))), ((R 4), .inl (cI, 10, .inl (M 4))), ((R 5), .inl (cI, 10, .inl (M 5))), ((R 6), .inl (cI, 10, .inl (M 6))), ((R 7), .inl (cI, 10, .inl (M 7))), ((R 8), .inl (cI, 10, .inl (M 8))), ((R 9), .inl (cI, 10, .inl (M 9))), (pi, .inr (1, [.ref k0, .ref k1, .ref k2, .ref k3, .ref k4, .ref k5, .ref k6, .ref k7, .int num]))] H := hP
  have hD : va_D A [(x, .inr (3, [.ref cu, .ref pi, .ref sq, .ref fo, .ref bo, .int gl, .int td, .int le])), (k7, .inl (cI, 10, .inl p7)), (k6, .inl (cQ, 10, .inr (.inr (.inr (.inr (fun i => if i < 10 then some (R i) else none)))))), ((R 0), .inl (cI, 10, .inl (M 0))), ((R 1), .inl (cI, 10, .inl (M 1))), ((R 2), .inl (cI, 10, .inl (M 2))), ((R 3), .inl (cI, 10, .inl (M 3))), ((R 4), .inl (cI, 10, .inl (M 4))), ((R 5), .inl (cI, 10, .inl (M 5))), ((R 6), .inl (cI, 10, .inl (M 6))), ((R 7), .inl (cI, 10, .inl (M 7))), ((R 8), .inl (cI, 10, .inl (M 8))), ((R 9), .inl (cI, 10, .inl (M 9))), (pi, .inr (1, [.ref k0, .ref k1, .ref k2, .ref k3, .ref k4, .ref k5, .ref k6, .ref k7, .int num]))] := hD
  have w_2 : r_1 = bHas a num := w_2
  refine lv_if_eq (tgt := 22) hx hb dX3_ahead_8 (by decide) (fun c_4 => ?_) (fun c_4 => ?_)
  · refine lv_iconst (v := (-1)) hx hb dX3_ahead_22 (by decide) ?_
    refine W.widen (k := 0) (n := 0) (Nat.le_of_ble_eq_true rfl) (Nat.le_of_ble_eq_true rfl) ?_
    exact fi_i (p7, M) hx hb hr hlocks hK (hP.sub [0, 13, 1, 2, 3, 4, 5, 6, 7, 8, 9, 10, 11, 12] rfl) (hD.sub [0, 13, 1, 2, 3, 4, 5, 6, 7, 8, 9, 10, 11, 12] (by decide) rfl) hS trivial dX3_ahead_23
  · refine lv_aload_n hx hb dX3_ahead_11 rfl (lv_at hl 0 rfl) ?_
    refine va_get (D := D) (ci := 3) (v := .ref pi) (C := RX3) (T := TX3) (N := 8) hx hb hts iw_X3_ahead_3 hown hK hP 0 rfl rfl 1 (by decide) (hts _ wd_X3_ahead_1) (fun _ h9 => h9) rfl dX3_ahead_12 ?_
    refine lv_iload_n hx hb dX3_ahead_15 rfl (lv_at hl 2 rfl) ?_
    refine cc_i (wc := [(pi, .inr (1, [.ref k0, .ref k1, .ref k2, .ref k3, .ref k4, .ref k5, .ref k6, .ref k7, .int num]))]) (wr := [(x, .inr (3, [.ref cu, .ref pi, .ref sq, .ref fo, .ref bo, .int gl, .int td, .int le])), (k7, .inl (cI, 10, .inl p7)), (k6, .inl (cQ, 10, .inr (.inr (.inr (.inr (fun i => if i < 10 then some (R i) else none)))))), ((R 0), .inl (cI, 10, .inl (M 0))), ((R 1), .inl (cI, 10, .inl (M 1))), ((R 2), .inl (cI, 10, .inl (M 2))), ((R 3), .inl (cI, 10, .inl (M 3))), ((R 4), .inl (cI, 10, .inl (M 4))), ((R 5), .inl (cI, 10, .inl (M 5))), ((R 6), .inl (cI, 10, .inl (M 6))), ((R 7), .inl (cI, 10, .inl (M 7))), ((R 8), .inl (cI, 10, .inl (M 8))), ((R 9), .inl (cI, 10, .inl (M 9)))]) (va_runVN (As := [.int b1]) (rest := []) ⟨hx, hb, hml, hown, hts⟩ (c_X1_has l D cI cQ H.size pi k0 k1 k2 k3 k4 k5 k6 k7 num b1 ) ⟨va_cnB 1 hts gX3_ahead_X1_has_n64 rfl rfl rfl (nwM_64 hN) (hts _ wd_X3_ahead_3) (by decide +kernel) ⟨Nat.le_of_ble_eq_true rfl, Nat.le_of_ble_eq_true rfl⟩, (hts _ wd_X3_ahead_2), (hts _ wd_X3_ahead_4)⟩ (preV (wc := [(pi, .inr (1, [.ref k0, .ref k1, .ref k2, .ref k3, .ref k4, .ref k5, .ref k6, .ref k7, .int num]))]) (ci := 1) (q0 := 13) hK hP hD hN [13] rfl (by decide) rfl rfl) rfl rfl hl.1 rfl (lv_room (Nat.le_of_ble_eq_true rfl)) dX3_ahead_16 ⟨Nat.le_of_ble_eq_true rfl, Nat.le_of_ble_eq_true rfl⟩) hP hD hS hA [13] [0, 1, 2, 3, 4, 5, 6, 7, 8, 9, 10, 11, 12] rfl rfl (by decide) (by decide) (fun r_5 u H locs w_6 hP hD hS => ?_)
    have hP : va_P D vwCl [(x, .inr (3, [.ref cu, .ref pi, .ref sq, .ref fo, .ref bo, .int gl, .int td, .int le])), (k7, .inl (cI, 10, .inl p7)), (k6, .inl (cQ, 10, .inr (.inr (.inr (.inr (fun i => if i < 10 then some (R i) else none)))))), ((R 0), .inl (cI, 10, .inl (M 0))), ((R 1), .inl (cI, 10, .inl (M 1))), ((R 2), .inl (cI, 10, .inl (M 2))), ((R 3), .inl (cI, 10, .inl (M 3))), ((R 4), .inl (cI, 10, .inl (M 4))), ((R 5), .inl (cI, 10, .inl (M 5))), ((R 6), .inl (cI, 10, .inl (M 6))), ((R 7), .inl (cI, 10, .inl (M 7))), ((R 8), .inl (cI, 10, .inl (M 8))), ((R 9), .inl (cI, 10, .inl (M 9))), (pi, .inr (1, [.ref k0, .ref k1, .ref k2, .ref k3, .ref k4, .ref k5, .ref k6, .ref k7, .int num]))] H := hP
    have hD : va_D A [(x, .inr (3, [.ref cu, .ref pi, .ref sq, .ref fo, .ref bo, .int gl, .int td, .int le])), (k7, .inl (cI, 10, .inl p7)), (k6, .inl (cQ, 10, .inr (.inr (.inr (.inr (fun i => if i < 10 then some (R i) else none)))))), ((R 0), .inl (cI, 10, .inl (M 0))), ((R 1), .inl (cI, 10, .inl (M 1))), ((R 2), .inl (cI, 10, .inl (M 2))), ((R 3), .inl (cI, 10, .inl (M 3))), ((R 4), .inl (cI, 10, .inl (M 4))), ((R 5), .inl (cI, 10, .inl (M 5))), ((R 6), .inl (cI, 10, .inl (M 6))), ((R 7), .inl (cI, 10, .inl (M 7))), ((R 8), .inl (cI, 10, .inl (M 8))), ((R 9), .inl (cI, 10, .inl (M 9))), (pi, .inr (1, [.ref k0, .ref k1, .ref k2, .ref k3, .ref k4, .ref k5, .ref k6, .ref k7, .int num]))] := hD
    have w_6 : r_5 = bHas b1 num := w_6
    refine lv_if_ne (tgt := 24) hx hb dX3_ahead_19 (by decide) (fun c_8 => ?_) (fun c_8 => ?_)
    · refine lv_iload_n hx hb dX3_ahead_24 rfl (lv_at hl 3 rfl) ?_
      refine lv_iconst (v := 0) hx hb dX3_ahead_25 (by decide) ?_
      refine lv_bipush (v := 9) hx hb dX3_ahead_26 (by decide) ?_
      refine cc_i (wc := []) (wr := [(x, .inr (3, [.ref cu, .ref pi, .ref sq, .ref fo, .ref bo, .int gl, .int td, .int le])), (k7, .inl (cI, 10, .inl p7)), (k6, .inl (cQ, 10, .inr (.inr (.inr (.inr (fun i => if i < 10 then some (R i) else none)))))), ((R 0), .inl (cI, 10, .inl (M 0))), ((R 1), .inl (cI, 10, .inl (M 1))), ((R 2), .inl (cI, 10, .inl (M 2))), ((R 3), .inl (cI, 10, .inl (M 3))), ((R 4), .inl (cI, 10, .inl (M 4))), ((R 5), .inl (cI, 10, .inl (M 5))), ((R 6), .inl (cI, 10, .inl (M 6))), ((R 7), .inl (cI, 10, .inl (M 7))), ((R 8), .inl (cI, 10, .inl (M 8))), ((R 9), .inl (cI, 10, .inl (M 9))), (pi, .inr (1, [.ref k0, .ref k1, .ref k2, .ref k3, .ref k4, .ref k5, .ref k6, .ref k7, .int num]))]) (va_runS (As := [.int dy, .int 0, .int 9]) (rest := []) ⟨hx, hb, hml, hown, hts⟩ (c_X3_isIn l D cI cQ H.size dy 0 9 ) (va_cwS 3 hts gX3_ahead_X3_isIn rfl rfl rfl (by decide +kernel) ⟨Nat.le_of_ble_eq_true rfl, Nat.le_of_ble_eq_true rfl⟩) (preS (wc := []) hK hP hD hN [] rfl (by decide)) rfl rfl hl.1 rfl (lv_room (Nat.le_of_ble_eq_true rfl)) dX3_ahead_28 ⟨Nat.le_of_ble_eq_true rfl, Nat.le_of_ble_eq_true rfl⟩) hP hD hS hA [] [0, 1, 2, 3, 4, 5, 6, 7, 8, 9, 10, 11, 12, 13] rfl rfl (by decide) (by decide) (fun r_9 u H locs w_10 hP hD hS => ?_)
      have hP : va_P D vwCl [(x, .inr (3, [.ref cu, .ref pi, .ref sq, .ref fo, .ref bo, .int gl, .int td, .int le])), (k7, .inl (cI, 10, .inl p7)), (k6, .inl (cQ, 10, .inr (.inr (.inr (.inr (fun i => if i < 10 then some (R i) else none)))))), ((R 0), .inl (cI, 10, .inl (M 0))), ((R 1), .inl (cI, 10, .inl (M 1))), ((R 2), .inl (cI, 10, .inl (M 2))), ((R 3), .inl (cI, 10, .inl (M 3))), ((R 4), .inl (cI, 10, .inl (M 4))), ((R 5), .inl (cI, 10, .inl (M 5))), ((R 6), .inl (cI, 10, .inl (M 6))), ((R 7), .inl (cI, 10, .inl (M 7))), ((R 8), .inl (cI, 10, .inl (M 8))), ((R 9), .inl (cI, 10, .inl (M 9))), (pi, .inr (1, [.ref k0, .ref k1, .ref k2, .ref k3, .ref k4, .ref k5, .ref k6, .ref k7, .int num]))] H := hP
      have hD : va_D A [(x, .inr (3, [.ref cu, .ref pi, .ref sq, .ref fo, .ref bo, .int gl, .int td, .int le])), (k7, .inl (cI, 10, .inl p7)), (k6, .inl (cQ, 10, .inr (.inr (.inr (.inr (fun i => if i < 10 then some (R i) else none)))))), ((R 0), .inl (cI, 10, .inl (M 0))), ((R 1), .inl (cI, 10, .inl (M 1))), ((R 2), .inl (cI, 10, .inl (M 2))), ((R 3), .inl (cI, 10, .inl (M 3))), ((R 4), .inl (cI, 10, .inl (M 4))), ((R 5), .inl (cI, 10, .inl (M 5))), ((R 6), .inl (cI, 10, .inl (M 6))), ((R 7), .inl (cI, 10, .inl (M 7))), ((R 8), .inl (cI, 10, .inl (M 8))), ((R 9), .inl (cI, 10, .inl (M 9))), (pi, .inr (1, [.ref k0, .ref k1, .ref k2, .ref k3, .ref k4, .ref k5, .ref k6, .ref k7, .int num]))] := hD
      have w_10 : r_9 = bIn dy (0 : Int32) (9 : Int32) := w_10
      refine lv_if_eq (tgt := 51) hx hb dX3_ahead_31 (by decide) (fun c_12 => ?_) (fun c_12 => ?_)
      · refine lv_bipush (v := (-2)) hx hb dX3_ahead_51 (by decide) ?_
        refine W.widen (k := 0) (n := 0) (Nat.le_of_ble_eq_true rfl) (Nat.le_of_ble_eq_true rfl) ?_
        exact fi_i (p7, M) hx hb hr hlocks hK (hP.sub [0, 13, 1, 2, 3, 4, 5, 6, 7, 8, 9, 10, 11, 12] rfl) (hD.sub [0, 13, 1, 2, 3, 4, 5, 6, 7, 8, 9, 10, 11, 12] (by decide) rfl) hS trivial dX3_ahead_53
      · refine lv_iload_n hx hb dX3_ahead_34 rfl (lv_at hl 1 rfl) ?_
        refine lv_iload_n hx hb dX3_ahead_35 rfl (lv_at hl 2 rfl) ?_
        refine lv_icmp_eq (tgt := 51) hx hb dX3_ahead_36 (by decide) (fun c_13 => ?_) (fun c_13 => ?_)
        · refine lv_bipush (v := (-2)) hx hb dX3_ahead_51 (by decide) ?_
          refine W.widen (k := 0) (n := 0) (Nat.le_of_ble_eq_true rfl) (Nat.le_of_ble_eq_true rfl) ?_
          exact fi_i (p7, M) hx hb hr hlocks hK (hP.sub [0, 13, 1, 2, 3, 4, 5, 6, 7, 8, 9, 10, 11, 12] rfl) (hD.sub [0, 13, 1, 2, 3, 4, 5, 6, 7, 8, 9, 10, 11, 12] (by decide) rfl) hS trivial dX3_ahead_53
        · refine lv_aload_n hx hb dX3_ahead_39 rfl (lv_at hl 0 rfl) ?_
          refine va_get (D := D) (ci := 3) (v := .ref pi) (C := RX3) (T := TX3) (N := 8) hx hb hts iw_X3_ahead_3 hown hK hP 0 rfl rfl 1 (by decide) (hts _ wd_X3_ahead_1) (fun _ h9 => h9) rfl dX3_ahead_40 ?_
          refine lv_iload_n hx hb dX3_ahead_43 rfl (lv_at hl 2 rfl) ?_
          refine lv_iload_n hx hb dX3_ahead_44 rfl (lv_at hl 1 rfl) ?_
          refine cc_i (wc := [(pi, .inr (1, [.ref k0, .ref k1, .ref k2, .ref k3, .ref k4, .ref k5, .ref k6, .ref k7, .int num])), (k7, .inl (cI, 10, .inl p7)), (k6, .inl (cQ, 10, .inr (.inr (.inr (.inr (fun i => if i < 10 then some (R i) else none)))))), ((R 0), .inl (cI, 10, .inl (M 0))), ((R 1), .inl (cI, 10, .inl (M 1))), ((R 2), .inl (cI, 10, .inl (M 2))), ((R 3), .inl (cI, 10, .inl (M 3))), ((R 4), .inl (cI, 10, .inl (M 4))), ((R 5), .inl (cI, 10, .inl (M 5))), ((R 6), .inl (cI, 10, .inl (M 6))), ((R 7), .inl (cI, 10, .inl (M 7))), ((R 8), .inl (cI, 10, .inl (M 8))), ((R 9), .inl (cI, 10, .inl (M 9)))]) (wr := [(x, .inr (3, [.ref cu, .ref pi, .ref sq, .ref fo, .ref bo, .int gl, .int td, .int le]))]) (va_runVN (As := [.int b1, .int a]) (rest := []) ⟨hx, hb, hml, hown, hts⟩ (c_X1_mustLead l D cI cQ H.size pi k7 k6 k0 k1 k2 k3 k4 k5 num p7 R M b1 a (pf_X3_ahead_1 num a b1 dy r_1 r_5 r_9 hn0 hn1 w_2 c_4 w_6 c_8 w_10 c_12 c_13) (pf_X3_ahead_2 num a b1 dy r_1 r_5 r_9 hn0 hn1 w_2 c_4 w_6 c_8 w_10 c_12 c_13) (pf_X3_ahead_3 num a b1 dy r_1 r_5 r_9 hn0 hn1 w_2 c_4 w_6 c_8 w_10 c_12 c_13) (pf_X3_ahead_4 num a b1 dy r_1 r_5 r_9 hn0 hn1 w_2 c_4 w_6 c_8 w_10 c_12 c_13) (pf_X3_ahead_5 num a b1 dy r_1 r_5 r_9 hn0 hn1 w_2 c_4 w_6 c_8 w_10 c_12 c_13) (pf_X3_ahead_6 num a b1 dy r_1 r_5 r_9 hn0 hn1 w_2 c_4 w_6 c_8 w_10 c_12 c_13)) ⟨va_cnB 2 hts gX3_ahead_X1_mustLead_n68 rfl rfl rfl (nwM_68 hN) (hts _ wd_X3_ahead_3) (by decide +kernel) ⟨Nat.le_of_ble_eq_true rfl, Nat.le_of_ble_eq_true rfl⟩, (hts _ wd_X3_ahead_11), (hts _ wd_X3_ahead_12)⟩ (preV (wc := [(pi, .inr (1, [.ref k0, .ref k1, .ref k2, .ref k3, .ref k4, .ref k5, .ref k6, .ref k7, .int num])), (k7, .inl (cI, 10, .inl p7)), (k6, .inl (cQ, 10, .inr (.inr (.inr (.inr (fun i => if i < 10 then some (R i) else none)))))), ((R 0), .inl (cI, 10, .inl (M 0))), ((R 1), .inl (cI, 10, .inl (M 1))), ((R 2), .inl (cI, 10, .inl (M 2))), ((R 3), .inl (cI, 10, .inl (M 3))), ((R 4), .inl (cI, 10, .inl (M 4))), ((R 5), .inl (cI, 10, .inl (M 5))), ((R 6), .inl (cI, 10, .inl (M 6))), ((R 7), .inl (cI, 10, .inl (M 7))), ((R 8), .inl (cI, 10, .inl (M 8))), ((R 9), .inl (cI, 10, .inl (M 9)))]) (ci := 1) (q0 := 13) hK hP hD hN [13, 1, 2, 3, 4, 5, 6, 7, 8, 9, 10, 11, 12] rfl (by decide) rfl rfl) rfl rfl hl.1 rfl (lv_room (Nat.le_of_ble_eq_true rfl)) dX3_ahead_45 ⟨Nat.le_of_ble_eq_true rfl, Nat.le_of_ble_eq_true rfl⟩) hP hD hS hA [13, 1, 2, 3, 4, 5, 6, 7, 8, 9, 10, 11, 12] [0] rfl rfl (by decide) (by decide) (fun r_14 u H locs w_15 hP hD hS => ?_)
          obtain ⟨q7_16, rfl⟩ : ∃ z, z = u := ⟨_, rfl⟩
          have hP : va_P D vwCl [(x, .inr (3, [.ref cu, .ref pi, .ref sq, .ref fo, .ref bo, .int gl, .int td, .int le])), (pi, .inr (1, [.ref k0, .ref k1, .ref k2, .ref k3, .ref k4, .ref k5, .ref k6, .ref k7, .int num])), (k7, .inl (cI, 10, .inl q7_16)), (k6, .inl (cQ, 10, .inr (.inr (.inr (.inr (fun i => if i < 10 then some (R i) else none)))))), ((R 0), .inl (cI, 10, .inl (M 0))), ((R 1), .inl (cI, 10, .inl (M 1))), ((R 2), .inl (cI, 10, .inl (M 2))), ((R 3), .inl (cI, 10, .inl (M 3))), ((R 4), .inl (cI, 10, .inl (M 4))), ((R 5), .inl (cI, 10, .inl (M 5))), ((R 6), .inl (cI, 10, .inl (M 6))), ((R 7), .inl (cI, 10, .inl (M 7))), ((R 8), .inl (cI, 10, .inl (M 8))), ((R 9), .inl (cI, 10, .inl (M 9)))] H := hP
          have hD : va_D A [(x, .inr (3, [.ref cu, .ref pi, .ref sq, .ref fo, .ref bo, .int gl, .int td, .int le])), (pi, .inr (1, [.ref k0, .ref k1, .ref k2, .ref k3, .ref k4, .ref k5, .ref k6, .ref k7, .int num])), (k7, .inl (cI, 10, .inl q7_16)), (k6, .inl (cQ, 10, .inr (.inr (.inr (.inr (fun i => if i < 10 then some (R i) else none)))))), ((R 0), .inl (cI, 10, .inl (M 0))), ((R 1), .inl (cI, 10, .inl (M 1))), ((R 2), .inl (cI, 10, .inl (M 2))), ((R 3), .inl (cI, 10, .inl (M 3))), ((R 4), .inl (cI, 10, .inl (M 4))), ((R 5), .inl (cI, 10, .inl (M 5))), ((R 6), .inl (cI, 10, .inl (M 6))), ((R 7), .inl (cI, 10, .inl (M 7))), ((R 8), .inl (cI, 10, .inl (M 8))), ((R 9), .inl (cI, 10, .inl (M 9)))] := hD
          refine lv_if_eq (tgt := 54) hx hb dX3_ahead_48 (by decide) (fun c_17 => ?_) (fun c_17 => ?_)
          · refine lv_aload_n hx hb dX3_ahead_54 rfl (lv_at hl 0 rfl) ?_
            refine va_get (D := D) (ci := 3) (v := .ref pi) (C := RX3) (T := TX3) (N := 8) hx hb hts iw_X3_ahead_3 hown hK hP 0 rfl rfl 1 (by decide) (hts _ wd_X3_ahead_1) (fun _ h9 => h9) rfl dX3_ahead_55 ?_
            refine va_getN (D := D) (ci := 1) (v := .ref k6) (C := RX1) (T := TX1) (N := 9) hx hb hts iw_X3_ahead_1 hown hK hP 1 rfl rfl 6 (by decide) (va_Nw.use rfl (nwF_72 hN)) (fun _ h9 => h9) rfl dX3_ahead_58 ?_
            refine lv_iload_n hx hb dX3_ahead_61 rfl (lv_at hl 1 rfl) ?_
            refine va_aldA hx hb hK hP 3 1 rfl rfl (pf_X3_ahead_7 num a b1 dy r_1 r_5 r_9 r_14 hn0 hn1 w_2 c_4 w_6 c_8 w_10 c_12 c_13 c_17) dX3_ahead_62 ?_
            rw [row_ref (pf_X3_ahead_7 num a b1 dy r_1 r_5 r_9 r_14 hn0 hn1 w_2 c_4 w_6 c_8 w_10 c_12 c_13 c_17)]
            refine lv_iload_n hx hb dX3_ahead_63 rfl (lv_at hl 2 rfl) ?_
            refine va_iald hx hb hK hP (4 + a.toNatClampNeg) 0 (rows10 (P := fun i9 => ([(x, .inr (3, [.ref cu, .ref pi, .ref sq, .ref fo, .ref bo, .int gl, .int td, .int le])), (pi, .inr (1, [.ref k0, .ref k1, .ref k2, .ref k3, .ref k4, .ref k5, .ref k6, .ref k7, .int num])), (k7, .inl (cI, 10, .inl q7_16)), (k6, .inl (cQ, 10, .inr (.inr (.inr (.inr (fun i => if i < 10 then some (R i) else none)))))), ((R 0), .inl (cI, 10, .inl (M 0))), ((R 1), .inl (cI, 10, .inl (M 1))), ((R 2), .inl (cI, 10, .inl (M 2))), ((R 3), .inl (cI, 10, .inl (M 3))), ((R 4), .inl (cI, 10, .inl (M 4))), ((R 5), .inl (cI, 10, .inl (M 5))), ((R 6), .inl (cI, 10, .inl (M 6))), ((R 7), .inl (cI, 10, .inl (M 7))), ((R 8), .inl (cI, 10, .inl (M 8))), ((R 9), .inl (cI, 10, .inl (M 9)))] : va_W)[4 + i9]? = some (R i9, .inl (cI, 10, .inl (M i9)))) rfl rfl rfl rfl rfl rfl rfl rfl rfl rfl _ (pf_X3_ahead_8 num a b1 dy r_1 r_5 r_9 r_14 hn0 hn1 w_2 c_4 w_6 c_8 w_10 c_12 c_13 c_17)) rfl (pf_X3_ahead_9 num a b1 dy r_1 r_5 r_9 r_14 hn0 hn1 w_2 c_4 w_6 c_8 w_10 c_12 c_13 c_17) dX3_ahead_64 ?_
            refine lv_topi (fun v_18 ev_18 => ?_)
            refine lv_istore (lv' := [(4, .int v_18), (0, .ref x), (1, .int a), (2, .int b1), (3, .int dy)]) hx hb dX3_ahead_65 hl (by decide) rfl (fun ls hl => ?_)
            refine lv_aload_n hx hb dX3_ahead_67 rfl (lv_at hl 1 rfl) ?_
            refine va_get (D := D) (ci := 3) (v := .ref pi) (C := RX3) (T := TX3) (N := 8) hx hb hts iw_X3_ahead_3 hown hK hP 0 rfl rfl 1 (by decide) (hts _ wd_X3_ahead_1) (fun _ h9 => h9) rfl dX3_ahead_68 ?_
            refine va_getN (D := D) (ci := 1) (v := .ref k6) (C := RX1) (T := TX1) (N := 9) hx hb hts iw_X3_ahead_1 hown hK hP 1 rfl rfl 6 (by decide) (va_Nw.use rfl (nwF_72 hN)) (fun _ h9 => h9) rfl dX3_ahead_71 ?_
            refine lv_iload_n hx hb dX3_ahead_74 rfl (lv_at hl 2 rfl) ?_
            refine va_aldA hx hb hK hP 3 1 rfl rfl (pf_X3_ahead_10 num M a b1 dy r_1 r_5 r_9 r_14 v_18 hn0 hn1 w_2 c_4 w_6 c_8 w_10 c_12 c_13 c_17 ev_18) dX3_ahead_75 ?_
            rw [row_ref (pf_X3_ahead_10 num M a b1 dy r_1 r_5 r_9 r_14 v_18 hn0 hn1 w_2 c_4 w_6 c_8 w_10 c_12 c_13 c_17 ev_18)]
            refine lv_iload_n hx hb dX3_ahead_76 rfl (lv_at hl 3 rfl) ?_
            refine lv_iload_n hx hb dX3_ahead_77 rfl (lv_at hl 4 rfl) ?_
            refine va_iast hx hb hK hP hD hS (4 + a.toNatClampNeg) 0 (rows10 (P := fun i9 => ([(x, .inr (3, [.ref cu, .ref pi, .ref sq, .ref fo, .ref bo, .int gl, .int td, .int le])), (pi, .inr (1, [.ref k0, .ref k1, .ref k2, .ref k3, .ref k4, .ref k5, .ref k6, .ref k7, .int num])), (k7, .inl (cI, 10, .inl q7_16)), (k6, .inl (cQ, 10, .inr (.inr (.inr (.inr (fun i => if i < 10 then some (R i) else none)))))), ((R 0), .inl (cI, 10, .inl (M 0))), ((R 1), .inl (cI, 10, .inl (M 1))), ((R 2), .inl (cI, 10, .inl (M 2))), ((R 3), .inl (cI, 10, .inl (M 3))), ((R 4), .inl (cI, 10, .inl (M 4))), ((R 5), .inl (cI, 10, .inl (M 5))), ((R 6), .inl (cI, 10, .inl (M 6))), ((R 7), .inl (cI, 10, .inl (M 7))), ((R 8), .inl (cI, 10, .inl (M 8))), ((R 9), .inl (cI, 10, .inl (M 9)))] : va_W)[4 + i9]? = some (R i9, .inl (cI, 10, .inl (M i9)))) rfl rfl rfl rfl rfl rfl rfl rfl rfl rfl _ (pf_X3_ahead_11 num M a b1 dy r_1 r_5 r_9 r_14 v_18 hn0 hn1 w_2 c_4 w_6 c_8 w_10 c_12 c_13 c_17 ev_18)) rfl (pf_X3_ahead_12 num M a b1 dy r_1 r_5 r_9 r_14 v_18 hn0 hn1 w_2 c_4 w_6 c_8 w_10 c_12 c_13 c_17 ev_18) dX3_ahead_78 (fun H locs hP hD hS => ?_)
            have hset9 := rows10 (P := fun i9 => ∀ X9 : Nat → Int32, ([(x, .inr (3, [.ref cu, .ref pi, .ref sq, .ref fo, .ref bo, .int gl, .int td, .int le])), (pi, .inr (1, [.ref k0, .ref k1, .ref k2, .ref k3, .ref k4, .ref k5, .ref k6, .ref k7, .int num])), (k7, .inl (cI, 10, .inl q7_16)), (k6, .inl (cQ, 10, .inr (.inr (.inr (.inr (fun i => if i < 10 then some (R i) else none)))))), ((R 0), .inl (cI, 10, .inl (M 0))), ((R 1), .inl (cI, 10, .inl (M 1))), ((R 2), .inl (cI, 10, .inl (M 2))), ((R 3), .inl (cI, 10, .inl (M 3))), ((R 4), .inl (cI, 10, .inl (M 4))), ((R 5), .inl (cI, 10, .inl (M 5))), ((R 6), .inl (cI, 10, .inl (M 6))), ((R 7), .inl (cI, 10, .inl (M 7))), ((R 8), .inl (cI, 10, .inl (M 8))), ((R 9), .inl (cI, 10, .inl (M 9)))] : va_W).set (4 + i9) (R i9, .inl (cI, 10, .inl X9)) = [(x, .inr (3, [.ref cu, .ref pi, .ref sq, .ref fo, .ref bo, .int gl, .int td, .int le])), (pi, .inr (1, [.ref k0, .ref k1, .ref k2, .ref k3, .ref k4, .ref k5, .ref k6, .ref k7, .int num])), (k7, .inl (cI, 10, .inl q7_16)), (k6, .inl (cQ, 10, .inr (.inr (.inr (.inr (fun i => if i < 10 then some (R i) else none)))))), ((R 0), .inl (cI, 10, .inl (va_up M i9 X9 0))), ((R 1), .inl (cI, 10, .inl (va_up M i9 X9 1))), ((R 2), .inl (cI, 10, .inl (va_up M i9 X9 2))), ((R 3), .inl (cI, 10, .inl (va_up M i9 X9 3))), ((R 4), .inl (cI, 10, .inl (va_up M i9 X9 4))), ((R 5), .inl (cI, 10, .inl (va_up M i9 X9 5))), ((R 6), .inl (cI, 10, .inl (va_up M i9 X9 6))), ((R 7), .inl (cI, 10, .inl (va_up M i9 X9 7))), ((R 8), .inl (cI, 10, .inl (va_up M i9 X9 8))), ((R 9), .inl (cI, 10, .inl (va_up M i9 X9 9)))]) (fun _ => rfl) (fun _ => rfl) (fun _ => rfl) (fun _ => rfl) (fun _ => rfl) (fun _ => rfl) (fun _ => rfl) (fun _ => rfl) (fun _ => rfl) (fun _ => rfl) _ (pf_X3_ahead_11 num M a b1 dy r_1 r_5 r_9 r_14 v_18 hn0 hn1 w_2 c_4 w_6 c_8 w_10 c_12 c_13 c_17 ev_18) (upd (M a.toNatClampNeg) b1.toNatClampNeg dy)
            rw [hset9] at hP hD
            obtain ⟨M_19, eM_19⟩ : ∃ z : Nat → Nat → Int32, z = va_up M a.toNatClampNeg (upd (M a.toNatClampNeg) b1.toNatClampNeg dy) := ⟨_, rfl⟩
            have hP : va_P D vwCl [(x, .inr (3, [.ref cu, .ref pi, .ref sq, .ref fo, .ref bo, .int gl, .int td, .int le])), (pi, .inr (1, [.ref k0, .ref k1, .ref k2, .ref k3, .ref k4, .ref k5, .ref k6, .ref k7, .int num])), (k7, .inl (cI, 10, .inl q7_16)), (k6, .inl (cQ, 10, .inr (.inr (.inr (.inr (fun i => if i < 10 then some (R i) else none)))))), ((R 0), .inl (cI, 10, .inl (M_19 0))), ((R 1), .inl (cI, 10, .inl (M_19 1))), ((R 2), .inl (cI, 10, .inl (M_19 2))), ((R 3), .inl (cI, 10, .inl (M_19 3))), ((R 4), .inl (cI, 10, .inl (M_19 4))), ((R 5), .inl (cI, 10, .inl (M_19 5))), ((R 6), .inl (cI, 10, .inl (M_19 6))), ((R 7), .inl (cI, 10, .inl (M_19 7))), ((R 8), .inl (cI, 10, .inl (M_19 8))), ((R 9), .inl (cI, 10, .inl (M_19 9)))] H := by rw [eM_19]; exact hP
            have hD : va_D A [(x, .inr (3, [.ref cu, .ref pi, .ref sq, .ref fo, .ref bo, .int gl, .int td, .int le])), (pi, .inr (1, [.ref k0, .ref k1, .ref k2, .ref k3, .ref k4, .ref k5, .ref k6, .ref k7, .int num])), (k7, .inl (cI, 10, .inl q7_16)), (k6, .inl (cQ, 10, .inr (.inr (.inr (.inr (fun i => if i < 10 then some (R i) else none)))))), ((R 0), .inl (cI, 10, .inl (M_19 0))), ((R 1), .inl (cI, 10, .inl (M_19 1))), ((R 2), .inl (cI, 10, .inl (M_19 2))), ((R 3), .inl (cI, 10, .inl (M_19 3))), ((R 4), .inl (cI, 10, .inl (M_19 4))), ((R 5), .inl (cI, 10, .inl (M_19 5))), ((R 6), .inl (cI, 10, .inl (M_19 6))), ((R 7), .inl (cI, 10, .inl (M_19 7))), ((R 8), .inl (cI, 10, .inl (M_19 8))), ((R 9), .inl (cI, 10, .inl (M_19 9)))] := by rw [eM_19]; exact hD
            refine lv_iload hx hb dX3_ahead_79 (lv_at hl 0 rfl) ?_
            refine W.widen (k := 0) (n := 0) (Nat.le_of_ble_eq_true rfl) (Nat.le_of_ble_eq_true rfl) ?_
            exact fi_i (q7_16, M_19) hx hb hr hlocks hK (hP.sub [0, 1, 2, 3, 4, 5, 6, 7, 8, 9, 10, 11, 12, 13] rfl) (hD.sub [0, 1, 2, 3, 4, 5, 6, 7, 8, 9, 10, 11, 12, 13] (by decide) rfl) hS trivial dX3_ahead_81
          · refine lv_bipush (v := (-2)) hx hb dX3_ahead_51 (by decide) ?_
            refine W.widen (k := 0) (n := 0) (Nat.le_of_ble_eq_true rfl) (Nat.le_of_ble_eq_true rfl) ?_
            exact fi_i (q7_16, M) hx hb hr hlocks hK (hP.sub [0, 1, 2, 3, 4, 5, 6, 7, 8, 9, 10, 11, 12, 13] rfl) (hD.sub [0, 1, 2, 3, 4, 5, 6, 7, 8, 9, 10, 11, 12, 13] (by decide) rfl) hS trivial dX3_ahead_53
    · refine lv_iconst (v := (-1)) hx hb dX3_ahead_22 (by decide) ?_
      refine W.widen (k := 0) (n := 0) (Nat.le_of_ble_eq_true rfl) (Nat.le_of_ble_eq_true rfl) ?_
      exact fi_i (p7, M) hx hb hr hlocks hK (hP.sub [0, 13, 1, 2, 3, 4, 5, 6, 7, 8, 9, 10, 11, 12] rfl) (hD.sub [0, 13, 1, 2, 3, 4, 5, 6, 7, 8, 9, 10, 11, 12] (by decide) rfl) hS trivial dX3_ahead_23

theorem iw_X3_order_3 : ∀ w ∈ wsX30, w ∈ wsX3_order := fun w h => (List.mem_cons_of_mem _ (List.mem_append_left _ (List.mem_append_left _ (List.mem_append_right _ h))))
theorem wd_X3_order_1 : (.fieldLink RX3 21 "PourPlan" "pieces" "LPourPlan$Pieces;" : Cond) ∈ wsX3_order := List.mem_of_getElem? (i := 1) rfl
theorem wd_X3_order_2 : (.fieldLink RX3 28 "PourPlan" "sequence" "LPourPlan$Sequence;" : Cond) ∈ wsX3_order := List.mem_of_getElem? (i := 2) rfl
theorem wd_X3_order_3 : (.instanceMethod yX1_has : Cond) ∈ wsX3_order := List.mem_of_getElem? (i := 3) rfl
theorem wd_X3_order_4 : (.initialized RX1 : Cond) ∈ wsX3_order := List.mem_of_getElem? (i := 4) rfl
theorem wd_X3_order_5 : (.selects RX1 yX1_has yX1_has : Cond) ∈ wsX3_order := List.mem_of_getElem? (i := 5) rfl
theorem wd_X3_order_8 : (.instanceMethod yX2_placeOf : Cond) ∈ wsX3_order := List.mem_of_getElem? (i := 8) rfl
theorem wd_X3_order_9 : (.initialized RX2 : Cond) ∈ wsX3_order := List.mem_of_getElem? (i := 9) rfl
theorem wd_X3_order_10 : (.selects RX2 yX2_placeOf yX2_placeOf : Cond) ∈ wsX3_order := List.mem_of_getElem? (i := 10) rfl
theorem wd_X3_order_14 : (.instanceMethod yX2_move : Cond) ∈ wsX3_order := List.mem_of_getElem? (i := 14) rfl
theorem wd_X3_order_15 : (.selects RX2 yX2_move yX2_move : Cond) ∈ wsX3_order := List.mem_of_getElem? (i := 15) rfl
set_option maxHeartbeats 1000000 in
theorem pf_X3_order_1 (num : Int32) (sf : Nat → Int32) (a : Int32) (r_1 : Int32) (hn0 : 0 ≤ num) (hn1 : num ≤ 10) (hr0 : okRow sf num) (w_2 : r_1 = bHas a num) (c_4 : r_1 = 0) : okRow sf num := by
  first
  | (grind [bHas])
  | (first
     | exact hr0
     | assumption)
set_option maxHeartbeats 1000000 in
theorem pf_X3_order_2 (num : Int32) (sf : Nat → Int32) (a : Int32) (i1 : Int32) (r_1 : Int32) (r_5 : Int32) (hn0 : 0 ≤ num) (hn1 : num ≤ 10) (hr0 : okRow sf num) (w_2 : r_1 = bHas a num) (c_4 : ¬ r_1 = 0) (w_6 : r_5 = bHas i1 num) (c_8 : ¬ r_5 = 0) : 0 ≤ num := by
  grind [bHas]
set_option maxHeartbeats 1000000 in
theorem pf_X3_order_3 (num : Int32) (sf : Nat → Int32) (a : Int32) (i1 : Int32) (r_1 : Int32) (r_5 : Int32) (hn0 : 0 ≤ num) (hn1 : num ≤ 10) (hr0 : okRow sf num) (w_2 : r_1 = bHas a num) (c_4 : ¬ r_1 = 0) (w_6 : r_5 = bHas i1 num) (c_8 : ¬ r_5 = 0) : num ≤ 10 := by
  grind [bHas]
set_option maxHeartbeats 1000000 in
theorem pf_X3_order_4 (num : Int32) (sf : Nat → Int32) (a : Int32) (i1 : Int32) (r_1 : Int32) (r_5 : Int32) (r_9 : Int32) (hn0 : 0 ≤ num) (hn1 : num ≤ 10) (hr0 : okRow sf num) (w_2 : r_1 = bHas a num) (c_4 : ¬ r_1 = 0) (w_6 : r_5 = bHas i1 num) (c_8 : ¬ r_5 = 0) (w_10 : (r_9 = -1 ∨ (0 ≤ r_9 ∧ r_9 < num))) : 0 ≤ num := by
  grind [bHas]
set_option maxHeartbeats 1000000 in
theorem pf_X3_order_5 (num : Int32) (sf : Nat → Int32) (a : Int32) (i1 : Int32) (r_1 : Int32) (r_5 : Int32) (r_9 : Int32) (hn0 : 0 ≤ num) (hn1 : num ≤ 10) (hr0 : okRow sf num) (w_2 : r_1 = bHas a num) (c_4 : ¬ r_1 = 0) (w_6 : r_5 = bHas i1 num) (c_8 : ¬ r_5 = 0) (w_10 : (r_9 = -1 ∨ (0 ≤ r_9 ∧ r_9 < num))) : num ≤ 10 := by
  grind [bHas]
set_option maxHeartbeats 1000000 in
theorem pf_X3_order_6 (num : Int32) (sf : Nat → Int32) (a : Int32) (i1 : Int32) (r_1 : Int32) (r_5 : Int32) (r_9 : Int32) (hn0 : 0 ≤ num) (hn1 : num ≤ 10) (hr0 : okRow sf num) (w_2 : r_1 = bHas a num) (c_4 : ¬ r_1 = 0) (w_6 : r_5 = bHas i1 num) (c_8 : ¬ r_5 = 0) (w_10 : (r_9 = -1 ∨ (0 ≤ r_9 ∧ r_9 < num))) : okRow sf num := by
  exact hr0
set_option maxHeartbeats 1000000 in
theorem pf_X3_order_7 (num : Int32) (sf : Nat → Int32) (a : Int32) (i1 : Int32) (r_1 : Int32) (r_5 : Int32) (r_9 : Int32) (f2_14 : Nat → Int32) (hn0 : 0 ≤ num) (hn1 : num ≤ 10) (hr0 : okRow sf num) (w_2 : r_1 = bHas a num) (c_4 : ¬ r_1 = 0) (w_6 : r_5 = bHas i1 num) (c_8 : ¬ r_5 = 0) (w_10 : (r_9 = -1 ∨ (0 ≤ r_9 ∧ r_9 < num))) (w_13 : okRow f2_14 num) : okRow f2_14 num := by
  first
  | (grind [bHas])
  | (first
     | exact hr0
     | assumption)
set_option maxHeartbeats 1000000 in
theorem pf_X3_order_8 (num : Int32) (sf : Nat → Int32) (a : Int32) (i1 : Int32) (r_1 : Int32) (r_5 : Int32) (hn0 : 0 ≤ num) (hn1 : num ≤ 10) (hr0 : okRow sf num) (w_2 : r_1 = bHas a num) (c_4 : ¬ r_1 = 0) (w_6 : r_5 = bHas i1 num) (c_8 : r_5 = 0) : okRow sf num := by
  first
  | (grind [bHas])
  | (first
     | exact hr0
     | assumption)
set_option maxHeartbeats 4000000 in
set_option maxRecDepth 100000 in
theorem c_X3_order (l : Launch) (D : va_G) (cI cQ : ClassId) (sz : Nat) (x : Nat) (pi : Nat) (sq : Nat) (s0 : Nat) (cu : Nat) (fo : Nat) (bo : Nat) (gl : Int32) (td : Int32) (le : Int32) (k0 : Nat) (k1 : Nat) (k2 : Nat) (k3 : Nat) (k4 : Nat) (k5 : Nat) (k6 : Nat) (k7 : Nat) (num : Int32) (sf : Nat → Int32) (a : Int32) (i1 : Int32) (hn0 : 0 ≤ num) (hn1 : num ≤ 10) (hr0 : okRow sf num) : CtI l yX3_order wsX3_order 2 45 0 0 [.ref x, .int a, .int i1] D [(cI, .int), (cQ, .array .int)] [(x, .inr (3, [.ref cu, .ref pi, .ref sq, .ref fo, .ref bo, .int gl, .int td, .int le])), (pi, .inr (1, [.ref k0, .ref k1, .ref k2, .ref k3, .ref k4, .ref k5, .ref k6, .ref k7, .int num])), (sq, .inr (2, [.ref s0, .int num])), (s0, .inl (cI, 10, .inl sf))] sz (fun (r : Int32) (u : (Nat → Int32)) => okRow u num) (fun (u : (Nat → Int32)) => [(x, .inr (3, [.ref cu, .ref pi, .ref sq, .ref fo, .ref bo, .int gl, .int td, .int le])), (pi, .inr (1, [.ref k0, .ref k1, .ref k2, .ref k3, .ref k4, .ref k5, .ref k6, .ref k7, .int num])), (sq, .inr (2, [.ref s0, .int num])), (s0, .inl (cI, 10, .inl u))]) := by
  refine Met.ofW (cc := cX3_order) (maxL := 4) (ret := (some .int)) (by decide) rfl ?_
  intro p e s m args below meth c s₁ B hml hv
  obtain ⟨rfl, hsz, hP, hK, hD0, hN⟩ := hv
  have hx := B.exec
  have hb := B.bytes
  have hr := B.returns
  have hts := atoms_spec (ws := wsX3_order) B.pre
  have hown : s.vm.findClass RX3 = some m.cls := findClass_of_methodNamed B.named
  have hlocks := B.notSynchronized
  subst hsz
  have hD := hD0.self (sz := s.heap.size)
  generalize hAe : va_A [(x, .inr (3, [.ref cu, .ref pi, .ref sq, .ref fo, .ref bo, .int gl, .int td, .int le])), (pi, .inr (1, [.ref k0, .ref k1, .ref k2, .ref k3, .ref k4, .ref k5, .ref k6, .ref k7, .int num])), (sq, .inr (2, [.ref s0, .int num])), (s0, .inl (cI, 10, .inl sf))] s.heap.size = A at hD ⊢
  have hA : ∀ q : Nat, s.heap.size ≤ q → A q := fun q h => by rw [← hAe]; exact Or.inr h
  have hS : va_S A s.heap s.heap [] := va_S.rf
  have hl := lv_entry ([.ref x, .int a, .int i1]) (n := 4) (Nat.le_of_ble_eq_true rfl)
  rw [lg_entry_eq]
  generalize (lg_sl ([.ref x, .int a, .int i1]) ++ List.replicate (4 - (lg_sl ([.ref x, .int a, .int i1])).length) Slot.unset).toArray = ls at hl ⊢
  have hl : lv_has ls 4 [(0, .ref x), (1, .int a), (2, .int i1)] := hl
  have hP0 := hP
  refine lv_aload_n hx hb dX3_order_0 rfl (lv_at hl 0 rfl) ?_
  refine va_get (D := D) (ci := 3) (v := .ref pi) (C := RX3) (T := TX3) (N := 8) hx hb hts iw_X3_order_3 hown hK hP 0 rfl rfl 1 (by decide) (hts _ wd_X3_order_1) (fun _ h9 => h9) rfl dX3_order_1 ?_
  refine lv_iload_n hx hb dX3_order_4 rfl (lv_at hl 1 rfl) ?_
  refine cc_i (wc := [(pi, .inr (1, [.ref k0, .ref k1, .ref k2, .ref k3, .ref k4, .ref k5, .ref k6, .ref k7, .int num]))]) (wr := [(x, .inr (3, [.ref cu, .ref pi, .ref sq, .ref fo, .ref bo, .int gl, .int td, .int le])), (sq, .inr (2, [.ref s0, .int num])), (s0, .inl (cI, 10, .inl sf))]) (va_runVN (As := [.int a]) (rest := []) ⟨hx, hb, hml, hown, hts⟩ (c_X1_has l D cI cQ s.heap.size pi k0 k1 k2 k3 k4 k5 k6 k7 num a ) ⟨va_cnB 1 hts gX3_order_X1_has_n64 rfl rfl rfl (nwM_64 hN) (hts _ wd_X3_order_4) (by decide +kernel) ⟨Nat.le_of_ble_eq_true rfl, Nat.le_of_ble_eq_true rfl⟩, (hts _ wd_X3_order_3), (hts _ wd_X3_order_5)⟩ (preV (wc := [(pi, .inr (1, [.ref k0, .ref k1, .ref k2, .ref k3, .ref k4, .ref k5, .ref k6, .ref k7, .int num]))]) (ci := 1) (q0 := 1) hK hP hD hN [1] rfl (by decide) rfl rfl) rfl rfl hl.1 rfl (lv_room (Nat.le_of_ble_eq_true rfl)) dX3_order_5 ⟨Nat.le_of_ble_eq_true rfl, Nat.le_of_ble_eq_true rfl⟩) hP hD hS hA [1] [0, 2, 3] rfl rfl (by decide) (by decide) (fun r_1 u H locs w_2 hP hD hS => ?_)
  have hP : va_P D vwCl [(x, .inr (3, [.ref cu, .ref pi, .ref sq, .ref fo, .ref bo, .int gl, .int td, .int le])), (sq, .inr (2, [.ref s0, .int num])), (s0, .inl (cI, 10, .inl sf)), (pi, .inr (1, [.ref k0, .ref k1, .ref k2, .ref k3, .ref k4, .ref k5, .ref k6, .ref k7, .int num]))] H := hP
  have hD : va_D A [(x, .inr (3, [.ref cu, .ref pi, .ref sq, .ref fo, .ref bo, .int gl, .int td, .int le])), (sq, .inr (2, [.ref s0, .int num])), (s0, .inl (cI, 10, .inl sf)), (pi, .inr (1, [.ref k0, .ref k1, .ref k2, .ref k3, .ref k4, .ref k5, .ref k6, .ref k7, .int num]))] := hD
  have w_2 : r_1 = bHas a num := w_2
  refine lv_if_eq (tgt := 22) hx hb dX3_order_8 (by decide) (fun c_4 => ?_) (fun c_4 => ?_)
  · refine lv_iconst (v := (-1)) hx hb dX3_order_22 (by decide) ?_
    refine W.widen (k := 0) (n := 0) (Nat.le_of_ble_eq_true rfl) (Nat.le_of_ble_eq_true rfl) ?_
    exact fi_i sf hx hb hr hlocks hK (hP.sub [0, 3, 1, 2] rfl) (hD.sub [0, 3, 1, 2] (by decide) rfl) hS (pf_X3_order_1 num sf a r_1 hn0 hn1 hr0 w_2 c_4) dX3_order_23
  · refine lv_aload_n hx hb dX3_order_11 rfl (lv_at hl 0 rfl) ?_
    refine va_get (D := D) (ci := 3) (v := .ref pi) (C := RX3) (T := TX3) (N := 8) hx hb hts iw_X3_order_3 hown hK hP 0 rfl rfl 1 (by decide) (hts _ wd_X3_order_1) (fun _ h9 => h9) rfl dX3_order_12 ?_
    refine lv_iload_n hx hb dX3_order_15 rfl (lv_at hl 2 rfl) ?_
    refine cc_i (wc := [(pi, .inr (1, [.ref k0, .ref k1, .ref k2, .ref k3, .ref k4, .ref k5, .ref k6, .ref k7, .int num]))]) (wr := [(x, .inr (3, [.ref cu, .ref pi, .ref sq, .ref fo, .ref bo, .int gl, .int td, .int le])), (sq, .inr (2, [.ref s0, .int num])), (s0, .inl (cI, 10, .inl sf))]) (va_runVN (As := [.int i1]) (rest := []) ⟨hx, hb, hml, hown, hts⟩ (c_X1_has l D cI cQ H.size pi k0 k1 k2 k3 k4 k5 k6 k7 num i1 ) ⟨va_cnB 1 hts gX3_order_X1_has_n64 rfl rfl rfl (nwM_64 hN) (hts _ wd_X3_order_4) (by decide +kernel) ⟨Nat.le_of_ble_eq_true rfl, Nat.le_of_ble_eq_true rfl⟩, (hts _ wd_X3_order_3), (hts _ wd_X3_order_5)⟩ (preV (wc := [(pi, .inr (1, [.ref k0, .ref k1, .ref k2, .ref k3, .ref k4, .ref k5, .ref k6, .ref k7, .int num]))]) (ci := 1) (q0 := 3) hK hP hD hN [3] rfl (by decide) rfl rfl) rfl rfl hl.1 rfl (lv_room (Nat.le_of_ble_eq_true rfl)) dX3_order_16 ⟨Nat.le_of_ble_eq_true rfl, Nat.le_of_ble_eq_true rfl⟩) hP hD hS hA [3] [0, 1, 2] rfl rfl (by decide) (by decide) (fun r_5 u H locs w_6 hP hD hS => ?_)
    have hP : va_P D vwCl [(x, .inr (3, [.ref cu, .ref pi, .ref sq, .ref fo, .ref bo, .int gl, .int td, .int le])), (sq, .inr (2, [.ref s0, .int num])), (s0, .inl (cI, 10, .inl sf)), (pi, .inr (1, [.ref k0, .ref k1, .ref k2, .ref k3, .ref k4, .ref k5, .ref k6, .ref k7, .int num]))] H := hP
    have hD : va_D A [(x, .inr (3, [.ref cu, .ref pi, .ref sq, .ref fo, .ref bo, .int gl, .int td, .int le])), (sq, .inr (2, [.ref s0, .int num])), (s0, .inl (cI, 10, .inl sf)), (pi, .inr (1, [.ref k0, .ref k1, .ref k2, .ref k3, .ref k4, .ref k5, .ref k6, .ref k7, .int num]))] := hD
    have w_6 : r_5 = bHas i1 num := w_6
    refine lv_if_ne (tgt := 24) hx hb dX3_order_19 (by decide) (fun c_8 => ?_) (fun c_8 => ?_)
    · refine lv_aload_n hx hb dX3_order_24 rfl (lv_at hl 0 rfl) ?_
      refine va_get (D := D) (ci := 3) (v := .ref sq) (C := RX3) (T := TX3) (N := 8) hx hb hts iw_X3_order_3 hown hK hP 0 rfl rfl 2 (by decide) (hts _ wd_X3_order_2) (fun _ h9 => h9) rfl dX3_order_25 ?_
      refine lv_iload_n hx hb dX3_order_28 rfl (lv_at hl 1 rfl) ?_
      refine cc_i (wc := [(sq, .inr (2, [.ref s0, .int num])), (s0, .inl (cI, 10, .inl sf))]) (wr := [(x, .inr (3, [.ref cu, .ref pi, .ref sq, .ref fo, .ref bo, .int gl, .int td, .int le])), (pi, .inr (1, [.ref k0, .ref k1, .ref k2, .ref k3, .ref k4, .ref k5, .ref k6, .ref k7, .int num]))]) (va_runVN (As := [.int a]) (rest := []) ⟨hx, hb, hml, hown, hts⟩ (c_X2_placeOf l D cI cQ H.size sq s0 num sf a (pf_X3_order_2 num sf a i1 r_1 r_5 hn0 hn1 hr0 w_2 c_4 w_6 c_8) (pf_X3_order_3 num sf a i1 r_1 r_5 hn0 hn1 hr0 w_2 c_4 w_6 c_8)) ⟨va_cnB 1 hts gX3_order_X2_placeOf_n113 rfl rfl rfl (nwM_113 hN) (hts _ wd_X3_order_9) (by decide +kernel) ⟨Nat.le_of_ble_eq_true rfl, Nat.le_of_ble_eq_true rfl⟩, (hts _ wd_X3_order_8), (hts _ wd_X3_order_10)⟩ (preV (wc := [(sq, .inr (2, [.ref s0, .int num])), (s0, .inl (cI, 10, .inl sf))]) (ci := 2) (q0 := 1) hK hP hD hN [1, 2] rfl (by decide) rfl rfl) rfl rfl hl.1 rfl (lv_room (Nat.le_of_ble_eq_true rfl)) dX3_order_29 ⟨Nat.le_of_ble_eq_true rfl, Nat.le_of_ble_eq_true rfl⟩) hP hD hS hA [1, 2] [0, 3] rfl rfl (by decide) (by decide) (fun r_9 u H locs w_10 hP hD hS => ?_)
      have hP : va_P D vwCl [(x, .inr (3, [.ref cu, .ref pi, .ref sq, .ref fo, .ref bo, .int gl, .int td, .int le])), (pi, .inr (1, [.ref k0, .ref k1, .ref k2, .ref k3, .ref k4, .ref k5, .ref k6, .ref k7, .int num])), (sq, .inr (2, [.ref s0, .int num])), (s0, .inl (cI, 10, .inl sf))] H := hP
      have hD : va_D A [(x, .inr (3, [.ref cu, .ref pi, .ref sq, .ref fo, .ref bo, .int gl, .int td, .int le])), (pi, .inr (1, [.ref k0, .ref k1, .ref k2, .ref k3, .ref k4, .ref k5, .ref k6, .ref k7, .int num])), (sq, .inr (2, [.ref s0, .int num])), (s0, .inl (cI, 10, .inl sf))] := hD
      have w_10 : (r_9 = -1 ∨ (0 ≤ r_9 ∧ r_9 < num)) := w_10
      refine lv_istore_n (lv' := [(3, .int r_9), (0, .ref x), (1, .int a), (2, .int i1)]) hx hb dX3_order_32 rfl hl (by decide) rfl (fun ls hl => ?_)
      refine lv_aload_n hx hb dX3_order_33 rfl (lv_at hl 1 rfl) ?_
      refine va_get (D := D) (ci := 3) (v := .ref sq) (C := RX3) (T := TX3) (N := 8) hx hb hts iw_X3_order_3 hown hK hP 0 rfl rfl 2 (by decide) (hts _ wd_X3_order_2) (fun _ h9 => h9) rfl dX3_order_34 ?_
      refine lv_iload_n hx hb dX3_order_37 rfl (lv_at hl 0 rfl) ?_
      refine lv_iload_n hx hb dX3_order_38 rfl (lv_at hl 3 rfl) ?_
      refine cc_v (wc := [(sq, .inr (2, [.ref s0, .int num])), (s0, .inl (cI, 10, .inl sf))]) (wr := [(x, .inr (3, [.ref cu, .ref pi, .ref sq, .ref fo, .ref bo, .int gl, .int td, .int le])), (pi, .inr (1, [.ref k0, .ref k1, .ref k2, .ref k3, .ref k4, .ref k5, .ref k6, .ref k7, .int num]))]) (va_runVN (As := [.int r_9, .int i1]) (rest := []) ⟨hx, hb, hml, hown, hts⟩ (c_X2_move l D cI cQ H.size sq s0 num sf r_9 i1 (pf_X3_order_4 num sf a i1 r_1 r_5 r_9 hn0 hn1 hr0 w_2 c_4 w_6 c_8 w_10) (pf_X3_order_5 num sf a i1 r_1 r_5 r_9 hn0 hn1 hr0 w_2 c_4 w_6 c_8 w_10) (pf_X3_order_6 num sf a i1 r_1 r_5 r_9 hn0 hn1 hr0 w_2 c_4 w_6 c_8 w_10)) ⟨va_cnB 2 hts gX3_order_X2_move_n116 rfl rfl rfl (nwM_116 hN) (hts _ wd_X3_order_9) (by decide +kernel) ⟨Nat.le_of_ble_eq_true rfl, Nat.le_of_ble_eq_true rfl⟩, (hts _ wd_X3_order_14), (hts _ wd_X3_order_15)⟩ (preV (wc := [(sq, .inr (2, [.ref s0, .int num])), (s0, .inl (cI, 10, .inl sf))]) (ci := 2) (q0 := 2) hK hP hD hN [2, 3] rfl (by decide) rfl rfl) rfl rfl hl.1 rfl (lv_room (Nat.le_of_ble_eq_true rfl)) dX3_order_39 ⟨Nat.le_of_ble_eq_true rfl, Nat.le_of_ble_eq_true rfl⟩) hP hD hS hA [2, 3] [0, 1] rfl rfl (by decide) (by decide) (fun u H locs w_13 hP hD hS => ?_)
      obtain ⟨f2_14, rfl⟩ : ∃ z, z = u := ⟨_, rfl⟩
      have hP : va_P D vwCl [(x, .inr (3, [.ref cu, .ref pi, .ref sq, .ref fo, .ref bo, .int gl, .int td, .int le])), (pi, .inr (1, [.ref k0, .ref k1, .ref k2, .ref k3, .ref k4, .ref k5, .ref k6, .ref k7, .int num])), (sq, .inr (2, [.ref s0, .int num])), (s0, .inl (cI, 10, .inl f2_14))] H := hP
      have hD : va_D A [(x, .inr (3, [.ref cu, .ref pi, .ref sq, .ref fo, .ref bo, .int gl, .int td, .int le])), (pi, .inr (1, [.ref k0, .ref k1, .ref k2, .ref k3, .ref k4, .ref k5, .ref k6, .ref k7, .int num])), (sq, .inr (2, [.ref s0, .int num])), (s0, .inl (cI, 10, .inl f2_14))] := hD
      have w_13 : okRow f2_14 num := w_13
      refine lv_iload_n hx hb dX3_order_42 rfl (lv_at hl 0 rfl) ?_
      refine W.widen (k := 0) (n := 0) (Nat.le_of_ble_eq_true rfl) (Nat.le_of_ble_eq_true rfl) ?_
      exact fi_i f2_14 hx hb hr hlocks hK (hP.sub [0, 1, 2, 3] rfl) (hD.sub [0, 1, 2, 3] (by decide) rfl) hS (pf_X3_order_7 num sf a i1 r_1 r_5 r_9 f2_14 hn0 hn1 hr0 w_2 c_4 w_6 c_8 w_10 w_13) dX3_order_43
    · refine lv_iconst (v := (-1)) hx hb dX3_order_22 (by decide) ?_
      refine W.widen (k := 0) (n := 0) (Nat.le_of_ble_eq_true rfl) (Nat.le_of_ble_eq_true rfl) ?_
      exact fi_i sf hx hb hr hlocks hK (hP.sub [0, 3, 1, 2] rfl) (hD.sub [0, 3, 1, 2] (by decide) rfl) hS (pf_X3_order_8 num sf a i1 r_1 r_5 hn0 hn1 hr0 w_2 c_4 w_6 c_8) dX3_order_23

theorem iw_X3_now_3 : ∀ w ∈ wsX30, w ∈ wsX3_now := fun w h => (List.mem_cons_of_mem _ (List.mem_append_left _ (List.mem_append_right _ h)))
theorem wd_X3_now_1 : (.fieldLink RX3 43 "PourPlan" "today" "I" : Cond) ∈ wsX3_now := List.mem_of_getElem? (i := 1) rfl
theorem wd_X3_now_2 : (.fieldLink RX3 21 "PourPlan" "pieces" "LPourPlan$Pieces;" : Cond) ∈ wsX3_now := List.mem_of_getElem? (i := 2) rfl
theorem wd_X3_now_10 : (.instanceMethod yX1_unpourFrom : Cond) ∈ wsX3_now := List.mem_of_getElem? (i := 10) rfl
theorem wd_X3_now_11 : (.initialized RX1 : Cond) ∈ wsX3_now := List.mem_of_getElem? (i := 11) rfl
theorem wd_X3_now_12 : (.selects RX1 yX1_unpourFrom yX1_unpourFrom : Cond) ∈ wsX3_now := List.mem_of_getElem? (i := 12) rfl
set_option maxHeartbeats 1000000 in
theorem pf_X3_now_1 (td : Int32) (num : Int32) (d : Int32) (r_1 : Int32) (hn0 : 0 ≤ num) (hn1 : num ≤ 10) (w_2 : r_1 = bIn d 0 39) (c_4 : ¬ r_1 = 0) (c_5 : td ≤ d) : 0 ≤ num := by
  grind
set_option maxHeartbeats 1000000 in
theorem pf_X3_now_2 (td : Int32) (num : Int32) (d : Int32) (r_1 : Int32) (hn0 : 0 ≤ num) (hn1 : num ≤ 10) (w_2 : r_1 = bIn d 0 39) (c_4 : ¬ r_1 = 0) (c_5 : td ≤ d) : num ≤ 10 := by
  grind
set_option maxHeartbeats 4000000 in
set_option maxRecDepth 100000 in
theorem c_X3_now (l : Launch) (D : va_G) (cI cQ : ClassId) (sz : Nat) (x : Nat) (pi : Nat) (k5 : Nat) (cu : Nat) (sq : Nat) (fo : Nat) (bo : Nat) (gl : Int32) (td : Int32) (le : Int32) (k0 : Nat) (k1 : Nat) (k2 : Nat) (k3 : Nat) (k4 : Nat) (k6 : Nat) (k7 : Nat) (num : Int32) (p5 : Nat → Int32) (d : Int32) (hn0 : 0 ≤ num) (hn1 : num ≤ 10) : CtI l yX3_now wsX3_now 2 42 0 0 [.ref x, .int d] D [(cI, .int), (cQ, .array .int)] [(x, .inr (3, [.ref cu, .ref pi, .ref sq, .ref fo, .ref bo, .int gl, .int td, .int le])), (pi, .inr (1, [.ref k0, .ref k1, .ref k2, .ref k3, .ref k4, .ref k5, .ref k6, .ref k7, .int num])), (k5, .inl (cI, 10, .inl p5))] sz (fun (r : Int32) (u : Int32 × (Nat → Int32)) => True) (fun (u : Int32 × (Nat → Int32)) => [(x, .inr (3, [.ref cu, .ref pi, .ref sq, .ref fo, .ref bo, .int gl, .int u.1, .int le])), (pi, .inr (1, [.ref k0, .ref k1, .ref k2, .ref k3, .ref k4, .ref k5, .ref k6, .ref k7, .int num])), (k5, .inl (cI, 10, .inl u.2))]) := by
  refine Met.ofW (cc := cX3_now) (maxL := 2) (ret := (some .int)) (by decide) rfl ?_
  intro p e s m args below meth c s₁ B hml hv
  obtain ⟨rfl, hsz, hP, hK, hD0, hN⟩ := hv
  have hx := B.exec
  have hb := B.bytes
  have hr := B.returns
  have hts := atoms_spec (ws := wsX3_now) B.pre
  have hown : s.vm.findClass RX3 = some m.cls := findClass_of_methodNamed B.named
  have hlocks := B.notSynchronized
  subst hsz
  have hD := hD0.self (sz := s.heap.size)
  generalize hAe : va_A [(x, .inr (3, [.ref cu, .ref pi, .ref sq, .ref fo, .ref bo, .int gl, .int td, .int le])), (pi, .inr (1, [.ref k0, .ref k1, .ref k2, .ref k3, .ref k4, .ref k5, .ref k6, .ref k7, .int num])), (k5, .inl (cI, 10, .inl p5))] s.heap.size = A at hD ⊢
  have hA : ∀ q : Nat, s.heap.size ≤ q → A q := fun q h => by rw [← hAe]; exact Or.inr h
  have hS : va_S A s.heap s.heap [] := va_S.rf
  have hl := lv_entry ([.ref x, .int d]) (n := 2) (Nat.le_of_ble_eq_true rfl)
  rw [lg_entry_eq]
  generalize (lg_sl ([.ref x, .int d]) ++ List.replicate (2 - (lg_sl ([.ref x, .int d])).length) Slot.unset).toArray = ls at hl ⊢
  have hl : lv_has ls 2 [(0, .ref x), (1, .int d)] := hl
  have hP0 := hP
  refine lv_iload_n hx hb dX3_now_0 rfl (lv_at hl 1 rfl) ?_
  refine cc_i (wc := []) (wr := [(x, .inr (3, [.ref cu, .ref pi, .ref sq, .ref fo, .ref bo, .int gl, .int td, .int le])), (pi, .inr (1, [.ref k0, .ref k1, .ref k2, .ref k3, .ref k4, .ref k5, .ref k6, .ref k7, .int num])), (k5, .inl (cI, 10, .inl p5))]) (va_runS (As := [.int d]) (rest := []) ⟨hx, hb, hml, hown, hts⟩ (c_X3_isDay l D cI cQ s.heap.size d ) (va_cwS 1 hts gX3_now_X3_isDay rfl rfl rfl (by decide +kernel) ⟨Nat.le_of_ble_eq_true rfl, Nat.le_of_ble_eq_true rfl⟩) (preS (wc := []) hK hP hD hN [] rfl (by decide)) rfl rfl hl.1 rfl (lv_room (Nat.le_of_ble_eq_true rfl)) dX3_now_1 ⟨Nat.le_of_ble_eq_true rfl, Nat.le_of_ble_eq_true rfl⟩) hP hD hS hA [] [0, 1, 2] rfl rfl (by decide) (by decide) (fun r_1 u H locs w_2 hP hD hS => ?_)
  have hP : va_P D vwCl [(x, .inr (3, [.ref cu, .ref pi, .ref sq, .ref fo, .ref bo, .int gl, .int td, .int le])), (pi, .inr (1, [.ref k0, .ref k1, .ref k2, .ref k3, .ref k4, .ref k5, .ref k6, .ref k7, .int num])), (k5, .inl (cI, 10, .inl p5))] H := hP
  have hD : va_D A [(x, .inr (3, [.ref cu, .ref pi, .ref sq, .ref fo, .ref bo, .int gl, .int td, .int le])), (pi, .inr (1, [.ref k0, .ref k1, .ref k2, .ref k3, .ref k4, .ref k5, .ref k6, .ref k7, .int num])), (k5, .inl (cI, 10, .inl p5))] := hD
  have w_2 : r_1 = bIn d 0 39 := w_2
  refine lv_if_ne (tgt := 9) hx hb dX3_now_4 (by decide) (fun c_4 => ?_) (fun c_4 => ?_)
  · refine lv_iload_n hx hb dX3_now_9 rfl (lv_at hl 1 rfl) ?_
    refine lv_aload_n hx hb dX3_now_10 rfl (lv_at hl 0 rfl) ?_
    refine va_get (D := D) (ci := 3) (v := .int td) (C := RX3) (T := TX3) (N := 8) hx hb hts iw_X3_now_3 hown hK hP 0 rfl rfl 6 (by decide) (hts _ wd_X3_now_1) (fun _ h9 => h9) rfl dX3_now_11 ?_
    refine lv_icmp_ge (tgt := 20) hx hb dX3_now_14 (by decide) (fun c_5 => ?_) (fun c_5 => ?_)
    · refine lv_aload_n hx hb dX3_now_20 rfl (lv_at hl 0 rfl) ?_
      refine lv_iload_n hx hb dX3_now_21 rfl (lv_at hl 1 rfl) ?_
      refine va_put (D := D) (ci := 3) (v := .int d) (ty := .int) (C := RX3) (T := TX3) (N := 8) hx hb hts iw_X3_now_3 tyX3 tyX3_ok nmX3 hown hK hP hD hS 0 rfl rfl 6 (by decide) (hts _ wd_X3_now_1) (fun _ h9 => h9) rfl (by decide +kernel) rfl rfl (Nat.le_of_ble_eq_true rfl) dX3_now_22 (fun H locs hP hD hS => ?_)
      have hP : va_P D vwCl [(x, .inr (3, [.ref cu, .ref pi, .ref sq, .ref fo, .ref bo, .int gl, .int d, .int le])), (pi, .inr (1, [.ref k0, .ref k1, .ref k2, .ref k3, .ref k4, .ref k5, .ref k6, .ref k7, .int num])), (k5, .inl (cI, 10, .inl p5))] H := hP
      have hD : va_D A [(x, .inr (3, [.ref cu, .ref pi, .ref sq, .ref fo, .ref bo, .int gl, .int d, .int le])), (pi, .inr (1, [.ref k0, .ref k1, .ref k2, .ref k3, .ref k4, .ref k5, .ref k6, .ref k7, .int num])), (k5, .inl (cI, 10, .inl p5))] := hD
      refine lv_aload_n hx hb dX3_now_25 rfl (lv_at hl 0 rfl) ?_
      refine va_get (D := D) (ci := 3) (v := .ref pi) (C := RX3) (T := TX3) (N := 8) hx hb hts iw_X3_now_3 hown hK hP 0 rfl rfl 1 (by decide) (hts _ wd_X3_now_2) (fun _ h9 => h9) rfl dX3_now_26 ?_
      refine lv_iload_n hx hb dX3_now_29 rfl (lv_at hl 1 rfl) ?_
      refine cc_i (wc := [(pi, .inr (1, [.ref k0, .ref k1, .ref k2, .ref k3, .ref k4, .ref k5, .ref k6, .ref k7, .int num])), (k5, .inl (cI, 10, .inl p5))]) (wr := [(x, .inr (3, [.ref cu, .ref pi, .ref sq, .ref fo, .ref bo, .int gl, .int d, .int le]))]) (va_runVN (As := [.int d]) (rest := []) ⟨hx, hb, hml, hown, hts⟩ (c_X1_unpourFrom l D cI cQ H.size pi k5 k0 k1 k2 k3 k4 k6 k7 num p5 d (pf_X3_now_1 td num d r_1 hn0 hn1 w_2 c_4 c_5) (pf_X3_now_2 td num d r_1 hn0 hn1 w_2 c_4 c_5)) ⟨va_cnB 1 hts gX3_now_X1_unpourFrom_n141 rfl rfl rfl (nwM_141 hN) (hts _ wd_X3_now_11) (by decide +kernel) ⟨Nat.le_of_ble_eq_true rfl, Nat.le_of_ble_eq_true rfl⟩, (hts _ wd_X3_now_10), (hts _ wd_X3_now_12)⟩ (preV (wc := [(pi, .inr (1, [.ref k0, .ref k1, .ref k2, .ref k3, .ref k4, .ref k5, .ref k6, .ref k7, .int num])), (k5, .inl (cI, 10, .inl p5))]) (ci := 1) (q0 := 1) hK hP hD hN [1, 2] rfl (by decide) rfl rfl) rfl rfl hl.1 rfl (lv_room (Nat.le_of_ble_eq_true rfl)) dX3_now_30 ⟨Nat.le_of_ble_eq_true rfl, Nat.le_of_ble_eq_true rfl⟩) hP hD hS hA [1, 2] [0] rfl rfl (by decide) (by decide) (fun r_6 u H locs w_7 hP hD hS => ?_)
      obtain ⟨q5_8, rfl⟩ : ∃ z, z = u := ⟨_, rfl⟩
      have hP : va_P D vwCl [(x, .inr (3, [.ref cu, .ref pi, .ref sq, .ref fo, .ref bo, .int gl, .int d, .int le])), (pi, .inr (1, [.ref k0, .ref k1, .ref k2, .ref k3, .ref k4, .ref k5, .ref k6, .ref k7, .int num])), (k5, .inl (cI, 10, .inl q5_8))] H := hP
      have hD : va_D A [(x, .inr (3, [.ref cu, .ref pi, .ref sq, .ref fo, .ref bo, .int gl, .int d, .int le])), (pi, .inr (1, [.ref k0, .ref k1, .ref k2, .ref k3, .ref k4, .ref k5, .ref k6, .ref k7, .int num])), (k5, .inl (cI, 10, .inl q5_8))] := hD
      refine W.widen (k := 0) (n := 0) (Nat.le_of_ble_eq_true rfl) (Nat.le_of_ble_eq_true rfl) ?_
      exact fi_i (d, q5_8) hx hb hr hlocks hK (hP.sub [0, 1, 2] rfl) (hD.sub [0, 1, 2] (by decide) rfl) hS trivial dX3_now_33
    · refine lv_bipush (v := (-2)) hx hb dX3_now_17 (by decide) ?_
      refine W.widen (k := 0) (n := 0) (Nat.le_of_ble_eq_true rfl) (Nat.le_of_ble_eq_true rfl) ?_
      exact fi_i (td, p5) hx hb hr hlocks hK (hP.sub [0, 1, 2] rfl) (hD.sub [0, 1, 2] (by decide) rfl) hS trivial dX3_now_19
  · refine lv_iconst (v := (-1)) hx hb dX3_now_7 (by decide) ?_
    refine W.widen (k := 0) (n := 0) (Nat.le_of_ble_eq_true rfl) (Nat.le_of_ble_eq_true rfl) ?_
    exact fi_i (td, p5) hx hb hr hlocks hK (hP.sub [0, 1, 2] rfl) (hD.sub [0, 1, 2] (by decide) rfl) hS trivial dX3_now_8

theorem iw_X3_bound_1 : ∀ w ∈ wsX10, w ∈ wsX3_bound := fun w h => (List.mem_cons_of_mem _ (List.mem_append_right _ h))
theorem iw_X3_bound_3 : ∀ w ∈ wsX30, w ∈ wsX3_bound := fun w h => (List.mem_cons_of_mem _ (List.mem_append_left _ (List.mem_append_right _ h)))
theorem wd_X3_bound_1 : (.fieldLink RX3 21 "PourPlan" "pieces" "LPourPlan$Pieces;" : Cond) ∈ wsX3_bound := List.mem_of_getElem? (i := 1) rfl
theorem wd_X3_bound_2 : (.instanceMethod yX1_longestLead : Cond) ∈ wsX3_bound := List.mem_of_getElem? (i := 2) rfl
theorem wd_X3_bound_3 : (.initialized RX1 : Cond) ∈ wsX3_bound := List.mem_of_getElem? (i := 3) rfl
theorem wd_X3_bound_4 : (.selects RX1 yX1_longestLead yX1_longestLead : Cond) ∈ wsX3_bound := List.mem_of_getElem? (i := 4) rfl
set_option maxHeartbeats 1000000 in
theorem pf_X3_bound_1 (num : Int32) (hn0 : 0 ≤ num) (hn1 : num ≤ 10) (c_1 : ¬ num = 0) : 0 ≤ num := by
  grind
set_option maxHeartbeats 1000000 in
theorem pf_X3_bound_2 (num : Int32) (hn0 : 0 ≤ num) (hn1 : num ≤ 10) (c_1 : ¬ num = 0) : num ≤ 10 := by
  grind
set_option maxHeartbeats 4000000 in
set_option maxRecDepth 100000 in
theorem c_X3_bound (l : Launch) (D : va_G) (cI cQ : ClassId) (sz : Nat) (x : Nat) (pi : Nat) (k7 : Nat) (k6 : Nat) (cu : Nat) (sq : Nat) (fo : Nat) (bo : Nat) (gl : Int32) (td : Int32) (le : Int32) (k0 : Nat) (k1 : Nat) (k2 : Nat) (k3 : Nat) (k4 : Nat) (k5 : Nat) (num : Int32) (p7 : Nat → Int32) (R : Nat → Nat) (M : Nat → Nat → Int32) (hn0 : 0 ≤ num) (hn1 : num ≤ 10) : CtI l yX3_bound wsX3_bound 3 66 0 0 [.ref x] D [(cI, .int), (cQ, .array .int)] [(x, .inr (3, [.ref cu, .ref pi, .ref sq, .ref fo, .ref bo, .int gl, .int td, .int le])), (pi, .inr (1, [.ref k0, .ref k1, .ref k2, .ref k3, .ref k4, .ref k5, .ref k6, .ref k7, .int num])), (k7, .inl (cI, 10, .inl p7)), (k6, .inl (cQ, 10, .inr (.inr (.inr (.inr (fun i => if i < 10 then some (R i) else none)))))), ((R 0), .inl (cI, 10, .inl (M 0))), ((R 1), .inl (cI, 10, .inl (M 1))), ((R 2), .inl (cI, 10, .inl (M 2))), ((R 3), .inl (cI, 10, .inl (M 3))), ((R 4), .inl (cI, 10, .inl (M 4))), ((R 5), .inl (cI, 10, .inl (M 5))), ((R 6), .inl (cI, 10, .inl (M 6))), ((R 7), .inl (cI, 10, .inl (M 7))), ((R 8), .inl (cI, 10, .inl (M 8))), ((R 9), .inl (cI, 10, .inl (M 9)))] sz (fun (r : Int32) (u : (Nat → Int32)) => True) (fun (u : (Nat → Int32)) => [(x, .inr (3, [.ref cu, .ref pi, .ref sq, .ref fo, .ref bo, .int gl, .int td, .int le])), (pi, .inr (1, [.ref k0, .ref k1, .ref k2, .ref k3, .ref k4, .ref k5, .ref k6, .ref k7, .int num])), (k7, .inl (cI, 10, .inl u)), (k6, .inl (cQ, 10, .inr (.inr (.inr (.inr (fun i => if i < 10 then some (R i) else none)))))), ((R 0), .inl (cI, 10, .inl (M 0))), ((R 1), .inl (cI, 10, .inl (M 1))), ((R 2), .inl (cI, 10, .inl (M 2))), ((R 3), .inl (cI, 10, .inl (M 3))), ((R 4), .inl (cI, 10, .inl (M 4))), ((R 5), .inl (cI, 10, .inl (M 5))), ((R 6), .inl (cI, 10, .inl (M 6))), ((R 7), .inl (cI, 10, .inl (M 7))), ((R 8), .inl (cI, 10, .inl (M 8))), ((R 9), .inl (cI, 10, .inl (M 9)))]) := by
  refine Met.ofW (cc := cX3_bound) (maxL := 1) (ret := (some .int)) (by decide) rfl ?_
  intro p e s m args below meth c s₁ B hml hv
  obtain ⟨rfl, hsz, hP, hK, hD0, hN⟩ := hv
  have hx := B.exec
  have hb := B.bytes
  have hr := B.returns
  have hts := atoms_spec (ws := wsX3_bound) B.pre
  have hown : s.vm.findClass RX3 = some m.cls := findClass_of_methodNamed B.named
  have hlocks := B.notSynchronized
  subst hsz
  have hD := hD0.self (sz := s.heap.size)
  generalize hAe : va_A [(x, .inr (3, [.ref cu, .ref pi, .ref sq, .ref fo, .ref bo, .int gl, .int td, .int le])), (pi, .inr (1, [.ref k0, .ref k1, .ref k2, .ref k3, .ref k4, .ref k5, .ref k6, .ref k7, .int num])), (k7, .inl (cI, 10, .inl p7)), (k6, .inl (cQ, 10, .inr (.inr (.inr (.inr (fun i => if i < 10 then some (R i) else none)))))), ((R 0), .inl (cI, 10, .inl (M 0))), ((R 1), .inl (cI, 10, .inl (M 1))), ((R 2), .inl (cI, 10, .inl (M 2))), ((R 3), .inl (cI, 10, .inl (M 3))), ((R 4), .inl (cI, 10, .inl (M 4))), ((R 5), .inl (cI, 10, .inl (M 5))), ((R 6), .inl (cI, 10, .inl (M 6))), ((R 7), .inl (cI, 10, .inl (M 7))), ((R 8), .inl (cI, 10, .inl (M 8))), ((R 9), .inl (cI, 10, .inl (M 9)))] s.heap.size = A at hD ⊢
  have hA : ∀ q : Nat, s.heap.size ≤ q → A q := fun q h => by rw [← hAe]; exact Or.inr h
  have hS : va_S A s.heap s.heap [] := va_S.rf
  have hl := lv_entry ([.ref x]) (n := 1) (Nat.le_of_ble_eq_true rfl)
  rw [lg_entry_eq]
  generalize (lg_sl ([.ref x]) ++ List.replicate (1 - (lg_sl ([.ref x])).length) Slot.unset).toArray = ls at hl ⊢
  have hl : lv_has ls 1 [(0, .ref x)] := hl
  have hP0 := hP
  refine lv_aload_n hx hb dX3_bound_0 rfl (lv_at hl 0 rfl) ?_
  refine va_get (D := D) (ci := 3) (v := .ref pi) (C := RX3) (T := TX3) (N := 8) hx hb hts iw_X3_bound_3 hown hK hP 0 rfl rfl 1 (by decide) (hts _ wd_X3_bound_1) (fun _ h9 => h9) rfl dX3_bound_1 ?_
  refine va_getN (D := D) (ci := 1) (v := .int num) (C := RX1) (T := TX1) (N := 9) hx hb hts iw_X3_bound_1 hown hK hP 1 rfl rfl 8 (by decide) (va_Nw.use rfl (nwF_53 hN)) (fun _ h9 => h9) rfl dX3_bound_4 ?_
  refine lv_if_ne (tgt := 14) hx hb dX3_bound_7 (by decide) (fun c_1 => ?_) (fun c_1 => ?_)
  · refine lv_aload_n hx hb dX3_bound_14 rfl (lv_at hl 0 rfl) ?_
    refine va_get (D := D) (ci := 3) (v := .ref pi) (C := RX3) (T := TX3) (N := 8) hx hb hts iw_X3_bound_3 hown hK hP 0 rfl rfl 1 (by decide) (hts _ wd_X3_bound_1) (fun _ h9 => h9) rfl dX3_bound_15 ?_
    refine cc_i (wc := [(pi, .inr (1, [.ref k0, .ref k1, .ref k2, .ref k3, .ref k4, .ref k5, .ref k6, .ref k7, .int num])), (k7, .inl (cI, 10, .inl p7)), (k6, .inl (cQ, 10, .inr (.inr (.inr (.inr (fun i => if i < 10 then some (R i) else none)))))), ((R 0), .inl (cI, 10, .inl (M 0))), ((R 1), .inl (cI, 10, .inl (M 1))), ((R 2), .inl (cI, 10, .inl (M 2))), ((R 3), .inl (cI, 10, .inl (M 3))), ((R 4), .inl (cI, 10, .inl (M 4))), ((R 5), .inl (cI, 10, .inl (M 5))), ((R 6), .inl (cI, 10, .inl (M 6))), ((R 7), .inl (cI, 10, .inl (M 7))), ((R 8), .inl (cI, 10, .inl (M 8))), ((R 9), .inl (cI, 10, .inl (M 9)))]) (wr := [(x, .inr (3, [.ref cu, .ref pi, .ref sq, .ref fo, .ref bo, .int gl, .int td, .int le]))]) (va_runVN (As := []) (rest := []) ⟨hx, hb, hml, hown, hts⟩ (c_X1_longestLead l D cI cQ s.heap.size pi k7 k6 k0 k1 k2 k3 k4 k5 num p7 R M (pf_X3_bound_1 num hn0 hn1 c_1) (pf_X3_bound_2 num hn0 hn1 c_1)) ⟨va_cnB 0 hts gX3_bound_X1_longestLead_n144 rfl rfl rfl (nwM_144 hN) (hts _ wd_X3_bound_3) (by decide +kernel) ⟨Nat.le_of_ble_eq_true rfl, Nat.le_of_ble_eq_true rfl⟩, (hts _ wd_X3_bound_2), (hts _ wd_X3_bound_4)⟩ (preV (wc := [(pi, .inr (1, [.ref k0, .ref k1, .ref k2, .ref k3, .ref k4, .ref k5, .ref k6, .ref k7, .int num])), (k7, .inl (cI, 10, .inl p7)), (k6, .inl (cQ, 10, .inr (.inr (.inr (.inr (fun i => if i < 10 then some (R i) else none)))))), ((R 0), .inl (cI, 10, .inl (M 0))), ((R 1), .inl (cI, 10, .inl (M 1))), ((R 2), .inl (cI, 10, .inl (M 2))), ((R 3), .inl (cI, 10, .inl (M 3))), ((R 4), .inl (cI, 10, .inl (M 4))), ((R 5), .inl (cI, 10, .inl (M 5))), ((R 6), .inl (cI, 10, .inl (M 6))), ((R 7), .inl (cI, 10, .inl (M 7))), ((R 8), .inl (cI, 10, .inl (M 8))), ((R 9), .inl (cI, 10, .inl (M 9)))]) (ci := 1) (q0 := 1) hK hP hD hN [1, 2, 3, 4, 5, 6, 7, 8, 9, 10, 11, 12, 13] rfl (by decide) rfl rfl) rfl rfl hl.1 rfl (lv_room (Nat.le_of_ble_eq_true rfl)) dX3_bound_18 ⟨Nat.le_of_ble_eq_true rfl, Nat.le_of_ble_eq_true rfl⟩) hP hD hS hA [1, 2, 3, 4, 5, 6, 7, 8, 9, 10, 11, 12, 13] [0] rfl rfl (by decide) (by decide) (fun r_2 u H locs w_3 hP hD hS => ?_)
    obtain ⟨q7_4, rfl⟩ : ∃ z, z = u := ⟨_, rfl⟩
    have hP : va_P D vwCl [(x, .inr (3, [.ref cu, .ref pi, .ref sq, .ref fo, .ref bo, .int gl, .int td, .int le])), (pi, .inr (1, [.ref k0, .ref k1, .ref k2, .ref k3, .ref k4, .ref k5, .ref k6, .ref k7, .int num])), (k7, .inl (cI, 10, .inl q7_4)), (k6, .inl (cQ, 10, .inr (.inr (.inr (.inr (fun i => if i < 10 then some (R i) else none)))))), ((R 0), .inl (cI, 10, .inl (M 0))), ((R 1), .inl (cI, 10, .inl (M 1))), ((R 2), .inl (cI, 10, .inl (M 2))), ((R 3), .inl (cI, 10, .inl (M 3))), ((R 4), .inl (cI, 10, .inl (M 4))), ((R 5), .inl (cI, 10, .inl (M 5))), ((R 6), .inl (cI, 10, .inl (M 6))), ((R 7), .inl (cI, 10, .inl (M 7))), ((R 8), .inl (cI, 10, .inl (M 8))), ((R 9), .inl (cI, 10, .inl (M 9)))] H := hP
    have hD : va_D A [(x, .inr (3, [.ref cu, .ref pi, .ref sq, .ref fo, .ref bo, .int gl, .int td, .int le])), (pi, .inr (1, [.ref k0, .ref k1, .ref k2, .ref k3, .ref k4, .ref k5, .ref k6, .ref k7, .int num])), (k7, .inl (cI, 10, .inl q7_4)), (k6, .inl (cQ, 10, .inr (.inr (.inr (.inr (fun i => if i < 10 then some (R i) else none)))))), ((R 0), .inl (cI, 10, .inl (M 0))), ((R 1), .inl (cI, 10, .inl (M 1))), ((R 2), .inl (cI, 10, .inl (M 2))), ((R 3), .inl (cI, 10, .inl (M 3))), ((R 4), .inl (cI, 10, .inl (M 4))), ((R 5), .inl (cI, 10, .inl (M 5))), ((R 6), .inl (cI, 10, .inl (M 6))), ((R 7), .inl (cI, 10, .inl (M 7))), ((R 8), .inl (cI, 10, .inl (M 8))), ((R 9), .inl (cI, 10, .inl (M 9)))] := hD
    refine lv_iconst (v := 1) hx hb dX3_bound_21 (by decide) ?_
    refine lv_iadd hx hb dX3_bound_22 ?_
    refine lv_topi (fun v_5 ev_5 => ?_)
    refine W.widen (k := 0) (n := 0) (Nat.le_of_ble_eq_true rfl) (Nat.le_of_ble_eq_true rfl) ?_
    exact fi_i q7_4 hx hb hr hlocks hK (hP.sub [0, 1, 2, 3, 4, 5, 6, 7, 8, 9, 10, 11, 12, 13] rfl) (hD.sub [0, 1, 2, 3, 4, 5, 6, 7, 8, 9, 10, 11, 12, 13] (by decide) rfl) hS trivial dX3_bound_23
  · refine lv_iconst (v := 0) hx hb dX3_bound_10 (by decide) ?_
    refine lv_goto (tgt := 23) hx hb dX3_bound_11 (by decide) ?_
    refine W.widen (k := 0) (n := 0) (Nat.le_of_ble_eq_true rfl) (Nat.le_of_ble_eq_true rfl) ?_
    exact fi_i p7 hx hb hr hlocks hK (hP.sub [0, 1, 2, 3, 4, 5, 6, 7, 8, 9, 10, 11, 12, 13] rfl) (hD.sub [0, 1, 2, 3, 4, 5, 6, 7, 8, 9, 10, 11, 12, 13] (by decide) rfl) hS trivial dX3_bound_23

theorem iw_X3_about_1 : ∀ w ∈ wsX10, w ∈ wsX3_about := fun w h => (List.mem_cons_of_mem _ (List.mem_append_left _ (List.mem_append_left _ (List.mem_append_right _ h))))
theorem iw_X3_about_3 : ∀ w ∈ wsX30, w ∈ wsX3_about := fun w h => (List.mem_cons_of_mem _ (List.mem_append_left _ (List.mem_append_left _ (List.mem_append_left _ (List.mem_append_right _ h)))))
theorem wd_X3_about_1 : (.fieldLink RX3 21 "PourPlan" "pieces" "LPourPlan$Pieces;" : Cond) ∈ wsX3_about := List.mem_of_getElem? (i := 1) rfl
theorem wd_X3_about_2 : (.fieldLink RX3 14 "PourPlan" "curing" "LPourPlan$Curing;" : Cond) ∈ wsX3_about := List.mem_of_getElem? (i := 2) rfl
theorem wd_X3_about_3 : (.fieldLink RX3 28 "PourPlan" "sequence" "LPourPlan$Sequence;" : Cond) ∈ wsX3_about := List.mem_of_getElem? (i := 3) rfl
theorem wd_X3_about_4 : (.instanceMethod yX1_has : Cond) ∈ wsX3_about := List.mem_of_getElem? (i := 4) rfl
theorem wd_X3_about_5 : (.initialized RX1 : Cond) ∈ wsX3_about := List.mem_of_getElem? (i := 5) rfl
theorem wd_X3_about_6 : (.selects RX1 yX1_has yX1_has : Cond) ∈ wsX3_about := List.mem_of_getElem? (i := 6) rfl
theorem wd_X3_about_9 : (.instanceMethod yX0_stripDayFor : Cond) ∈ wsX3_about := List.mem_of_getElem? (i := 9) rfl
theorem wd_X3_about_10 : (.initialized RX0 : Cond) ∈ wsX3_about := List.mem_of_getElem? (i := 10) rfl
theorem wd_X3_about_11 : (.selects RX0 yX0_stripDayFor yX0_stripDayFor : Cond) ∈ wsX3_about := List.mem_of_getElem? (i := 11) rfl
theorem wd_X3_about_14 : (.instanceMethod yX2_placeOf : Cond) ∈ wsX3_about := List.mem_of_getElem? (i := 14) rfl
theorem wd_X3_about_15 : (.initialized RX2 : Cond) ∈ wsX3_about := List.mem_of_getElem? (i := 15) rfl
theorem wd_X3_about_16 : (.selects RX2 yX2_placeOf yX2_placeOf : Cond) ∈ wsX3_about := List.mem_of_getElem? (i := 16) rfl
set_option maxHeartbeats 1000000 in
theorem pf_X3_about_1 (fs : Nat → Int32) (num : Int32) (a : Int32) (w : Int32) (r_1 : Int32) (hn0 : 0 ≤ num) (hn1 : num ≤ 10) (hs : okS fs) (w_2 : r_1 = bHas a num) (c_4 : ¬ r_1 = 0) (c_5 : w = 0) : vp_in a 10 := by
  exact vi_in (M := 10) rfl (by grind [bHas]) (by grind [bHas])
set_option maxHeartbeats 1000000 in
theorem pf_X3_about_2 (fs : Nat → Int32) (num : Int32) (a : Int32) (w : Int32) (r_1 : Int32) (hn0 : 0 ≤ num) (hn1 : num ≤ 10) (hs : okS fs) (w_2 : r_1 = bHas a num) (c_4 : ¬ r_1 = 0) (c_5 : ¬ w = 0) (c_7 : w = 1) : vp_in a 10 := by
  exact vi_in (M := 10) rfl (by grind [bHas]) (by grind [bHas])
set_option maxHeartbeats 1000000 in
theorem pf_X3_about_3 (fs : Nat → Int32) (num : Int32) (a : Int32) (w : Int32) (r_1 : Int32) (hn0 : 0 ≤ num) (hn1 : num ≤ 10) (hs : okS fs) (w_2 : r_1 = bHas a num) (c_4 : ¬ r_1 = 0) (c_5 : ¬ w = 0) (c_7 : ¬ w = 1) (c_9 : w = 2) : vp_in a 10 := by
  exact vi_in (M := 10) rfl (by grind [bHas]) (by grind [bHas])
set_option maxHeartbeats 1000000 in
theorem pf_X3_about_4 (fs : Nat → Int32) (num : Int32) (a : Int32) (w : Int32) (r_1 : Int32) (hn0 : 0 ≤ num) (hn1 : num ≤ 10) (hs : okS fs) (w_2 : r_1 = bHas a num) (c_4 : ¬ r_1 = 0) (c_5 : ¬ w = 0) (c_7 : ¬ w = 1) (c_9 : ¬ w = 2) (c_11 : w = 3) : vp_in a 10 := by
  exact vi_in (M := 10) rfl (by grind [bHas]) (by grind [bHas])
set_option maxHeartbeats 1000000 in
theorem pf_X3_about_5 (fs : Nat → Int32) (num : Int32) (a : Int32) (w : Int32) (r_1 : Int32) (hn0 : 0 ≤ num) (hn1 : num ≤ 10) (hs : okS fs) (w_2 : r_1 = bHas a num) (c_4 : ¬ r_1 = 0) (c_5 : ¬ w = 0) (c_7 : ¬ w = 1) (c_9 : ¬ w = 2) (c_11 : ¬ w = 3) (c_13 : w = 4) : vp_in a 10 := by
  exact vi_in (M := 10) rfl (by grind [bHas]) (by grind [bHas])
set_option maxHeartbeats 1000000 in
theorem pf_X3_about_6 (fs : Nat → Int32) (num : Int32) (a : Int32) (w : Int32) (r_1 : Int32) (hn0 : 0 ≤ num) (hn1 : num ≤ 10) (hs : okS fs) (w_2 : r_1 = bHas a num) (c_4 : ¬ r_1 = 0) (c_5 : ¬ w = 0) (c_7 : ¬ w = 1) (c_9 : ¬ w = 2) (c_11 : ¬ w = 3) (c_13 : ¬ w = 4) (c_15 : w = 5) : vp_in a 10 := by
  exact vi_in (M := 10) rfl (by grind [bHas]) (by grind [bHas])
set_option maxHeartbeats 1000000 in
theorem pf_X3_about_7 (fs : Nat → Int32) (num : Int32) (a : Int32) (w : Int32) (r_1 : Int32) (hn0 : 0 ≤ num) (hn1 : num ≤ 10) (hs : okS fs) (w_2 : r_1 = bHas a num) (c_4 : ¬ r_1 = 0) (c_5 : ¬ w = 0) (c_7 : ¬ w = 1) (c_9 : ¬ w = 2) (c_11 : ¬ w = 3) (c_13 : ¬ w = 4) (c_15 : ¬ w = 5) (c_17 : w = 6) : vp_in a 10 := by
  exact vi_in (M := 10) rfl (by grind [bHas]) (by grind [bHas])
set_option maxHeartbeats 1000000 in
theorem pf_X3_about_8 (fs : Nat → Int32) (num : Int32) (p5 : Nat → Int32) (a : Int32) (w : Int32) (r_1 : Int32) (v_18 : Int32) (hn0 : 0 ≤ num) (hn1 : num ≤ 10) (hs : okS fs) (w_2 : r_1 = bHas a num) (c_4 : ¬ r_1 = 0) (c_5 : ¬ w = 0) (c_7 : ¬ w = 1) (c_9 : ¬ w = 2) (c_11 : ¬ w = 3) (c_13 : ¬ w = 4) (c_15 : ¬ w = 5) (c_17 : w = 6) (ev_18 : v_18 = p5 a.toNatClampNeg) (c_19 : ¬ v_18 = (-1)) : vp_in a 10 := by
  exact vi_in (M := 10) rfl (by grind [bHas]) (by grind [bHas])
set_option maxHeartbeats 1000000 in
theorem pf_X3_about_9 (fs : Nat → Int32) (num : Int32) (p5 : Nat → Int32) (a : Int32) (w : Int32) (r_1 : Int32) (v_18 : Int32) (v_20 : Int32) (hn0 : 0 ≤ num) (hn1 : num ≤ 10) (hs : okS fs) (w_2 : r_1 = bHas a num) (c_4 : ¬ r_1 = 0) (c_5 : ¬ w = 0) (c_7 : ¬ w = 1) (c_9 : ¬ w = 2) (c_11 : ¬ w = 3) (c_13 : ¬ w = 4) (c_15 : ¬ w = 5) (c_17 : w = 6) (ev_18 : v_18 = p5 a.toNatClampNeg) (c_19 : ¬ v_18 = (-1)) (ev_20 : v_20 = p5 a.toNatClampNeg) : okS fs := by
  exact hs
set_option maxHeartbeats 1000000 in
theorem pf_X3_about_10 (fs : Nat → Int32) (num : Int32) (a : Int32) (w : Int32) (r_1 : Int32) (hn0 : 0 ≤ num) (hn1 : num ≤ 10) (hs : okS fs) (w_2 : r_1 = bHas a num) (c_4 : ¬ r_1 = 0) (c_5 : ¬ w = 0) (c_7 : ¬ w = 1) (c_9 : ¬ w = 2) (c_11 : ¬ w = 3) (c_13 : ¬ w = 4) (c_15 : ¬ w = 5) (c_17 : ¬ w = 6) (c_24 : w = 7) : 0 ≤ num := by
  grind [bHas]
set_option maxHeartbeats 1000000 in
theorem pf_X3_about_11 (fs : Nat → Int32) (num : Int32) (a : Int32) (w : Int32) (r_1 : Int32) (hn0 : 0 ≤ num) (hn1 : num ≤ 10) (hs : okS fs) (w_2 : r_1 = bHas a num) (c_4 : ¬ r_1 = 0) (c_5 : ¬ w = 0) (c_7 : ¬ w = 1) (c_9 : ¬ w = 2) (c_11 : ¬ w = 3) (c_13 : ¬ w = 4) (c_15 : ¬ w = 5) (c_17 : ¬ w = 6) (c_24 : w = 7) : num ≤ 10 := by
  grind [bHas]
set_option maxHeartbeats 1000000 in
theorem pf_X3_about_12 (fs : Nat → Int32) (num : Int32) (a : Int32) (w : Int32) (r_1 : Int32) (hn0 : 0 ≤ num) (hn1 : num ≤ 10) (hs : okS fs) (w_2 : r_1 = bHas a num) (c_4 : ¬ r_1 = 0) (c_5 : ¬ w = 0) (c_7 : ¬ w = 1) (c_9 : ¬ w = 2) (c_11 : ¬ w = 3) (c_13 : ¬ w = 4) (c_15 : ¬ w = 5) (c_17 : ¬ w = 6) (c_24 : ¬ w = 7) : (w).toInt < 0 ∨ 7 < (w).toInt := by
  exact tb_out (M := 7) rfl (by grind)
set_option maxHeartbeats 4000000 in
set_option maxRecDepth 100000 in
theorem c_X3_about (l : Launch) (D : va_G) (cI cQ : ClassId) (sz : Nat) (x : Nat) (cu : Nat) (a5 : Nat) (pi : Nat) (k0 : Nat) (k1 : Nat) (k2 : Nat) (k3 : Nat) (k4 : Nat) (k5 : Nat) (sq : Nat) (s0 : Nat) (fo : Nat) (bo : Nat) (gl : Int32) (td : Int32) (le : Int32) (a0 : Nat) (a1 : Nat) (a2 : Nat) (a3 : Nat) (a4 : Nat) (bw : Int32) (pts : Int32) (fs : Nat → Int32) (k6 : Nat) (k7 : Nat) (num : Int32) (p0 : Nat → Int32) (p1 : Nat → Int32) (p2 : Nat → Int32) (p3 : Nat → Int32) (p4 : Nat → Int32) (p5 : Nat → Int32) (sf : Nat → Int32) (a : Int32) (w : Int32) (hn0 : 0 ≤ num) (hn1 : num ≤ 10) (hs : okS fs) : CtI l yX3_about wsX3_about 1 22 0 0 [.ref x, .int a, .int w] D [(cI, .int), (cQ, .array .int)] [(x, .inr (3, [.ref cu, .ref pi, .ref sq, .ref fo, .ref bo, .int gl, .int td, .int le])), (cu, .inr (0, [.ref a0, .ref a1, .ref a2, .ref a3, .ref a4, .ref a5, .int bw, .int pts])), (a5, .inl (cI, 40, .inl fs)), (pi, .inr (1, [.ref k0, .ref k1, .ref k2, .ref k3, .ref k4, .ref k5, .ref k6, .ref k7, .int num])), (k0, .inl (cI, 10, .inl p0)), (k1, .inl (cI, 10, .inl p1)), (k2, .inl (cI, 10, .inl p2)), (k3, .inl (cI, 10, .inl p3)), (k4, .inl (cI, 10, .inl p4)), (k5, .inl (cI, 10, .inl p5)), (sq, .inr (2, [.ref s0, .int num])), (s0, .inl (cI, 10, .inl sf))] sz (fun (r : Int32) (u : Unit) => True) (fun (u : Unit) => [(x, .inr (3, [.ref cu, .ref pi, .ref sq, .ref fo, .ref bo, .int gl, .int td, .int le])), (cu, .inr (0, [.ref a0, .ref a1, .ref a2, .ref a3, .ref a4, .ref a5, .int bw, .int pts])), (a5, .inl (cI, 40, .inl fs)), (pi, .inr (1, [.ref k0, .ref k1, .ref k2, .ref k3, .ref k4, .ref k5, .ref k6, .ref k7, .int num])), (k0, .inl (cI, 10, .inl p0)), (k1, .inl (cI, 10, .inl p1)), (k2, .inl (cI, 10, .inl p2)), (k3, .inl (cI, 10, .inl p3)), (k4, .inl (cI, 10, .inl p4)), (k5, .inl (cI, 10, .inl p5)), (sq, .inr (2, [.ref s0, .int num])), (s0, .inl (cI, 10, .inl sf))]) := by
  refine Met.ofW (cc := cX3_about) (maxL := 3) (ret := (some .int)) (by decide) rfl ?_
  intro p e s m args below meth c s₁ B hml hv
  obtain ⟨rfl, hsz, hP, hK, hD0, hN⟩ := hv
  have hx := B.exec
  have hb := B.bytes
  have hr := B.returns
  have hts := atoms_spec (ws := wsX3_about) B.pre
  have hown : s.vm.findClass RX3 = some m.cls := findClass_of_methodNamed B.named
  have hlocks := B.notSynchronized
  subst hsz
  have hD := hD0.self (sz := s.heap.size)
  generalize hAe : va_A [(x, .inr (3, [.ref cu, .ref pi, .ref sq, .ref fo, .ref bo, .int gl, .int td, .int le])), (cu, .inr (0, [.ref a0, .ref a1, .ref a2, .ref a3, .ref a4, .ref a5, .int bw, .int pts])), (a5, .inl (cI, 40, .inl fs)), (pi, .inr (1, [.ref k0, .ref k1, .ref k2, .ref k3, .ref k4, .ref k5, .ref k6, .ref k7, .int num])), (k0, .inl (cI, 10, .inl p0)), (k1, .inl (cI, 10, .inl p1)), (k2, .inl (cI, 10, .inl p2)), (k3, .inl (cI, 10, .inl p3)), (k4, .inl (cI, 10, .inl p4)), (k5, .inl (cI, 10, .inl p5)), (sq, .inr (2, [.ref s0, .int num])), (s0, .inl (cI, 10, .inl sf))] s.heap.size = A at hD ⊢
  have hA : ∀ q : Nat, s.heap.size ≤ q → A q := fun q h => by rw [← hAe]; exact Or.inr h
  have hS : va_S A s.heap s.heap [] := va_S.rf
  have hl := lv_entry ([.ref x, .int a, .int w]) (n := 3) (Nat.le_of_ble_eq_true rfl)
  rw [lg_entry_eq]
  generalize (lg_sl ([.ref x, .int a, .int w]) ++ List.replicate (3 - (lg_sl ([.ref x, .int a, .int w])).length) Slot.unset).toArray = ls at hl ⊢
  have hl : lv_has ls 3 [(0, .ref x), (1, .int a), (2, .int w)] := hl
  have hP0 := hP
  refine lv_aload_n hx hb dX3_about_0 rfl (lv_at hl 0 rfl) ?_
  refine va_get (D := D) (ci := 3) (v := .ref pi) (C := RX3) (T := TX3) (N := 8) hx hb hts iw_X3_about_3 hown hK hP 0 rfl rfl 1 (by decide) (hts _ wd_X3_about_1) (fun _ h9 => h9) rfl dX3_about_1 ?_
  refine lv_iload_n hx hb dX3_about_4 rfl (lv_at hl 1 rfl) ?_
  refine cc_i (wc := [(pi, .inr (1, [.ref k0, .ref k1, .ref k2, .ref k3, .ref k4, .ref k5, .ref k6, .ref k7, .int num]))]) (wr := [(x, .inr (3, [.ref cu, .ref pi, .ref sq, .ref fo, .ref bo, .int gl, .int td, .int le])), (cu, .inr (0, [.ref a0, .ref a1, .ref a2, .ref a3, .ref a4, .ref a5, .int bw, .int pts])), (a5, .inl (cI, 40, .inl fs)), (k0, .inl (cI, 10, .inl p0)), (k1, .inl (cI, 10, .inl p1)), (k2, .inl (cI, 10, .inl p2)), (k3, .inl (cI, 10, .inl p3)), (k4, .inl (cI, 10, .inl p4)), (k5, .inl (cI, 10, .inl p5)), (sq, .inr (2, [.ref s0, .int num])), (s0, .inl (cI, 10, .inl sf))]) (va_runVN (As := [.int a]) (rest := []) ⟨hx, hb, hml, hown, hts⟩ (c_X1_has l D cI cQ s.heap.size pi k0 k1 k2 k3 k4 k5 k6 k7 num a ) ⟨va_cnB 1 hts gX3_about_X1_has_n64 rfl rfl rfl (nwM_64 hN) (hts _ wd_X3_about_5) (by decide +kernel) ⟨Nat.le_of_ble_eq_true rfl, Nat.le_of_ble_eq_true rfl⟩, (hts _ wd_X3_about_4), (hts _ wd_X3_about_6)⟩ (preV (wc := [(pi, .inr (1, [.ref k0, .ref k1, .ref k2, .ref k3, .ref k4, .ref k5, .ref k6, .ref k7, .int num]))]) (ci := 1) (q0 := 3) hK hP hD hN [3] rfl (by decide) rfl rfl) rfl rfl hl.1 rfl (lv_room (Nat.le_of_ble_eq_true rfl)) dX3_about_5 ⟨Nat.le_of_ble_eq_true rfl, Nat.le_of_ble_eq_true rfl⟩) hP hD hS hA [3] [0, 1, 2, 4, 5, 6, 7, 8, 9, 10, 11] rfl rfl (by decide) (by decide) (fun r_1 u H locs w_2 hP hD hS => ?_)
  have hP : va_P D vwCl [(x, .inr (3, [.ref cu, .ref pi, .ref sq, .ref fo, .ref bo, .int gl, .int td, .int le])), (cu, .inr (0, [.ref a0, .ref a1, .ref a2, .ref a3, .ref a4, .ref a5, .int bw, .int pts])), (a5, .inl (cI, 40, .inl fs)), (k0, .inl (cI, 10, .inl p0)), (k1, .inl (cI, 10, .inl p1)), (k2, .inl (cI, 10, .inl p2)), (k3, .inl (cI, 10, .inl p3)), (k4, .inl (cI, 10, .inl p4)), (k5, .inl (cI, 10, .inl p5)), (sq, .inr (2, [.ref s0, .int num])), (s0, .inl (cI, 10, .inl sf)), (pi, .inr (1, [.ref k0, .ref k1, .ref k2, .ref k3, .ref k4, .ref k5, .ref k6, .ref k7, .int num]))] H := hP
  have hD : va_D A [(x, .inr (3, [.ref cu, .ref pi, .ref sq, .ref fo, .ref bo, .int gl, .int td, .int le])), (cu, .inr (0, [.ref a0, .ref a1, .ref a2, .ref a3, .ref a4, .ref a5, .int bw, .int pts])), (a5, .inl (cI, 40, .inl fs)), (k0, .inl (cI, 10, .inl p0)), (k1, .inl (cI, 10, .inl p1)), (k2, .inl (cI, 10, .inl p2)), (k3, .inl (cI, 10, .inl p3)), (k4, .inl (cI, 10, .inl p4)), (k5, .inl (cI, 10, .inl p5)), (sq, .inr (2, [.ref s0, .int num])), (s0, .inl (cI, 10, .inl sf)), (pi, .inr (1, [.ref k0, .ref k1, .ref k2, .ref k3, .ref k4, .ref k5, .ref k6, .ref k7, .int num]))] := hD
  have w_2 : r_1 = bHas a num := w_2
  refine lv_if_ne (tgt := 13) hx hb dX3_about_8 (by decide) (fun c_4 => ?_) (fun c_4 => ?_)
  · refine lv_iload_n hx hb dX3_about_13 rfl (lv_at hl 2 rfl) ?_
    by_cases c_5 : w = 0
    · refine lv_tableIn (off := 46) (tgt := 60) hx hb dX3_about_14 (by rw [c_5]; decide) (by rw [c_5]; decide) (by rw [c_5]; rfl) (by decide) ?_
      refine lv_aload_n hx hb dX3_about_60 rfl (lv_at hl 0 rfl) ?_
      refine va_get (D := D) (ci := 3) (v := .ref pi) (C := RX3) (T := TX3) (N := 8) hx hb hts iw_X3_about_3 hown hK hP 0 rfl rfl 1 (by decide) (hts _ wd_X3_about_1) (fun _ h9 => h9) rfl dX3_about_61 ?_
      refine va_getN (D := D) (ci := 1) (v := .ref k0) (C := RX1) (T := TX1) (N := 9) hx hb hts iw_X3_about_1 hown hK hP 11 rfl rfl 0 (by decide) (va_Nw.use rfl (nwF_147 hN)) (fun _ h9 => h9) rfl dX3_about_64 ?_
      refine lv_iload_n hx hb dX3_about_67 rfl (lv_at hl 1 rfl) ?_
      refine va_iald hx hb hK hP 3 0 rfl rfl (pf_X3_about_1 fs num a w r_1 hn0 hn1 hs w_2 c_4 c_5) dX3_about_68 ?_
      refine lv_topi (fun v_6 ev_6 => ?_)
      refine W.widen (k := 0) (n := 0) (Nat.le_of_ble_eq_true rfl) (Nat.le_of_ble_eq_true rfl) ?_
      exact fi_i () hx hb hr hlocks hK (hP.sub [0, 1, 2, 11, 3, 4, 5, 6, 7, 8, 9, 10] rfl) (hD.sub [0, 1, 2, 11, 3, 4, 5, 6, 7, 8, 9, 10] (by decide) rfl) hS trivial dX3_about_69
    by_cases c_7 : w = 1
    · refine lv_tableIn (off := 56) (tgt := 70) hx hb dX3_about_14 (by rw [c_7]; decide) (by rw [c_7]; decide) (by rw [c_7]; rfl) (by decide) ?_
      refine lv_aload_n hx hb dX3_about_70 rfl (lv_at hl 0 rfl) ?_
      refine va_get (D := D) (ci := 3) (v := .ref pi) (C := RX3) (T := TX3) (N := 8) hx hb hts iw_X3_about_3 hown hK hP 0 rfl rfl 1 (by decide) (hts _ wd_X3_about_1) (fun _ h9 => h9) rfl dX3_about_71 ?_
      refine va_getN (D := D) (ci := 1) (v := .ref k1) (C := RX1) (T := TX1) (N := 9) hx hb hts iw_X3_about_1 hown hK hP 11 rfl rfl 1 (by decide) (va_Nw.use rfl (nwF_150 hN)) (fun _ h9 => h9) rfl dX3_about_74 ?_
      refine lv_iload_n hx hb dX3_about_77 rfl (lv_at hl 1 rfl) ?_
      refine va_iald hx hb hK hP 4 0 rfl rfl (pf_X3_about_2 fs num a w r_1 hn0 hn1 hs w_2 c_4 c_5 c_7) dX3_about_78 ?_
      refine lv_topi (fun v_8 ev_8 => ?_)
      refine W.widen (k := 0) (n := 0) (Nat.le_of_ble_eq_true rfl) (Nat.le_of_ble_eq_true rfl) ?_
      exact fi_i () hx hb hr hlocks hK (hP.sub [0, 1, 2, 11, 3, 4, 5, 6, 7, 8, 9, 10] rfl) (hD.sub [0, 1, 2, 11, 3, 4, 5, 6, 7, 8, 9, 10] (by decide) rfl) hS trivial dX3_about_79
    by_cases c_9 : w = 2
    · refine lv_tableIn (off := 66) (tgt := 80) hx hb dX3_about_14 (by rw [c_9]; decide) (by rw [c_9]; decide) (by rw [c_9]; rfl) (by decide) ?_
      refine lv_aload_n hx hb dX3_about_80 rfl (lv_at hl 0 rfl) ?_
      refine va_get (D := D) (ci := 3) (v := .ref pi) (C := RX3) (T := TX3) (N := 8) hx hb hts iw_X3_about_3 hown hK hP 0 rfl rfl 1 (by decide) (hts _ wd_X3_about_1) (fun _ h9 => h9) rfl dX3_about_81 ?_
      refine va_getN (D := D) (ci := 1) (v := .ref k2) (C := RX1) (T := TX1) (N := 9) hx hb hts iw_X3_about_1 hown hK hP 11 rfl rfl 2 (by decide) (va_Nw.use rfl (nwF_153 hN)) (fun _ h9 => h9) rfl dX3_about_84 ?_
      refine lv_iload_n hx hb dX3_about_87 rfl (lv_at hl 1 rfl) ?_
      refine va_iald hx hb hK hP 5 0 rfl rfl (pf_X3_about_3 fs num a w r_1 hn0 hn1 hs w_2 c_4 c_5 c_7 c_9) dX3_about_88 ?_
      refine lv_topi (fun v_10 ev_10 => ?_)
      refine W.widen (k := 0) (n := 0) (Nat.le_of_ble_eq_true rfl) (Nat.le_of_ble_eq_true rfl) ?_
      exact fi_i () hx hb hr hlocks hK (hP.sub [0, 1, 2, 11, 3, 4, 5, 6, 7, 8, 9, 10] rfl) (hD.sub [0, 1, 2, 11, 3, 4, 5, 6, 7, 8, 9, 10] (by decide) rfl) hS trivial dX3_about_89
    by_cases c_11 : w = 3
    · refine lv_tableIn (off := 76) (tgt := 90) hx hb dX3_about_14 (by rw [c_11]; decide) (by rw [c_11]; decide) (by rw [c_11]; rfl) (by decide) ?_
      refine lv_aload_n hx hb dX3_about_90 rfl (lv_at hl 0 rfl) ?_
      refine va_get (D := D) (ci := 3) (v := .ref pi) (C := RX3) (T := TX3) (N := 8) hx hb hts iw_X3_about_3 hown hK hP 0 rfl rfl 1 (by decide) (hts _ wd_X3_about_1) (fun _ h9 => h9) rfl dX3_about_91 ?_
      refine va_getN (D := D) (ci := 1) (v := .ref k3) (C := RX1) (T := TX1) (N := 9) hx hb hts iw_X3_about_1 hown hK hP 11 rfl rfl 3 (by decide) (va_Nw.use rfl (nwF_156 hN)) (fun _ h9 => h9) rfl dX3_about_94 ?_
      refine lv_iload_n hx hb dX3_about_97 rfl (lv_at hl 1 rfl) ?_
      refine va_iald hx hb hK hP 6 0 rfl rfl (pf_X3_about_4 fs num a w r_1 hn0 hn1 hs w_2 c_4 c_5 c_7 c_9 c_11) dX3_about_98 ?_
      refine lv_topi (fun v_12 ev_12 => ?_)
      refine W.widen (k := 0) (n := 0) (Nat.le_of_ble_eq_true rfl) (Nat.le_of_ble_eq_true rfl) ?_
      exact fi_i () hx hb hr hlocks hK (hP.sub [0, 1, 2, 11, 3, 4, 5, 6, 7, 8, 9, 10] rfl) (hD.sub [0, 1, 2, 11, 3, 4, 5, 6, 7, 8, 9, 10] (by decide) rfl) hS trivial dX3_about_99
    by_cases c_13 : w = 4
    · refine lv_tableIn (off := 86) (tgt := 100) hx hb dX3_about_14 (by rw [c_13]; decide) (by rw [c_13]; decide) (by rw [c_13]; rfl) (by decide) ?_
      refine lv_aload_n hx hb dX3_about_100 rfl (lv_at hl 0 rfl) ?_
      refine va_get (D := D) (ci := 3) (v := .ref pi) (C := RX3) (T := TX3) (N := 8) hx hb hts iw_X3_about_3 hown hK hP 0 rfl rfl 1 (by decide) (hts _ wd_X3_about_1) (fun _ h9 => h9) rfl dX3_about_101 ?_
      refine va_getN (D := D) (ci := 1) (v := .ref k4) (C := RX1) (T := TX1) (N := 9) hx hb hts iw_X3_about_1 hown hK hP 11 rfl rfl 4 (by decide) (va_Nw.use rfl (nwF_159 hN)) (fun _ h9 => h9) rfl dX3_about_104 ?_
      refine lv_iload_n hx hb dX3_about_107 rfl (lv_at hl 1 rfl) ?_
      refine va_iald hx hb hK hP 7 0 rfl rfl (pf_X3_about_5 fs num a w r_1 hn0 hn1 hs w_2 c_4 c_5 c_7 c_9 c_11 c_13) dX3_about_108 ?_
      refine lv_topi (fun v_14 ev_14 => ?_)
      refine W.widen (k := 0) (n := 0) (Nat.le_of_ble_eq_true rfl) (Nat.le_of_ble_eq_true rfl) ?_
      exact fi_i () hx hb hr hlocks hK (hP.sub [0, 1, 2, 11, 3, 4, 5, 6, 7, 8, 9, 10] rfl) (hD.sub [0, 1, 2, 11, 3, 4, 5, 6, 7, 8, 9, 10] (by decide) rfl) hS trivial dX3_about_109
    by_cases c_15 : w = 5
    · refine lv_tableIn (off := 96) (tgt := 110) hx hb dX3_about_14 (by rw [c_15]; decide) (by rw [c_15]; decide) (by rw [c_15]; rfl) (by decide) ?_
      refine lv_aload_n hx hb dX3_about_110 rfl (lv_at hl 0 rfl) ?_
      refine va_get (D := D) (ci := 3) (v := .ref pi) (C := RX3) (T := TX3) (N := 8) hx hb hts iw_X3_about_3 hown hK hP 0 rfl rfl 1 (by decide) (hts _ wd_X3_about_1) (fun _ h9 => h9) rfl dX3_about_111 ?_
      refine va_getN (D := D) (ci := 1) (v := .ref k5) (C := RX1) (T := TX1) (N := 9) hx hb hts iw_X3_about_1 hown hK hP 11 rfl rfl 5 (by decide) (va_Nw.use rfl (nwF_162 hN)) (fun _ h9 => h9) rfl dX3_about_114 ?_
      refine lv_iload_n hx hb dX3_about_117 rfl (lv_at hl 1 rfl) ?_
      refine va_iald hx hb hK hP 8 0 rfl rfl (pf_X3_about_6 fs num a w r_1 hn0 hn1 hs w_2 c_4 c_5 c_7 c_9 c_11 c_13 c_15) dX3_about_118 ?_
      refine lv_topi (fun v_16 ev_16 => ?_)
      refine W.widen (k := 0) (n := 0) (Nat.le_of_ble_eq_true rfl) (Nat.le_of_ble_eq_true rfl) ?_
      exact fi_i () hx hb hr hlocks hK (hP.sub [0, 1, 2, 11, 3, 4, 5, 6, 7, 8, 9, 10] rfl) (hD.sub [0, 1, 2, 11, 3, 4, 5, 6, 7, 8, 9, 10] (by decide) rfl) hS trivial dX3_about_119
    by_cases c_17 : w = 6
    · refine lv_tableIn (off := 106) (tgt := 120) hx hb dX3_about_14 (by rw [c_17]; decide) (by rw [c_17]; decide) (by rw [c_17]; rfl) (by decide) ?_
      refine lv_aload_n hx hb dX3_about_120 rfl (lv_at hl 0 rfl) ?_
      refine va_get (D := D) (ci := 3) (v := .ref pi) (C := RX3) (T := TX3) (N := 8) hx hb hts iw_X3_about_3 hown hK hP 0 rfl rfl 1 (by decide) (hts _ wd_X3_about_1) (fun _ h9 => h9) rfl dX3_about_121 ?_
      refine va_getN (D := D) (ci := 1) (v := .ref k5) (C := RX1) (T := TX1) (N := 9) hx hb hts iw_X3_about_1 hown hK hP 11 rfl rfl 5 (by decide) (va_Nw.use rfl (nwF_162 hN)) (fun _ h9 => h9) rfl dX3_about_124 ?_
      refine lv_iload_n hx hb dX3_about_127 rfl (lv_at hl 1 rfl) ?_
      refine va_iald hx hb hK hP 8 0 rfl rfl (pf_X3_about_7 fs num a w r_1 hn0 hn1 hs w_2 c_4 c_5 c_7 c_9 c_11 c_13 c_15 c_17) dX3_about_128 ?_
      refine lv_topi (fun v_18 ev_18 => ?_)
      refine lv_iconst (v := (-1)) hx hb dX3_about_129 (by decide) ?_
      refine lv_icmp_ne (tgt := 137) hx hb dX3_about_130 (by decide) (fun c_19 => ?_) (fun c_19 => ?_)
      · refine lv_aload_n hx hb dX3_about_137 rfl (lv_at hl 0 rfl) ?_
        refine va_get (D := D) (ci := 3) (v := .ref cu) (C := RX3) (T := TX3) (N := 8) hx hb hts iw_X3_about_3 hown hK hP 0 rfl rfl 0 (by decide) (hts _ wd_X3_about_2) (fun _ h9 => h9) rfl dX3_about_138 ?_
        refine lv_aload_n hx hb dX3_about_141 rfl (lv_at hl 0 rfl) ?_
        refine va_get (D := D) (ci := 3) (v := .ref pi) (C := RX3) (T := TX3) (N := 8) hx hb hts iw_X3_about_3 hown hK hP 0 rfl rfl 1 (by decide) (hts _ wd_X3_about_1) (fun _ h9 => h9) rfl dX3_about_142 ?_
        refine va_getN (D := D) (ci := 1) (v := .ref k5) (C := RX1) (T := TX1) (N := 9) hx hb hts iw_X3_about_1 hown hK hP 11 rfl rfl 5 (by decide) (va_Nw.use rfl (nwF_162 hN)) (fun _ h9 => h9) rfl dX3_about_145 ?_
        refine lv_iload_n hx hb dX3_about_148 rfl (lv_at hl 1 rfl) ?_
        refine va_iald hx hb hK hP 8 0 rfl rfl (pf_X3_about_8 fs num p5 a w r_1 v_18 hn0 hn1 hs w_2 c_4 c_5 c_7 c_9 c_11 c_13 c_15 c_17 ev_18 c_19) dX3_about_149 ?_
        refine lv_topi (fun v_20 ev_20 => ?_)
        refine cc_i (wc := [(cu, .inr (0, [.ref a0, .ref a1, .ref a2, .ref a3, .ref a4, .ref a5, .int bw, .int pts])), (a5, .inl (cI, 40, .inl fs))]) (wr := [(x, .inr (3, [.ref cu, .ref pi, .ref sq, .ref fo, .ref bo, .int gl, .int td, .int le])), (k0, .inl (cI, 10, .inl p0)), (k1, .inl (cI, 10, .inl p1)), (k2, .inl (cI, 10, .inl p2)), (k3, .inl (cI, 10, .inl p3)), (k4, .inl (cI, 10, .inl p4)), (k5, .inl (cI, 10, .inl p5)), (sq, .inr (2, [.ref s0, .int num])), (s0, .inl (cI, 10, .inl sf)), (pi, .inr (1, [.ref k0, .ref k1, .ref k2, .ref k3, .ref k4, .ref k5, .ref k6, .ref k7, .int num]))]) (va_runVN (As := [.int v_20]) (rest := []) ⟨hx, hb, hml, hown, hts⟩ (c_X0_stripDayFor l D cI cQ H.size cu a5 a0 a1 a2 a3 a4 bw pts fs v_20 (pf_X3_about_9 fs num p5 a w r_1 v_18 v_20 hn0 hn1 hs w_2 c_4 c_5 c_7 c_9 c_11 c_13 c_15 c_17 ev_18 c_19 ev_20)) ⟨va_cnB 1 hts gX3_about_X0_stripDayFor_n165 rfl rfl rfl (nwM_165 hN) (hts _ wd_X3_about_10) (by decide +kernel) ⟨Nat.le_of_ble_eq_true rfl, Nat.le_of_ble_eq_true rfl⟩, (hts _ wd_X3_about_9), (hts _ wd_X3_about_11)⟩ (preV (wc := [(cu, .inr (0, [.ref a0, .ref a1, .ref a2, .ref a3, .ref a4, .ref a5, .int bw, .int pts])), (a5, .inl (cI, 40, .inl fs))]) (ci := 0) (q0 := 1) hK hP hD hN [1, 2] rfl (by decide) rfl rfl) rfl rfl hl.1 rfl (lv_room (Nat.le_of_ble_eq_true rfl)) dX3_about_150 ⟨Nat.le_of_ble_eq_true rfl, Nat.le_of_ble_eq_true rfl⟩) hP hD hS hA [1, 2] [0, 3, 4, 5, 6, 7, 8, 9, 10, 11] rfl rfl (by decide) (by decide) (fun r_21 u H locs w_22 hP hD hS => ?_)
        have hP : va_P D vwCl [(x, .inr (3, [.ref cu, .ref pi, .ref sq, .ref fo, .ref bo, .int gl, .int td, .int le])), (k0, .inl (cI, 10, .inl p0)), (k1, .inl (cI, 10, .inl p1)), (k2, .inl (cI, 10, .inl p2)), (k3, .inl (cI, 10, .inl p3)), (k4, .inl (cI, 10, .inl p4)), (k5, .inl (cI, 10, .inl p5)), (sq, .inr (2, [.ref s0, .int num])), (s0, .inl (cI, 10, .inl sf)), (pi, .inr (1, [.ref k0, .ref k1, .ref k2, .ref k3, .ref k4, .ref k5, .ref k6, .ref k7, .int num])), (cu, .inr (0, [.ref a0, .ref a1, .ref a2, .ref a3, .ref a4, .ref a5, .int bw, .int pts])), (a5, .inl (cI, 40, .inl fs))] H := hP
        have hD : va_D A [(x, .inr (3, [.ref cu, .ref pi, .ref sq, .ref fo, .ref bo, .int gl, .int td, .int le])), (k0, .inl (cI, 10, .inl p0)), (k1, .inl (cI, 10, .inl p1)), (k2, .inl (cI, 10, .inl p2)), (k3, .inl (cI, 10, .inl p3)), (k4, .inl (cI, 10, .inl p4)), (k5, .inl (cI, 10, .inl p5)), (sq, .inr (2, [.ref s0, .int num])), (s0, .inl (cI, 10, .inl sf)), (pi, .inr (1, [.ref k0, .ref k1, .ref k2, .ref k3, .ref k4, .ref k5, .ref k6, .ref k7, .int num])), (cu, .inr (0, [.ref a0, .ref a1, .ref a2, .ref a3, .ref a4, .ref a5, .int bw, .int pts])), (a5, .inl (cI, 40, .inl fs))] := hD
        have w_22 : r_21 ≤ 40 := w_22
        refine W.widen (k := 0) (n := 0) (Nat.le_of_ble_eq_true rfl) (Nat.le_of_ble_eq_true rfl) ?_
        exact fi_i () hx hb hr hlocks hK (hP.sub [0, 10, 11, 9, 1, 2, 3, 4, 5, 6, 7, 8] rfl) (hD.sub [0, 10, 11, 9, 1, 2, 3, 4, 5, 6, 7, 8] (by decide) rfl) hS trivial dX3_about_153
      · refine lv_iconst (v := (-1)) hx hb dX3_about_133 (by decide) ?_
        refine lv_goto (tgt := 153) hx hb dX3_about_134 (by decide) ?_
        refine W.widen (k := 0) (n := 0) (Nat.le_of_ble_eq_true rfl) (Nat.le_of_ble_eq_true rfl) ?_
        exact fi_i () hx hb hr hlocks hK (hP.sub [0, 1, 2, 11, 3, 4, 5, 6, 7, 8, 9, 10] rfl) (hD.sub [0, 1, 2, 11, 3, 4, 5, 6, 7, 8, 9, 10] (by decide) rfl) hS trivial dX3_about_153
    by_cases c_24 : w = 7
    · refine lv_tableIn (off := 140) (tgt := 154) hx hb dX3_about_14 (by rw [c_24]; decide) (by rw [c_24]; decide) (by rw [c_24]; rfl) (by decide) ?_
      refine lv_aload_n hx hb dX3_about_154 rfl (lv_at hl 0 rfl) ?_
      refine va_get (D := D) (ci := 3) (v := .ref sq) (C := RX3) (T := TX3) (N := 8) hx hb hts iw_X3_about_3 hown hK hP 0 rfl rfl 2 (by decide) (hts _ wd_X3_about_3) (fun _ h9 => h9) rfl dX3_about_155 ?_
      refine lv_iload_n hx hb dX3_about_158 rfl (lv_at hl 1 rfl) ?_
      refine cc_i (wc := [(sq, .inr (2, [.ref s0, .int num])), (s0, .inl (cI, 10, .inl sf))]) (wr := [(x, .inr (3, [.ref cu, .ref pi, .ref sq, .ref fo, .ref bo, .int gl, .int td, .int le])), (cu, .inr (0, [.ref a0, .ref a1, .ref a2, .ref a3, .ref a4, .ref a5, .int bw, .int pts])), (a5, .inl (cI, 40, .inl fs)), (k0, .inl (cI, 10, .inl p0)), (k1, .inl (cI, 10, .inl p1)), (k2, .inl (cI, 10, .inl p2)), (k3, .inl (cI, 10, .inl p3)), (k4, .inl (cI, 10, .inl p4)), (k5, .inl (cI, 10, .inl p5)), (pi, .inr (1, [.ref k0, .ref k1, .ref k2, .ref k3, .ref k4, .ref k5, .ref k6, .ref k7, .int num]))]) (va_runVN (As := [.int a]) (rest := []) ⟨hx, hb, hml, hown, hts⟩ (c_X2_placeOf l D cI cQ H.size sq s0 num sf a (pf_X3_about_10 fs num a w r_1 hn0 hn1 hs w_2 c_4 c_5 c_7 c_9 c_11 c_13 c_15 c_17 c_24) (pf_X3_about_11 fs num a w r_1 hn0 hn1 hs w_2 c_4 c_5 c_7 c_9 c_11 c_13 c_15 c_17 c_24)) ⟨va_cnB 1 hts gX3_about_X2_placeOf_n113 rfl rfl rfl (nwM_113 hN) (hts _ wd_X3_about_15) (by decide +kernel) ⟨Nat.le_of_ble_eq_true rfl, Nat.le_of_ble_eq_true rfl⟩, (hts _ wd_X3_about_14), (hts _ wd_X3_about_16)⟩ (preV (wc := [(sq, .inr (2, [.ref s0, .int num])), (s0, .inl (cI, 10, .inl sf))]) (ci := 2) (q0 := 9) hK hP hD hN [9, 10] rfl (by decide) rfl rfl) rfl rfl hl.1 rfl (lv_room (Nat.le_of_ble_eq_true rfl)) dX3_about_159 ⟨Nat.le_of_ble_eq_true rfl, Nat.le_of_ble_eq_true rfl⟩) hP hD hS hA [9, 10] [0, 1, 2, 3, 4, 5, 6, 7, 8, 11] rfl rfl (by decide) (by decide) (fun r_25 u H locs w_26 hP hD hS => ?_)
      have hP : va_P D vwCl [(x, .inr (3, [.ref cu, .ref pi, .ref sq, .ref fo, .ref bo, .int gl, .int td, .int le])), (cu, .inr (0, [.ref a0, .ref a1, .ref a2, .ref a3, .ref a4, .ref a5, .int bw, .int pts])), (a5, .inl (cI, 40, .inl fs)), (k0, .inl (cI, 10, .inl p0)), (k1, .inl (cI, 10, .inl p1)), (k2, .inl (cI, 10, .inl p2)), (k3, .inl (cI, 10, .inl p3)), (k4, .inl (cI, 10, .inl p4)), (k5, .inl (cI, 10, .inl p5)), (pi, .inr (1, [.ref k0, .ref k1, .ref k2, .ref k3, .ref k4, .ref k5, .ref k6, .ref k7, .int num])), (sq, .inr (2, [.ref s0, .int num])), (s0, .inl (cI, 10, .inl sf))] H := hP
      have hD : va_D A [(x, .inr (3, [.ref cu, .ref pi, .ref sq, .ref fo, .ref bo, .int gl, .int td, .int le])), (cu, .inr (0, [.ref a0, .ref a1, .ref a2, .ref a3, .ref a4, .ref a5, .int bw, .int pts])), (a5, .inl (cI, 40, .inl fs)), (k0, .inl (cI, 10, .inl p0)), (k1, .inl (cI, 10, .inl p1)), (k2, .inl (cI, 10, .inl p2)), (k3, .inl (cI, 10, .inl p3)), (k4, .inl (cI, 10, .inl p4)), (k5, .inl (cI, 10, .inl p5)), (pi, .inr (1, [.ref k0, .ref k1, .ref k2, .ref k3, .ref k4, .ref k5, .ref k6, .ref k7, .int num])), (sq, .inr (2, [.ref s0, .int num])), (s0, .inl (cI, 10, .inl sf))] := hD
      have w_26 : (r_25 = -1 ∨ (0 ≤ r_25 ∧ r_25 < num)) := w_26
      refine W.widen (k := 0) (n := 0) (Nat.le_of_ble_eq_true rfl) (Nat.le_of_ble_eq_true rfl) ?_
      exact fi_i () hx hb hr hlocks hK (hP.sub [0, 1, 2, 9, 3, 4, 5, 6, 7, 8, 10, 11] rfl) (hD.sub [0, 1, 2, 9, 3, 4, 5, 6, 7, 8, 10, 11] (by decide) rfl) hS trivial dX3_about_162
    refine lv_tableOut (tgt := 163) hx hb dX3_about_14 (pf_X3_about_12 fs num a w r_1 hn0 hn1 hs w_2 c_4 c_5 c_7 c_9 c_11 c_13 c_15 c_17 c_24) (by decide) ?_
    refine lv_iconst (v := (-1)) hx hb dX3_about_163 (by decide) ?_
    refine W.widen (k := 0) (n := 0) (Nat.le_of_ble_eq_true rfl) (Nat.le_of_ble_eq_true rfl) ?_
    exact fi_i () hx hb hr hlocks hK (hP.sub [0, 1, 2, 11, 3, 4, 5, 6, 7, 8, 9, 10] rfl) (hD.sub [0, 1, 2, 11, 3, 4, 5, 6, 7, 8, 9, 10] (by decide) rfl) hS trivial dX3_about_164
  · refine lv_iconst (v := (-1)) hx hb dX3_about_11 (by decide) ?_
    refine W.widen (k := 0) (n := 0) (Nat.le_of_ble_eq_true rfl) (Nat.le_of_ble_eq_true rfl) ?_
    exact fi_i () hx hb hr hlocks hK (hP.sub [0, 1, 2, 11, 3, 4, 5, 6, 7, 8, 9, 10] rfl) (hD.sub [0, 1, 2, 11, 3, 4, 5, 6, 7, 8, 9, 10] (by decide) rfl) hS trivial dX3_about_12

theorem iw_X3_hard_1 : ∀ w ∈ wsX10, w ∈ wsX3_hard := fun w h => (List.mem_cons_of_mem _ (List.mem_append_left _ (List.mem_append_right _ h)))
theorem iw_X3_hard_3 : ∀ w ∈ wsX30, w ∈ wsX3_hard := fun w h => (List.mem_cons_of_mem _ (List.mem_append_left _ (List.mem_append_left _ (List.mem_append_right _ h))))
theorem wd_X3_hard_1 : (.fieldLink RX3 21 "PourPlan" "pieces" "LPourPlan$Pieces;" : Cond) ∈ wsX3_hard := List.mem_of_getElem? (i := 1) rfl
theorem wd_X3_hard_2 : (.fieldLink RX3 14 "PourPlan" "curing" "LPourPlan$Curing;" : Cond) ∈ wsX3_hard := List.mem_of_getElem? (i := 2) rfl
theorem wd_X3_hard_3 : (.instanceMethod yX1_has : Cond) ∈ wsX3_hard := List.mem_of_getElem? (i := 3) rfl
theorem wd_X3_hard_4 : (.initialized RX1 : Cond) ∈ wsX3_hard := List.mem_of_getElem? (i := 4) rfl
theorem wd_X3_hard_5 : (.selects RX1 yX1_has yX1_has : Cond) ∈ wsX3_hard := List.mem_of_getElem? (i := 5) rfl
theorem wd_X3_hard_15 : (.instanceMethod yX0_hardnessOn : Cond) ∈ wsX3_hard := List.mem_of_getElem? (i := 15) rfl
theorem wd_X3_hard_16 : (.initialized RX0 : Cond) ∈ wsX3_hard := List.mem_of_getElem? (i := 16) rfl
theorem wd_X3_hard_17 : (.selects RX0 yX0_hardnessOn yX0_hardnessOn : Cond) ∈ wsX3_hard := List.mem_of_getElem? (i := 17) rfl
set_option maxHeartbeats 1000000 in
theorem pf_X3_hard_1 (num : Int32) (a : Int32) (d : Int32) (r_1 : Int32) (r_5 : Int32) (hn0 : 0 ≤ num) (hn1 : num ≤ 10) (w_2 : r_1 = bHas a num) (c_4 : ¬ r_1 = 0) (w_6 : r_5 = bIn d 0 39) (c_8 : ¬ r_5 = 0) : vp_in a 10 := by
  exact vi_in (M := 10) rfl (by grind [bHas]) (by grind [bHas])
set_option maxHeartbeats 4000000 in
set_option maxRecDepth 100000 in
theorem c_X3_hard (l : Launch) (D : va_G) (cI cQ : ClassId) (sz : Nat) (x : Nat) (cu : Nat) (a2 : Nat) (a3 : Nat) (a4 : Nat) (pi : Nat) (k5 : Nat) (sq : Nat) (fo : Nat) (bo : Nat) (gl : Int32) (td : Int32) (le : Int32) (a0 : Nat) (a1 : Nat) (a5 : Nat) (bw : Int32) (pts : Int32) (fd : Nat → Int32) (fh : Nat → Int32) (fg : Nat → Int32) (k0 : Nat) (k1 : Nat) (k2 : Nat) (k3 : Nat) (k4 : Nat) (k6 : Nat) (k7 : Nat) (num : Int32) (p5 : Nat → Int32) (a : Int32) (d : Int32) (hn0 : 0 ≤ num) (hn1 : num ≤ 10) : CtI l yX3_hard wsX3_hard 2 48 0 0 [.ref x, .int a, .int d] D [(cI, .int), (cQ, .array .int)] [(x, .inr (3, [.ref cu, .ref pi, .ref sq, .ref fo, .ref bo, .int gl, .int td, .int le])), (cu, .inr (0, [.ref a0, .ref a1, .ref a2, .ref a3, .ref a4, .ref a5, .int bw, .int pts])), (a2, .inl (cI, 6, .inl fd)), (a3, .inl (cI, 6, .inl fh)), (a4, .inl (cI, 40, .inl fg)), (pi, .inr (1, [.ref k0, .ref k1, .ref k2, .ref k3, .ref k4, .ref k5, .ref k6, .ref k7, .int num])), (k5, .inl (cI, 10, .inl p5))] sz (fun (r : Int32) (u : Unit) => True) (fun (u : Unit) => [(x, .inr (3, [.ref cu, .ref pi, .ref sq, .ref fo, .ref bo, .int gl, .int td, .int le])), (cu, .inr (0, [.ref a0, .ref a1, .ref a2, .ref a3, .ref a4, .ref a5, .int bw, .int pts])), (a2, .inl (cI, 6, .inl fd)), (a3, .inl (cI, 6, .inl fh)), (a4, .inl (cI, 40, .inl fg)), (pi, .inr (1, [.ref k0, .ref k1, .ref k2, .ref k3, .ref k4, .ref k5, .ref k6, .ref k7, .int num])), (k5, .inl (cI, 10, .inl p5))]) := by
  refine Met.ofW (cc := cX3_hard) (maxL := 3) (ret := (some .int)) (by decide) rfl ?_
  intro p e s m args below meth c s₁ B hml hv
  obtain ⟨rfl, hsz, hP, hK, hD0, hN⟩ := hv
  have hx := B.exec
  have hb := B.bytes
  have hr := B.returns
  have hts := atoms_spec (ws := wsX3_hard) B.pre
  have hown : s.vm.findClass RX3 = some m.cls := findClass_of_methodNamed B.named
  have hlocks := B.notSynchronized
  subst hsz
  have hD := hD0.self (sz := s.heap.size)
  generalize hAe : va_A [(x, .inr (3, [.ref cu, .ref pi, .ref sq, .ref fo, .ref bo, .int gl, .int td, .int le])), (cu, .inr (0, [.ref a0, .ref a1, .ref a2, .ref a3, .ref a4, .ref a5, .int bw, .int pts])), (a2, .inl (cI, 6, .inl fd)), (a3, .inl (cI, 6, .inl fh)), (a4, .inl (cI, 40, .inl fg)), (pi, .inr (1, [.ref k0, .ref k1, .ref k2, .ref k3, .ref k4, .ref k5, .ref k6, .ref k7, .int num])), (k5, .inl (cI, 10, .inl p5))] s.heap.size = A at hD ⊢
  have hA : ∀ q : Nat, s.heap.size ≤ q → A q := fun q h => by rw [← hAe]; exact Or.inr h
  have hS : va_S A s.heap s.heap [] := va_S.rf
  have hl := lv_entry ([.ref x, .int a, .int d]) (n := 3) (Nat.le_of_ble_eq_true rfl)
  rw [lg_entry_eq]
  generalize (lg_sl ([.ref x, .int a, .int d]) ++ List.replicate (3 - (lg_sl ([.ref x, .int a, .int d])).length) Slot.unset).toArray = ls at hl ⊢
  have hl : lv_has ls 3 [(0, .ref x), (1, .int a), (2, .int d)] := hl
  have hP0 := hP
  refine lv_aload_n hx hb dX3_hard_0 rfl (lv_at hl 0 rfl) ?_
  refine va_get (D := D) (ci := 3) (v := .ref pi) (C := RX3) (T := TX3) (N := 8) hx hb hts iw_X3_hard_3 hown hK hP 0 rfl rfl 1 (by decide) (hts _ wd_X3_hard_1) (fun _ h9 => h9) rfl dX3_hard_1 ?_
  refine lv_iload_n hx hb dX3_hard_4 rfl (lv_at hl 1 rfl) ?_
  refine cc_i (wc := [(pi, .inr (1, [.ref k0, .ref k1, .ref k2, .ref k3, .ref k4, .ref k5, .ref k6, .ref k7, .int num]))]) (wr := [(x, .inr (3, [.ref cu, .ref pi, .ref sq, .ref fo, .ref bo, .int gl, .int td, .int le])), (cu, .inr (0, [.ref a0, .ref a1, .ref a2, .ref a3, .ref a4, .ref a5, .int bw, .int pts])), (a2, .inl (cI, 6, .inl fd)), (a3, .inl (cI, 6, .inl fh)), (a4, .inl (cI, 40, .inl fg)), (k5, .inl (cI, 10, .inl p5))]) (va_runVN (As := [.int a]) (rest := []) ⟨hx, hb, hml, hown, hts⟩ (c_X1_has l D cI cQ s.heap.size pi k0 k1 k2 k3 k4 k5 k6 k7 num a ) ⟨va_cnB 1 hts gX3_hard_X1_has_n64 rfl rfl rfl (nwM_64 hN) (hts _ wd_X3_hard_4) (by decide +kernel) ⟨Nat.le_of_ble_eq_true rfl, Nat.le_of_ble_eq_true rfl⟩, (hts _ wd_X3_hard_3), (hts _ wd_X3_hard_5)⟩ (preV (wc := [(pi, .inr (1, [.ref k0, .ref k1, .ref k2, .ref k3, .ref k4, .ref k5, .ref k6, .ref k7, .int num]))]) (ci := 1) (q0 := 5) hK hP hD hN [5] rfl (by decide) rfl rfl) rfl rfl hl.1 rfl (lv_room (Nat.le_of_ble_eq_true rfl)) dX3_hard_5 ⟨Nat.le_of_ble_eq_true rfl, Nat.le_of_ble_eq_true rfl⟩) hP hD hS hA [5] [0, 1, 2, 3, 4, 6] rfl rfl (by decide) (by decide) (fun r_1 u H locs w_2 hP hD hS => ?_)
  have hP : va_P D vwCl [(x, .inr (3, [.ref cu, .ref pi, .ref sq, .ref fo, .ref bo, .int gl, .int td, .int le])), (cu, .inr (0, [.ref a0, .ref a1, .ref a2, .ref a3, .ref a4, .ref a5, .int bw, .int pts])), (a2, .inl (cI, 6, .inl fd)), (a3, .inl (cI, 6, .inl fh)), (a4, .inl (cI, 40, .inl fg)), (k5, .inl (cI, 10, .inl p5)), (pi, .inr (1, [.ref k0, .ref k1, .ref k2, .ref k3, .ref k4, .ref k5, .ref k6, .ref k7, .int num]))] H := hP
  have hD : va_D A [(x, .inr (3, [.ref cu, .ref pi, .ref sq, .ref fo, .ref bo, .int gl, .int td, .int le])), (cu, .inr (0, [.ref a0, .ref a1, .ref a2, .ref a3, .ref a4, .ref a5, .int bw, .int pts])), (a2, .inl (cI, 6, .inl fd)), (a3, .inl (cI, 6, .inl fh)), (a4, .inl (cI, 40, .inl fg)), (k5, .inl (cI, 10, .inl p5)), (pi, .inr (1, [.ref k0, .ref k1, .ref k2, .ref k3, .ref k4, .ref k5, .ref k6, .ref k7, .int num]))] := hD
  have w_2 : r_1 = bHas a num := w_2
  refine lv_if_eq (tgt := 38) hx hb dX3_hard_8 (by decide) (fun c_4 => ?_) (fun c_4 => ?_)
  · refine lv_iconst (v := (-1)) hx hb dX3_hard_38 (by decide) ?_
    refine W.widen (k := 0) (n := 0) (Nat.le_of_ble_eq_true rfl) (Nat.le_of_ble_eq_true rfl) ?_
    exact fi_i () hx hb hr hlocks hK (hP.sub [0, 1, 2, 3, 4, 6, 5] rfl) (hD.sub [0, 1, 2, 3, 4, 6, 5] (by decide) rfl) hS trivial dX3_hard_39
  · refine lv_iload_n hx hb dX3_hard_11 rfl (lv_at hl 2 rfl) ?_
    refine cc_i (wc := []) (wr := [(x, .inr (3, [.ref cu, .ref pi, .ref sq, .ref fo, .ref bo, .int gl, .int td, .int le])), (cu, .inr (0, [.ref a0, .ref a1, .ref a2, .ref a3, .ref a4, .ref a5, .int bw, .int pts])), (a2, .inl (cI, 6, .inl fd)), (a3, .inl (cI, 6, .inl fh)), (a4, .inl (cI, 40, .inl fg)), (k5, .inl (cI, 10, .inl p5)), (pi, .inr (1, [.ref k0, .ref k1, .ref k2, .ref k3, .ref k4, .ref k5, .ref k6, .ref k7, .int num]))]) (va_runS (As := [.int d]) (rest := []) ⟨hx, hb, hml, hown, hts⟩ (c_X3_isDay l D cI cQ H.size d ) (va_cwS 1 hts gX3_hard_X3_isDay rfl rfl rfl (by decide +kernel) ⟨Nat.le_of_ble_eq_true rfl, Nat.le_of_ble_eq_true rfl⟩) (preS (wc := []) hK hP hD hN [] rfl (by decide)) rfl rfl hl.1 rfl (lv_room (Nat.le_of_ble_eq_true rfl)) dX3_hard_12 ⟨Nat.le_of_ble_eq_true rfl, Nat.le_of_ble_eq_true rfl⟩) hP hD hS hA [] [0, 1, 2, 3, 4, 5, 6] rfl rfl (by decide) (by decide) (fun r_5 u H locs w_6 hP hD hS => ?_)
    have hP : va_P D vwCl [(x, .inr (3, [.ref cu, .ref pi, .ref sq, .ref fo, .ref bo, .int gl, .int td, .int le])), (cu, .inr (0, [.ref a0, .ref a1, .ref a2, .ref a3, .ref a4, .ref a5, .int bw, .int pts])), (a2, .inl (cI, 6, .inl fd)), (a3, .inl (cI, 6, .inl fh)), (a4, .inl (cI, 40, .inl fg)), (k5, .inl (cI, 10, .inl p5)), (pi, .inr (1, [.ref k0, .ref k1, .ref k2, .ref k3, .ref k4, .ref k5, .ref k6, .ref k7, .int num]))] H := hP
    have hD : va_D A [(x, .inr (3, [.ref cu, .ref pi, .ref sq, .ref fo, .ref bo, .int gl, .int td, .int le])), (cu, .inr (0, [.ref a0, .ref a1, .ref a2, .ref a3, .ref a4, .ref a5, .int bw, .int pts])), (a2, .inl (cI, 6, .inl fd)), (a3, .inl (cI, 6, .inl fh)), (a4, .inl (cI, 40, .inl fg)), (k5, .inl (cI, 10, .inl p5)), (pi, .inr (1, [.ref k0, .ref k1, .ref k2, .ref k3, .ref k4, .ref k5, .ref k6, .ref k7, .int num]))] := hD
    have w_6 : r_5 = bIn d 0 39 := w_6
    refine lv_if_eq (tgt := 38) hx hb dX3_hard_15 (by decide) (fun c_8 => ?_) (fun c_8 => ?_)
    · refine lv_iconst (v := (-1)) hx hb dX3_hard_38 (by decide) ?_
      refine W.widen (k := 0) (n := 0) (Nat.le_of_ble_eq_true rfl) (Nat.le_of_ble_eq_true rfl) ?_
      exact fi_i () hx hb hr hlocks hK (hP.sub [0, 1, 2, 3, 4, 6, 5] rfl) (hD.sub [0, 1, 2, 3, 4, 6, 5] (by decide) rfl) hS trivial dX3_hard_39
    · refine lv_aload_n hx hb dX3_hard_18 rfl (lv_at hl 0 rfl) ?_
      refine va_get (D := D) (ci := 3) (v := .ref cu) (C := RX3) (T := TX3) (N := 8) hx hb hts iw_X3_hard_3 hown hK hP 0 rfl rfl 0 (by decide) (hts _ wd_X3_hard_2) (fun _ h9 => h9) rfl dX3_hard_19 ?_
      refine lv_aload_n hx hb dX3_hard_22 rfl (lv_at hl 0 rfl) ?_
      refine va_get (D := D) (ci := 3) (v := .ref pi) (C := RX3) (T := TX3) (N := 8) hx hb hts iw_X3_hard_3 hown hK hP 0 rfl rfl 1 (by decide) (hts _ wd_X3_hard_1) (fun _ h9 => h9) rfl dX3_hard_23 ?_
      refine va_getN (D := D) (ci := 1) (v := .ref k5) (C := RX1) (T := TX1) (N := 9) hx hb hts iw_X3_hard_1 hown hK hP 6 rfl rfl 5 (by decide) (va_Nw.use rfl (nwF_162 hN)) (fun _ h9 => h9) rfl dX3_hard_26 ?_
      refine lv_iload_n hx hb dX3_hard_29 rfl (lv_at hl 1 rfl) ?_
      refine va_iald hx hb hK hP 5 0 rfl rfl (pf_X3_hard_1 num a d r_1 r_5 hn0 hn1 w_2 c_4 w_6 c_8) dX3_hard_30 ?_
      refine lv_topi (fun v_9 ev_9 => ?_)
      refine lv_iload_n hx hb dX3_hard_31 rfl (lv_at hl 2 rfl) ?_
      refine cc_i (wc := [(cu, .inr (0, [.ref a0, .ref a1, .ref a2, .ref a3, .ref a4, .ref a5, .int bw, .int pts])), (a2, .inl (cI, 6, .inl fd)), (a3, .inl (cI, 6, .inl fh)), (a4, .inl (cI, 40, .inl fg))]) (wr := [(x, .inr (3, [.ref cu, .ref pi, .ref sq, .ref fo, .ref bo, .int gl, .int td, .int le])), (k5, .inl (cI, 10, .inl p5)), (pi, .inr (1, [.ref k0, .ref k1, .ref k2, .ref k3, .ref k4, .ref k5, .ref k6, .ref k7, .int num]))]) (va_runVN (As := [.int v_9, .int d]) (rest := []) ⟨hx, hb, hml, hown, hts⟩ (c_X0_hardnessOn l D cI cQ H.size cu a2 a3 a4 a0 a1 a5 bw pts fd fh fg v_9 d ) ⟨va_cnB 2 hts gX3_hard_X0_hardnessOn_n168 rfl rfl rfl (nwM_168 hN) (hts _ wd_X3_hard_16) (by decide +kernel) ⟨Nat.le_of_ble_eq_true rfl, Nat.le_of_ble_eq_true rfl⟩, (hts _ wd_X3_hard_15), (hts _ wd_X3_hard_17)⟩ (preV (wc := [(cu, .inr (0, [.ref a0, .ref a1, .ref a2, .ref a3, .ref a4, .ref a5, .int bw, .int pts])), (a2, .inl (cI, 6, .inl fd)), (a3, .inl (cI, 6, .inl fh)), (a4, .inl (cI, 40, .inl fg))]) (ci := 0) (q0 := 1) hK hP hD hN [1, 2, 3, 4] rfl (by decide) rfl rfl) rfl rfl hl.1 rfl (lv_room (Nat.le_of_ble_eq_true rfl)) dX3_hard_32 ⟨Nat.le_of_ble_eq_true rfl, Nat.le_of_ble_eq_true rfl⟩) hP hD hS hA [1, 2, 3, 4] [0, 5, 6] rfl rfl (by decide) (by decide) (fun r_10 u H locs w_11 hP hD hS => ?_)
      have hP : va_P D vwCl [(x, .inr (3, [.ref cu, .ref pi, .ref sq, .ref fo, .ref bo, .int gl, .int td, .int le])), (k5, .inl (cI, 10, .inl p5)), (pi, .inr (1, [.ref k0, .ref k1, .ref k2, .ref k3, .ref k4, .ref k5, .ref k6, .ref k7, .int num])), (cu, .inr (0, [.ref a0, .ref a1, .ref a2, .ref a3, .ref a4, .ref a5, .int bw, .int pts])), (a2, .inl (cI, 6, .inl fd)), (a3, .inl (cI, 6, .inl fh)), (a4, .inl (cI, 40, .inl fg))] H := hP
      have hD : va_D A [(x, .inr (3, [.ref cu, .ref pi, .ref sq, .ref fo, .ref bo, .int gl, .int td, .int le])), (k5, .inl (cI, 10, .inl p5)), (pi, .inr (1, [.ref k0, .ref k1, .ref k2, .ref k3, .ref k4, .ref k5, .ref k6, .ref k7, .int num])), (cu, .inr (0, [.ref a0, .ref a1, .ref a2, .ref a3, .ref a4, .ref a5, .int bw, .int pts])), (a2, .inl (cI, 6, .inl fd)), (a3, .inl (cI, 6, .inl fh)), (a4, .inl (cI, 40, .inl fg))] := hD
      have w_11 : r_10 = hon fd fh fg pts v_9 d := w_11
      refine lv_goto (tgt := 39) hx hb dX3_hard_35 (by decide) ?_
      refine W.widen (k := 0) (n := 0) (Nat.le_of_ble_eq_true rfl) (Nat.le_of_ble_eq_true rfl) ?_
      exact fi_i () hx hb hr hlocks hK (hP.sub [0, 3, 4, 5, 6, 2, 1] rfl) (hD.sub [0, 3, 4, 5, 6, 2, 1] (by decide) rfl) hS trivial dX3_hard_39

theorem iw_X3_why_3 : ∀ w ∈ wsX30, w ∈ wsX3_why := fun w h => (List.mem_cons_of_mem _ (List.mem_append_left _ (List.mem_append_left _ (List.mem_append_left _ (List.mem_append_right _ h)))))
theorem wd_X3_why_1 : (.fieldLink RX3 21 "PourPlan" "pieces" "LPourPlan$Pieces;" : Cond) ∈ wsX3_why := List.mem_of_getElem? (i := 1) rfl
theorem wd_X3_why_2 : (.instanceMethod yX1_has : Cond) ∈ wsX3_why := List.mem_of_getElem? (i := 2) rfl
theorem wd_X3_why_3 : (.initialized RX1 : Cond) ∈ wsX3_why := List.mem_of_getElem? (i := 3) rfl
theorem wd_X3_why_4 : (.selects RX1 yX1_has yX1_has : Cond) ∈ wsX3_why := List.mem_of_getElem? (i := 4) rfl
set_option maxHeartbeats 1000000 in
theorem pf_X3_why_1 (fs : Nat → Int32) (num : Int32) (p3 : Nat → Int32) (a : Int32) (d : Int32) (r_1 : Int32) (r_5 : Int32) (hn0 : 0 ≤ num) (hn1 : num ≤ 10) (hs : okS fs) (hz : okSz p3) (w_2 : r_1 = bHas a num) (c_4 : ¬ r_1 = 0) (w_6 : r_5 = bIn d 0 39) (c_8 : ¬ r_5 = 0) : 0 ≤ num := by
  grind [bHas]
set_option maxHeartbeats 1000000 in
theorem pf_X3_why_2 (fs : Nat → Int32) (num : Int32) (p3 : Nat → Int32) (a : Int32) (d : Int32) (r_1 : Int32) (r_5 : Int32) (hn0 : 0 ≤ num) (hn1 : num ≤ 10) (hs : okS fs) (hz : okSz p3) (w_2 : r_1 = bHas a num) (c_4 : ¬ r_1 = 0) (w_6 : r_5 = bIn d 0 39) (c_8 : ¬ r_5 = 0) : num ≤ 10 := by
  grind [bHas]
set_option maxHeartbeats 1000000 in
theorem pf_X3_why_3 (fs : Nat → Int32) (num : Int32) (p3 : Nat → Int32) (a : Int32) (d : Int32) (r_1 : Int32) (r_5 : Int32) (hn0 : 0 ≤ num) (hn1 : num ≤ 10) (hs : okS fs) (hz : okSz p3) (w_2 : r_1 = bHas a num) (c_4 : ¬ r_1 = 0) (w_6 : r_5 = bIn d 0 39) (c_8 : ¬ r_5 = 0) : 0 ≤ a := by
  grind [bHas]
set_option maxHeartbeats 1000000 in
theorem pf_X3_why_4 (fs : Nat → Int32) (num : Int32) (p3 : Nat → Int32) (a : Int32) (d : Int32) (r_1 : Int32) (r_5 : Int32) (hn0 : 0 ≤ num) (hn1 : num ≤ 10) (hs : okS fs) (hz : okSz p3) (w_2 : r_1 = bHas a num) (c_4 : ¬ r_1 = 0) (w_6 : r_5 = bIn d 0 39) (c_8 : ¬ r_5 = 0) : a < num := by
  grind [bHas]
set_option maxHeartbeats 1000000 in
theorem pf_X3_why_5 (fs : Nat → Int32) (num : Int32) (p3 : Nat → Int32) (a : Int32) (d : Int32) (r_1 : Int32) (r_5 : Int32) (hn0 : 0 ≤ num) (hn1 : num ≤ 10) (hs : okS fs) (hz : okSz p3) (w_2 : r_1 = bHas a num) (c_4 : ¬ r_1 = 0) (w_6 : r_5 = bIn d 0 39) (c_8 : ¬ r_5 = 0) : okS fs := by
  exact hs
set_option maxHeartbeats 1000000 in
theorem pf_X3_why_6 (fs : Nat → Int32) (num : Int32) (p3 : Nat → Int32) (a : Int32) (d : Int32) (r_1 : Int32) (r_5 : Int32) (hn0 : 0 ≤ num) (hn1 : num ≤ 10) (hs : okS fs) (hz : okSz p3) (w_2 : r_1 = bHas a num) (c_4 : ¬ r_1 = 0) (w_6 : r_5 = bIn d 0 39) (c_8 : ¬ r_5 = 0) : okSz p3 := by
  exact hz
set_option maxHeartbeats 4000000 in
set_option maxRecDepth 100000 in
theorem c_X3_why (l : Launch) (D : va_G) (cI cQ : ClassId) (sz : Nat) (x : Nat) (cu : Nat) (a1 : Nat) (a2 : Nat) (a3 : Nat) (a4 : Nat) (a5 : Nat) (pi : Nat) (k0 : Nat) (k1 : Nat) (k2 : Nat) (k3 : Nat) (k4 : Nat) (k5 : Nat) (k6 : Nat) (sq : Nat) (s0 : Nat) (fo : Nat) (bo : Nat) (gl : Int32) (td : Int32) (le : Int32) (a0 : Nat) (bw : Int32) (pts : Int32) (fl : Nat → Int32) (fd : Nat → Int32) (fh : Nat → Int32) (fg : Nat → Int32) (fs : Nat → Int32) (k7 : Nat) (num : Int32) (p0 : Nat → Int32) (p1 : Nat → Int32) (p2 : Nat → Int32) (p3 : Nat → Int32) (p4 : Nat → Int32) (p5 : Nat → Int32) (R : Nat → Nat) (M : Nat → Nat → Int32) (sf : Nat → Int32) (ff : Nat → Int32) (a : Int32) (d : Int32) (hn0 : 0 ≤ num) (hn1 : num ≤ 10) (hs : okS fs) (hz : okSz p3) : CtI l yX3_why wsX3_why 4 93 0 0 [.ref x, .int a, .int d] D [(cI, .int), (cQ, .array .int)] [(x, .inr (3, [.ref cu, .ref pi, .ref sq, .ref fo, .ref bo, .int gl, .int td, .int le])), (cu, .inr (0, [.ref a0, .ref a1, .ref a2, .ref a3, .ref a4, .ref a5, .int bw, .int pts])), (a1, .inl (cI, 2, .inl fl)), (a2, .inl (cI, 6, .inl fd)), (a3, .inl (cI, 6, .inl fh)), (a4, .inl (cI, 40, .inl fg)), (a5, .inl (cI, 40, .inl fs)), (pi, .inr (1, [.ref k0, .ref k1, .ref k2, .ref k3, .ref k4, .ref k5, .ref k6, .ref k7, .int num])), (k0, .inl (cI, 10, .inl p0)), (k1, .inl (cI, 10, .inl p1)), (k2, .inl (cI, 10, .inl p2)), (k3, .inl (cI, 10, .inl p3)), (k4, .inl (cI, 10, .inl p4)), (k5, .inl (cI, 10, .inl p5)), (k6, .inl (cQ, 10, .inr (.inr (.inr (.inr (fun i => if i < 10 then some (R i) else none)))))), ((R 0), .inl (cI, 10, .inl (M 0))), ((R 1), .inl (cI, 10, .inl (M 1))), ((R 2), .inl (cI, 10, .inl (M 2))), ((R 3), .inl (cI, 10, .inl (M 3))), ((R 4), .inl (cI, 10, .inl (M 4))), ((R 5), .inl (cI, 10, .inl (M 5))), ((R 6), .inl (cI, 10, .inl (M 6))), ((R 7), .inl (cI, 10, .inl (M 7))), ((R 8), .inl (cI, 10, .inl (M 8))), ((R 9), .inl (cI, 10, .inl (M 9))), (sq, .inr (2, [.ref s0, .int num])), (s0, .inl (cI, 10, .inl sf)), (fo, .inl (cI, 3, .inl ff))] sz (fun (r : Int32) (u : Unit) => True) (fun (u : Unit) => [(x, .inr (3, [.ref cu, .ref pi, .ref sq, .ref fo, .ref bo, .int gl, .int td, .int le])), (cu, .inr (0, [.ref a0, .ref a1, .ref a2, .ref a3, .ref a4, .ref a5, .int bw, .int pts])), (a1, .inl (cI, 2, .inl fl)), (a2, .inl (cI, 6, .inl fd)), (a3, .inl (cI, 6, .inl fh)), (a4, .inl (cI, 40, .inl fg)), (a5, .inl (cI, 40, .inl fs)), (pi, .inr (1, [.ref k0, .ref k1, .ref k2, .ref k3, .ref k4, .ref k5, .ref k6, .ref k7, .int num])), (k0, .inl (cI, 10, .inl p0)), (k1, .inl (cI, 10, .inl p1)), (k2, .inl (cI, 10, .inl p2)), (k3, .inl (cI, 10, .inl p3)), (k4, .inl (cI, 10, .inl p4)), (k5, .inl (cI, 10, .inl p5)), (k6, .inl (cQ, 10, .inr (.inr (.inr (.inr (fun i => if i < 10 then some (R i) else none)))))), ((R 0), .inl (cI, 10, .inl (M 0))), ((R 1), .inl (cI, 10, .inl (M 1))), ((R 2), .inl (cI, 10, .inl (M 2))), ((R 3), .inl (cI, 10, .inl (M 3))), ((R 4), .inl (cI, 10, .inl (M 4))), ((R 5), .inl (cI, 10, .inl (M 5))), ((R 6), .inl (cI, 10, .inl (M 6))), ((R 7), .inl (cI, 10, .inl (M 7))), ((R 8), .inl (cI, 10, .inl (M 8))), ((R 9), .inl (cI, 10, .inl (M 9))), (sq, .inr (2, [.ref s0, .int num])), (s0, .inl (cI, 10, .inl sf)), (fo, .inl (cI, 3, .inl ff))]) := by
  refine Met.ofW (cc := cX3_why) (maxL := 3) (ret := (some .int)) (by decide) rfl ?_
  intro p e s m args below meth c s₁ B hml hv
  obtain ⟨rfl, hsz, hP, hK, hD0, hN⟩ := hv
  have hx := B.exec
  have hb := B.bytes
  have hr := B.returns
  have hts := atoms_spec (ws := wsX3_why) B.pre
  have hown : s.vm.findClass RX3 = some m.cls := findClass_of_methodNamed B.named
  have hlocks := B.notSynchronized
  subst hsz
  have hD := hD0.self (sz := s.heap.size)
  generalize hAe : va_A [(x, .inr (3, [.ref cu, .ref pi, .ref sq, .ref fo, .ref bo, .int gl, .int td, .int le])), (cu, .inr (0, [.ref a0, .ref a1, .ref a2, .ref a3, .ref a4, .ref a5, .int bw, .int pts])), (a1, .inl (cI, 2, .inl fl)), (a2, .inl (cI, 6, .inl fd)), (a3, .inl (cI, 6, .inl fh)), (a4, .inl (cI, 40, .inl fg)), (a5, .inl (cI, 40, .inl fs)), (pi, .inr (1, [.ref k0, .ref k1, .ref k2, .ref k3, .ref k4, .ref k5, .ref k6, .ref k7, .int num])), (k0, .inl (cI, 10, .inl p0)), (k1, .inl (cI, 10, .inl p1)), (k2, .inl (cI, 10, .inl p2)), (k3, .inl (cI, 10, .inl p3)), (k4, .inl (cI, 10, .inl p4)), (k5, .inl (cI, 10, .inl p5)), (k6, .inl (cQ, 10, .inr (.inr (.inr (.inr (fun i => if i < 10 then some (R i) else none)))))), ((R 0), .inl (cI, 10, .inl (M 0))), ((R 1), .inl (cI, 10, .inl (M 1))), ((R 2), .inl (cI, 10, .inl (M 2))), ((R 3), .inl (cI, 10, .inl (M 3))), ((R 4), .inl (cI, 10, .inl (M 4))), ((R 5), .inl (cI, 10, .inl (M 5))), ((R 6), .inl (cI, 10, .inl (M 6))), ((R 7), .inl (cI, 10, .inl (M 7))), ((R 8), .inl (cI, 10, .inl (M 8))), ((R 9), .inl (cI, 10, .inl (M 9))), (sq, .inr (2, [.ref s0, .int num])), (s0, .inl (cI, 10, .inl sf)), (fo, .inl (cI, 3, .inl ff))] s.heap.size = A at hD ⊢
  have hA : ∀ q : Nat, s.heap.size ≤ q → A q := fun q h => by rw [← hAe]; exact Or.inr h
  have hS : va_S A s.heap s.heap [] := va_S.rf
  have hl := lv_entry ([.ref x, .int a, .int d]) (n := 3) (Nat.le_of_ble_eq_true rfl)
  rw [lg_entry_eq]
  generalize (lg_sl ([.ref x, .int a, .int d]) ++ List.replicate (3 - (lg_sl ([.ref x, .int a, .int d])).length) Slot.unset).toArray = ls at hl ⊢
  have hl : lv_has ls 3 [(0, .ref x), (1, .int a), (2, .int d)] := hl
  have hP0 := hP
  refine lv_aload_n hx hb dX3_why_0 rfl (lv_at hl 0 rfl) ?_
  refine va_get (D := D) (ci := 3) (v := .ref pi) (C := RX3) (T := TX3) (N := 8) hx hb hts iw_X3_why_3 hown hK hP 0 rfl rfl 1 (by decide) (hts _ wd_X3_why_1) (fun _ h9 => h9) rfl dX3_why_1 ?_
  refine lv_iload_n hx hb dX3_why_4 rfl (lv_at hl 1 rfl) ?_
  refine cc_i (wc := [(pi, .inr (1, [.ref k0, .ref k1, .ref k2, .ref k3, .ref k4, .ref k5, .ref k6, .ref k7, .int num]))]) (wr := [(x, .inr (3, [.ref cu, .ref pi, .ref sq, .ref fo, .ref bo, .int gl, .int td, .int le])), (cu, .inr (0, [.ref a0, .ref a1, .ref a2, .ref a3, .ref a4, .ref a5, .int bw, .int pts])), (a1, .inl (cI, 2, .inl fl)), (a2, .inl (cI, 6, .inl fd)), (a3, .inl (cI, 6, .inl fh)), (a4, .inl (cI, 40, .inl fg)), (a5, .inl (cI, 40, .inl fs)), (k0, .inl (cI, 10, .inl p0)), (k1, .inl (cI, 10, .inl p1)), (k2, .inl (cI, 10, .inl p2)), (k3, .inl (cI, 10, .inl p3)), (k4, .inl (cI, 10, .inl p4)), (k5, .inl (cI, 10, .inl p5)), (k6, .inl (cQ, 10, .inr (.inr (.inr (.inr (fun i => if i < 10 then some (R i) else none)))))), ((R 0), .inl (cI, 10, .inl (M 0))), ((R 1), .inl (cI, 10, .inl (M 1))), ((R 2), .inl (cI, 10, .inl (M 2))), ((R 3), .inl (cI, 10, .inl (M 3))), ((R 4), .inl (cI, 10, .inl (M 4))), ((R 5), .inl (cI, 10, .inl (M 5))), ((R 6), .inl (cI, 10, .inl (M 6))), ((R 7), .inl (cI, 10, .inl (M 7))), ((R 8), .inl (cI, 10, .inl (M 8))), ((R 9), .inl (cI, 10, .inl (M 9))), (sq, .inr (2, [.ref s0, .int num])), (s0, .inl (cI, 10, .inl sf)), (fo, .inl (cI, 3, .inl ff))]) (va_runVN (As := [.int a]) (rest := []) ⟨hx, hb, hml, hown, hts⟩ (c_X1_has l D cI cQ s.heap.size pi k0 k1 k2 k3 k4 k5 k6 k7 num a ) ⟨va_cnB 1 hts gX3_why_X1_has_n64 rfl rfl rfl (nwM_64 hN) (hts _ wd_X3_why_3) (by decide +kernel) ⟨Nat.le_of_ble_eq_true rfl, Nat.le_of_ble_eq_true rfl⟩, (hts _ wd_X3_why_2), (hts _ wd_X3_why_4)⟩ (preV (wc := [(pi, .inr (1, [.ref k0, .ref k1, .ref k2, .ref k3, .ref k4, .ref k5, .ref k6, .ref k7, .int num]))]) (ci := 1) (q0 := 7) hK hP hD hN [7] rfl (by decide) rfl rfl) rfl rfl hl.1 rfl (lv_room (Nat.le_of_ble_eq_true rfl)) dX3_why_5 ⟨Nat.le_of_ble_eq_true rfl, Nat.le_of_ble_eq_true rfl⟩) hP hD hS hA [7] [0, 1, 2, 3, 4, 5, 6, 8, 9, 10, 11, 12, 13, 14, 15, 16, 17, 18, 19, 20, 21, 22, 23, 24, 25, 26, 27] rfl rfl (by decide) (by decide) (fun r_1 u H locs w_2 hP hD hS => ?_)
  have hP : va_P D vwCl [(x, .inr (3, [.ref cu, .ref pi, .ref sq, .ref fo, .ref bo, .int gl, .int td, .int le])), (cu, .inr (0, [.ref a0, .ref a1, .ref a2, .ref a3, .ref a4, .ref a5, .int bw, .int pts])), (a1, .inl (cI, 2, .inl fl)), (a2, .inl (cI, 6, .inl fd)), (a3, .inl (cI, 6, .inl fh)), (a4, .inl (cI, 40, .inl fg)), (a5, .inl (cI, 40, .inl fs)), (k0, .inl (cI, 10, .inl p0)), (k1, .inl (cI, 10, .inl p1)), (k2, .inl (cI, 10, .inl p2)), (k3, .inl (cI, 10, .inl p3)), (k4, .inl (cI, 10, .inl p4)), (k5, .inl (cI, 10, .inl p5)), (k6, .inl (cQ, 10, .inr (.inr (.inr (.inr (fun i => if i < 10 then some (R i) else none)))))), ((R 0), .inl (cI, 10, .inl (M 0))), ((R 1), .inl (cI, 10, .inl (M 1))), ((R 2), .inl (cI, 10, .inl (M 2))), ((R 3), .inl (cI, 10, .inl (M 3))), ((R 4), .inl (cI, 10, .inl (M 4))), ((R 5), .inl (cI, 10, .inl (M 5))), ((R 6), .inl (cI, 10, .inl (M 6))), ((R 7), .inl (cI, 10, .inl (M 7))), ((R 8), .inl (cI, 10, .inl (M 8))), ((R 9), .inl (cI, 10, .inl (M 9))), (sq, .inr (2, [.ref s0, .int num])), (s0, .inl (cI, 10, .inl sf)), (fo, .inl (cI, 3, .inl ff)), (pi, .inr (1, [.ref k0, .ref k1, .ref k2, .ref k3, .ref k4, .ref k5, .ref k6, .ref k7, .int num]))] H := hP
  have hD : va_D A [(x, .inr (3, [.ref cu, .ref pi, .ref sq, .ref fo, .ref bo, .int gl, .int td, .int le])), (cu, .inr (0, [.ref a0, .ref a1, .ref a2, .ref a3, .ref a4, .ref a5, .int bw, .int pts])), (a1, .inl (cI, 2, .inl fl)), (a2, .inl (cI, 6, .inl fd)), (a3, .inl (cI, 6, .inl fh)), (a4, .inl (cI, 40, .inl fg)), (a5, .inl (cI, 40, .inl fs)), (k0, .inl (cI, 10, .inl p0)), (k1, .inl (cI, 10, .inl p1)), (k2, .inl (cI, 10, .inl p2)), (k3, .inl (cI, 10, .inl p3)), (k4, .inl (cI, 10, .inl p4)), (k5, .inl (cI, 10, .inl p5)), (k6, .inl (cQ, 10, .inr (.inr (.inr (.inr (fun i => if i < 10 then some (R i) else none)))))), ((R 0), .inl (cI, 10, .inl (M 0))), ((R 1), .inl (cI, 10, .inl (M 1))), ((R 2), .inl (cI, 10, .inl (M 2))), ((R 3), .inl (cI, 10, .inl (M 3))), ((R 4), .inl (cI, 10, .inl (M 4))), ((R 5), .inl (cI, 10, .inl (M 5))), ((R 6), .inl (cI, 10, .inl (M 6))), ((R 7), .inl (cI, 10, .inl (M 7))), ((R 8), .inl (cI, 10, .inl (M 8))), ((R 9), .inl (cI, 10, .inl (M 9))), (sq, .inr (2, [.ref s0, .int num])), (s0, .inl (cI, 10, .inl sf)), (fo, .inl (cI, 3, .inl ff)), (pi, .inr (1, [.ref k0, .ref k1, .ref k2, .ref k3, .ref k4, .ref k5, .ref k6, .ref k7, .int num]))] := hD
  have w_2 : r_1 = bHas a num := w_2
  refine lv_if_eq (tgt := 27) hx hb dX3_why_8 (by decide) (fun c_4 => ?_) (fun c_4 => ?_)
  · refine lv_iconst (v := (-1)) hx hb dX3_why_27 (by decide) ?_
    refine W.widen (k := 0) (n := 0) (Nat.le_of_ble_eq_true rfl) (Nat.le_of_ble_eq_true rfl) ?_
    exact fi_i () hx hb hr hlocks hK (hP.sub [0, 1, 2, 3, 4, 5, 6, 27, 7, 8, 9, 10, 11, 12, 13, 14, 15, 16, 17, 18, 19, 20, 21, 22, 23, 24, 25, 26] rfl) (hD.sub [0, 1, 2, 3, 4, 5, 6, 27, 7, 8, 9, 10, 11, 12, 13, 14, 15, 16, 17, 18, 19, 20, 21, 22, 23, 24, 25, 26] (by decide) rfl) hS trivial dX3_why_28
  · refine lv_iload_n hx hb dX3_why_11 rfl (lv_at hl 2 rfl) ?_
    refine cc_i (wc := []) (wr := [(x, .inr (3, [.ref cu, .ref pi, .ref sq, .ref fo, .ref bo, .int gl, .int td, .int le])), (cu, .inr (0, [.ref a0, .ref a1, .ref a2, .ref a3, .ref a4, .ref a5, .int bw, .int pts])), (a1, .inl (cI, 2, .inl fl)), (a2, .inl (cI, 6, .inl fd)), (a3, .inl (cI, 6, .inl fh)), (a4, .inl (cI, 40, .inl fg)), (a5, .inl (cI, 40, .inl fs)), (k0, .inl (cI, 10, .inl p0)), (k1, .inl (cI, 10, .inl p1)), (k2, .inl (cI, 10, .inl p2)), (k3, .inl (cI, 10, .inl p3)), (k4, .inl (cI, 10, .inl p4)), (k5, .inl (cI, 10, .inl p5)), (k6, .inl (cQ, 10, .inr (.inr (.inr (.inr (fun i => if i < 10 then some (R i) else none)))))), ((R 0), .inl (cI, 10, .inl (M 0))), ((R 1), .inl (cI, 10, .inl (M 1))), ((R 2), .inl (cI, 10, .inl (M 2))), ((R 3), .inl (cI, 10, .inl (M 3))), ((R 4), .inl (cI, 10, .inl (M 4))), ((R 5), .inl (cI, 10, .inl (M 5))), ((R 6), .inl (cI, 10, .inl (M 6))), ((R 7), .inl (cI, 10, .inl (M 7))), ((R 8), .inl (cI, 10, .inl (M 8))), ((R 9), .inl (cI, 10, .inl (M 9))), (sq, .inr (2, [.ref s0, .int num])), (s0, .inl (cI, 10, .inl sf)), (fo, .inl (cI, 3, .inl ff)), (pi, .inr (1, [.ref k0, .ref k1, .ref k2, .ref k3, .ref k4, .ref k5, .ref k6, .ref k7, .int num]))]) (va_runS (As := [.int d]) (rest := []) ⟨hx, hb, hml, hown, hts⟩ (c_X3_isDay l D cI cQ H.size d ) (va_cwS 1 hts gX3_why_X3_isDay rfl rfl rfl (by decide +kernel) ⟨Nat.le_of_ble_eq_true rfl, Nat.le_of_ble_eq_true rfl⟩) (preS (wc := []) hK hP hD hN [] rfl (by decide)) rfl rfl hl.1 rfl (lv_room (Nat.le_of_ble_eq_true rfl)) dX3_why_12 ⟨Nat.le_of_ble_eq_true rfl, Nat.le_of_ble_eq_true rfl⟩) hP hD hS hA [] [0, 1, 2, 3, 4, 5, 6, 7, 8, 9, 10, 11, 12, 13, 14, 15, 16, 17, 18, 19, 20, 21, 22, 23, 24, 25, 26, 27] rfl rfl (by decide) (by decide) (fun r_5 u H locs w_6 hP hD hS => ?_)
    have hP : va_P D vwCl [(x, .inr (3, [.ref cu, .ref pi, .ref sq, .ref fo, .ref bo, .int gl, .int td, .int le])), (cu, .inr (0, [.ref a0, .ref a1, .ref a2, .ref a3, .ref a4, .ref a5, .int bw, .int pts])), (a1, .inl (cI, 2, .inl fl)), (a2, .inl (cI, 6, .inl fd)), (a3, .inl (cI, 6, .inl fh)), (a4, .inl (cI, 40, .inl fg)), (a5, .inl (cI, 40, .inl fs)), (k0, .inl (cI, 10, .inl p0)), (k1, .inl (cI, 10, .inl p1)), (k2, .inl (cI, 10, .inl p2)), (k3, .inl (cI, 10, .inl p3)), (k4, .inl (cI, 10, .inl p4)), (k5, .inl (cI, 10, .inl p5)), (k6, .inl (cQ, 10, .inr (.inr (.inr (.inr (fun i => if i < 10 then some (R i) else none)))))), ((R 0), .inl (cI, 10, .inl (M 0))), ((R 1), .inl (cI, 10, .inl (M 1))), ((R 2), .inl (cI, 10, .inl (M 2))), ((R 3), .inl (cI, 10, .inl (M 3))), ((R 4), .inl (cI, 10, .inl (M 4))), ((R 5), .inl (cI, 10, .inl (M 5))), ((R 6), .inl (cI, 10, .inl (M 6))), ((R 7), .inl (cI, 10, .inl (M 7))), ((R 8), .inl (cI, 10, .inl (M 8))), ((R 9), .inl (cI, 10, .inl (M 9))), (sq, .inr (2, [.ref s0, .int num])), (s0, .inl (cI, 10, .inl sf)), (fo, .inl (cI, 3, .inl ff)), (pi, .inr (1, [.ref k0, .ref k1, .ref k2, .ref k3, .ref k4, .ref k5, .ref k6, .ref k7, .int num]))] H := hP
    have hD : va_D A [(x, .inr (3, [.ref cu, .ref pi, .ref sq, .ref fo, .ref bo, .int gl, .int td, .int le])), (cu, .inr (0, [.ref a0, .ref a1, .ref a2, .ref a3, .ref a4, .ref a5, .int bw, .int pts])), (a1, .inl (cI, 2, .inl fl)), (a2, .inl (cI, 6, .inl fd)), (a3, .inl (cI, 6, .inl fh)), (a4, .inl (cI, 40, .inl fg)), (a5, .inl (cI, 40, .inl fs)), (k0, .inl (cI, 10, .inl p0)), (k1, .inl (cI, 10, .inl p1)), (k2, .inl (cI, 10, .inl p2)), (k3, .inl (cI, 10, .inl p3)), (k4, .inl (cI, 10, .inl p4)), (k5, .inl (cI, 10, .inl p5)), (k6, .inl (cQ, 10, .inr (.inr (.inr (.inr (fun i => if i < 10 then some (R i) else none)))))), ((R 0), .inl (cI, 10, .inl (M 0))), ((R 1), .inl (cI, 10, .inl (M 1))), ((R 2), .inl (cI, 10, .inl (M 2))), ((R 3), .inl (cI, 10, .inl (M 3))), ((R 4), .inl (cI, 10, .inl (M 4))), ((R 5), .inl (cI, 10, .inl (M 5))), ((R 6), .inl (cI, 10, .inl (M 6))), ((R 7), .inl (cI, 10, .inl (M 7))), ((R 8), .inl (cI, 10, .inl (M 8))), ((R 9), .inl (cI, 10, .inl (M 9))), (sq, .inr (2, [.ref s0, .int num])), (s0, .inl (cI, 10, .inl sf)), (fo, .inl (cI, 3, .inl ff)), (pi, .inr (1, [.ref k0, .ref k1, .ref k2, .ref k3, .ref k4, .ref k5, .ref k6, .ref k7, .int num]))] := hD
    have w_6 : r_5 = bIn d 0 39 := w_6
    refine lv_if_eq (tgt := 27) hx hb dX3_why_15 (by decide) (fun c_8 => ?_) (fun c_8 => ?_)
    · refine lv_iconst (v := (-1)) hx hb dX3_why_27 (by decide) ?_
      refine W.widen (k := 0) (n := 0) (Nat.le_of_ble_eq_true rfl) (Nat.le_of_ble_eq_true rfl) ?_
      exact fi_i () hx hb hr hlocks hK (hP.sub [0, 1, 2, 3, 4, 5, 6, 27, 7, 8, 9, 10, 11, 12, 13, 14, 15, 16, 17, 18, 19, 20, 21, 22, 23, 24, 25, 26] rfl) (hD.sub [0, 1, 2, 3, 4, 5, 6, 27, 7, 8, 9, 10, 11, 12, 13, 14, 15, 16, 17, 18, 19, 20, 21, 22, 23, 24, 25, 26] (by decide) rfl) hS trivial dX3_why_28
    · refine lv_aload_n hx hb dX3_why_18 rfl (lv_at hl 0 rfl) ?_
      refine lv_iload_n hx hb dX3_why_19 rfl (lv_at hl 1 rfl) ?_
      refine lv_iload_n hx hb dX3_why_20 rfl (lv_at hl 2 rfl) ?_
      refine cc_i (wc := [(x, .inr (3, [.ref cu, .ref pi, .ref sq, .ref fo, .ref bo, .int gl, .int td, .int le])), (cu, .inr (0, [.ref a0, .ref a1, .ref a2, .ref a3, .ref a4, .ref a5, .int bw, .int pts])), (a1, .inl (cI, 2, .inl fl)), (a2, .inl (cI, 6, .inl fd)), (a3, .inl (cI, 6, .inl fh)), (a4, .inl (cI, 40, .inl fg)), (a5, .inl (cI, 40, .inl fs)), (pi, .inr (1, [.ref k0, .ref k1, .ref k2, .ref k3, .ref k4, .ref k5, .ref k6, .ref k7, .int num])), (k0, .inl (cI, 10, .inl p0)), (k1, .inl (cI, 10, .inl p1)), (k2, .inl (cI, 10, .inl p2)), (k3, .inl (cI, 10, .inl p3)), (k4, .inl (cI, 10, .inl p4)), (k5, .inl (cI, 10, .inl p5)), (k6, .inl (cQ, 10, .inr (.inr (.inr (.inr (fun i => if i < 10 then some (R i) else none)))))), ((R 0), .inl (cI, 10, .inl (M 0))), ((R 1), .inl (cI, 10, .inl (M 1))), ((R 2), .inl (cI, 10, .inl (M 2))), ((R 3), .inl (cI, 10, .inl (M 3))), ((R 4), .inl (cI, 10, .inl (M 4))), ((R 5), .inl (cI, 10, .inl (M 5))), ((R 6), .inl (cI, 10, .inl (M 6))), ((R 7), .inl (cI, 10, .inl (M 7))), ((R 8), .inl (cI, 10, .inl (M 8))), ((R 9), .inl (cI, 10, .inl (M 9))), (sq, .inr (2, [.ref s0, .int num])), (s0, .inl (cI, 10, .inl sf)), (fo, .inl (cI, 3, .inl ff))]) (wr := []) (va_runV (As := [.int a, .int d]) (rest := []) ⟨hx, hb, hml, hown, hts⟩ (c_X3_hindrance l D cI cQ H.size x cu a1 a2 a3 a4 a5 pi k0 k1 k2 k3 k4 k5 k6 sq s0 fo bo gl td le a0 bw pts fl fd fh fg fs k7 num p0 p1 p2 p3 p4 p5 R M sf ff a d (pf_X3_why_1 fs num p3 a d r_1 r_5 hn0 hn1 hs hz w_2 c_4 w_6 c_8) (pf_X3_why_2 fs num p3 a d r_1 r_5 hn0 hn1 hs hz w_2 c_4 w_6 c_8) (pf_X3_why_3 fs num p3 a d r_1 r_5 hn0 hn1 hs hz w_2 c_4 w_6 c_8) (pf_X3_why_4 fs num p3 a d r_1 r_5 hn0 hn1 hs hz w_2 c_4 w_6 c_8) (pf_X3_why_5 fs num p3 a d r_1 r_5 hn0 hn1 hs hz w_2 c_4 w_6 c_8) (pf_X3_why_6 fs num p3 a d r_1 r_5 hn0 hn1 hs hz w_2 c_4 w_6 c_8)) (cwV 2 hts gX3_why_X3_hindrance rfl rfl rfl (by decide +kernel) ⟨Nat.le_of_ble_eq_true rfl, Nat.le_of_ble_eq_true rfl⟩) (preV (wc := [(x, .inr (3, [.ref cu, .ref pi, .ref sq, .ref fo, .ref bo, .int gl, .int td, .int le])), (cu, .inr (0, [.ref a0, .ref a1, .ref a2, .ref a3, .ref a4, .ref a5, .int bw, .int pts])), (a1, .inl (cI, 2, .inl fl)), (a2, .inl (cI, 6, .inl fd)), (a3, .inl (cI, 6, .inl fh)), (a4, .inl (cI, 40, .inl fg)), (a5, .inl (cI, 40, .inl fs)), (pi, .inr (1, [.ref k0, .ref k1, .ref k2, .ref k3, .ref k4, .ref k5, .ref k6, .ref k7, .int num])), (k0, .inl (cI, 10, .inl p0)), (k1, .inl (cI, 10, .inl p1)), (k2, .inl (cI, 10, .inl p2)), (k3, .inl (cI, 10, .inl p3)), (k4, .inl (cI, 10, .inl p4)), (k5, .inl (cI, 10, .inl p5)), (k6, .inl (cQ, 10, .inr (.inr (.inr (.inr (fun i => if i < 10 then some (R i) else none)))))), ((R 0), .inl (cI, 10, .inl (M 0))), ((R 1), .inl (cI, 10, .inl (M 1))), ((R 2), .inl (cI, 10, .inl (M 2))), ((R 3), .inl (cI, 10, .inl (M 3))), ((R 4), .inl (cI, 10, .inl (M 4))), ((R 5), .inl (cI, 10, .inl (M 5))), ((R 6), .inl (cI, 10, .inl (M 6))), ((R 7), .inl (cI, 10, .inl (M 7))), ((R 8), .inl (cI, 10, .inl (M 8))), ((R 9), .inl (cI, 10, .inl (M 9))), (sq, .inr (2, [.ref s0, .int num])), (s0, .inl (cI, 10, .inl sf)), (fo, .inl (cI, 3, .inl ff))]) (ci := 3) (q0 := 0) hK hP hD hN [0, 1, 2, 3, 4, 5, 6, 27, 7, 8, 9, 10, 11, 12, 13, 14, 15, 16, 17, 18, 19, 20, 21, 22, 23, 24, 25, 26] rfl (by decide) rfl rfl) rfl rfl hl.1 rfl (lv_room (Nat.le_of_ble_eq_true rfl)) dX3_why_21 ⟨Nat.le_of_ble_eq_true rfl, Nat.le_of_ble_eq_true rfl⟩) hP hD hS hA [0, 1, 2, 3, 4, 5, 6, 27, 7, 8, 9, 10, 11, 12, 13, 14, 15, 16, 17, 18, 19, 20, 21, 22, 23, 24, 25, 26] [] rfl rfl (by decide) (by decide) (fun r_9 u H locs w_10 hP hD hS => ?_)
      have hP : va_P D vwCl [(x, .inr (3, [.ref cu, .ref pi, .ref sq, .ref fo, .ref bo, .int gl, .int td, .int le])), (cu, .inr (0, [.ref a0, .ref a1, .ref a2, .ref a3, .ref a4, .ref a5, .int bw, .int pts])), (a1, .inl (cI, 2, .inl fl)), (a2, .inl (cI, 6, .inl fd)), (a3, .inl (cI, 6, .inl fh)), (a4, .inl (cI, 40, .inl fg)), (a5, .inl (cI, 40, .inl fs)), (pi, .inr (1, [.ref k0, .ref k1, .ref k2, .ref k3, .ref k4, .ref k5, .ref k6, .ref k7, .int num])), (k0, .inl (cI, 10, .inl p0)), (k1, .inl (cI, 10, .inl p1)), (k2, .inl (cI, 10, .inl p2)), (k3, .inl (cI, 10, .inl p3)), (k4, .inl (cI, 10, .inl p4)), (k5, .inl (cI, 10, .inl p5)), (k6, .inl (cQ, 10, .inr (.inr (.inr (.inr (fun i => if i < 10 then some (R i) else none)))))), ((R 0), .inl (cI, 10, .inl (M 0))), ((R 1), .inl (cI, 10, .inl (M 1))), ((R 2), .inl (cI, 10, .inl (M 2))), ((R 3), .inl (cI, 10, .inl (M 3))), ((R 4), .inl (cI, 10, .inl (M 4))), ((R 5), .inl (cI, 10, .inl (M 5))), ((R 6), .inl (cI, 10, .inl (M 6))), ((R 7), .inl (cI, 10, .inl (M 7))), ((R 8), .inl (cI, 10, .inl (M 8))), ((R 9), .inl (cI, 10, .inl (M 9))), (sq, .inr (2, [.ref s0, .int num])), (s0, .inl (cI, 10, .inl sf)), (fo, .inl (cI, 3, .inl ff))] H := hP
      have hD : va_D A [(x, .inr (3, [.ref cu, .ref pi, .ref sq, .ref fo, .ref bo, .int gl, .int td, .int le])), (cu, .inr (0, [.ref a0, .ref a1, .ref a2, .ref a3, .ref a4, .ref a5, .int bw, .int pts])), (a1, .inl (cI, 2, .inl fl)), (a2, .inl (cI, 6, .inl fd)), (a3, .inl (cI, 6, .inl fh)), (a4, .inl (cI, 40, .inl fg)), (a5, .inl (cI, 40, .inl fs)), (pi, .inr (1, [.ref k0, .ref k1, .ref k2, .ref k3, .ref k4, .ref k5, .ref k6, .ref k7, .int num])), (k0, .inl (cI, 10, .inl p0)), (k1, .inl (cI, 10, .inl p1)), (k2, .inl (cI, 10, .inl p2)), (k3, .inl (cI, 10, .inl p3)), (k4, .inl (cI, 10, .inl p4)), (k5, .inl (cI, 10, .inl p5)), (k6, .inl (cQ, 10, .inr (.inr (.inr (.inr (fun i => if i < 10 then some (R i) else none)))))), ((R 0), .inl (cI, 10, .inl (M 0))), ((R 1), .inl (cI, 10, .inl (M 1))), ((R 2), .inl (cI, 10, .inl (M 2))), ((R 3), .inl (cI, 10, .inl (M 3))), ((R 4), .inl (cI, 10, .inl (M 4))), ((R 5), .inl (cI, 10, .inl (M 5))), ((R 6), .inl (cI, 10, .inl (M 6))), ((R 7), .inl (cI, 10, .inl (M 7))), ((R 8), .inl (cI, 10, .inl (M 8))), ((R 9), .inl (cI, 10, .inl (M 9))), (sq, .inr (2, [.ref s0, .int num])), (s0, .inl (cI, 10, .inl sf)), (fo, .inl (cI, 3, .inl ff))] := hD
      refine lv_goto (tgt := 28) hx hb dX3_why_24 (by decide) ?_
      refine W.widen (k := 0) (n := 0) (Nat.le_of_ble_eq_true rfl) (Nat.le_of_ble_eq_true rfl) ?_
      exact fi_i () hx hb hr hlocks hK (hP.sub [0, 1, 2, 3, 4, 5, 6, 7, 8, 9, 10, 11, 12, 13, 14, 15, 16, 17, 18, 19, 20, 21, 22, 23, 24, 25, 26, 27] rfl) (hD.sub [0, 1, 2, 3, 4, 5, 6, 7, 8, 9, 10, 11, 12, 13, 14, 15, 16, 17, 18, 19, 20, 21, 22, 23, 24, 25, 26, 27] (by decide) rfl) hS trivial dX3_why_28

set_option maxHeartbeats 1000000 in
theorem pf_X3_free_1 (fs : Nat → Int32) (num : Int32) (s1 : Int32) (d : Int32) (r_1 : Int32) (r_5 : Int32) (hn0 : 0 ≤ num) (hn1 : num ≤ 10) (hs : okS fs) (w_2 : r_1 = bIn s1 (0 : Int32) (2 : Int32)) (c_4 : ¬ r_1 = 0) (w_6 : r_5 = bIn d 0 39) (c_8 : ¬ r_5 = 0) : 0 ≤ num := by
  grind [bIn]
set_option maxHeartbeats 1000000 in
theorem pf_X3_free_2 (fs : Nat → Int32) (num : Int32) (s1 : Int32) (d : Int32) (r_1 : Int32) (r_5 : Int32) (hn0 : 0 ≤ num) (hn1 : num ≤ 10) (hs : okS fs) (w_2 : r_1 = bIn s1 (0 : Int32) (2 : Int32)) (c_4 : ¬ r_1 = 0) (w_6 : r_5 = bIn d 0 39) (c_8 : ¬ r_5 = 0) : num ≤ 10 := by
  grind [bIn]
set_option maxHeartbeats 1000000 in
theorem pf_X3_free_3 (fs : Nat → Int32) (num : Int32) (s1 : Int32) (d : Int32) (r_1 : Int32) (r_5 : Int32) (hn0 : 0 ≤ num) (hn1 : num ≤ 10) (hs : okS fs) (w_2 : r_1 = bIn s1 (0 : Int32) (2 : Int32)) (c_4 : ¬ r_1 = 0) (w_6 : r_5 = bIn d 0 39) (c_8 : ¬ r_5 = 0) : okS fs := by
  exact hs
set_option maxHeartbeats 1000000 in
theorem pf_X3_free_4 (fs : Nat → Int32) (num : Int32) (s1 : Int32) (d : Int32) (r_1 : Int32) (r_5 : Int32) (hn0 : 0 ≤ num) (hn1 : num ≤ 10) (hs : okS fs) (w_2 : r_1 = bIn s1 (0 : Int32) (2 : Int32)) (c_4 : ¬ r_1 = 0) (w_6 : r_5 = bIn d 0 39) (c_8 : ¬ r_5 = 0) : vp_in s1 3 := by
  exact vi_in (M := 3) rfl (by grind [bIn]) (by grind [bIn])
set_option maxHeartbeats 4000000 in
set_option maxRecDepth 100000 in
theorem c_X3_free (l : Launch) (D : va_G) (cI cQ : ClassId) (sz : Nat) (x : Nat) (cu : Nat) (a5 : Nat) (pi : Nat) (k3 : Nat) (k4 : Nat) (k5 : Nat) (fo : Nat) (sq : Nat) (bo : Nat) (gl : Int32) (td : Int32) (le : Int32) (a0 : Nat) (a1 : Nat) (a2 : Nat) (a3 : Nat) (a4 : Nat) (bw : Int32) (pts : Int32) (fs : Nat → Int32) (k0 : Nat) (k1 : Nat) (k2 : Nat) (k6 : Nat) (k7 : Nat) (num : Int32) (p3 : Nat → Int32) (p4 : Nat → Int32) (p5 : Nat → Int32) (ff : Nat → Int32) (s1 : Int32) (d : Int32) (hn0 : 0 ≤ num) (hn1 : num ≤ 10) (hs : okS fs) : CtI l yX3_free wsX3_free 3 69 0 0 [.ref x, .int s1, .int d] D [(cI, .int), (cQ, .array .int)] [(x, .inr (3, [.ref cu, .ref pi, .ref sq, .ref fo, .ref bo, .int gl, .int td, .int le])), (cu, .inr (0, [.ref a0, .ref a1, .ref a2, .ref a3, .ref a4, .ref a5, .int bw, .int pts])), (a5, .inl (cI, 40, .inl fs)), (pi, .inr (1, [.ref k0, .ref k1, .ref k2, .ref k3, .ref k4, .ref k5, .ref k6, .ref k7, .int num])), (k3, .inl (cI, 10, .inl p3)), (k4, .inl (cI, 10, .inl p4)), (k5, .inl (cI, 10, .inl p5)), (fo, .inl (cI, 3, .inl ff))] sz (fun (r : Int32) (u : Unit) => True) (fun (u : Unit) => [(x, .inr (3, [.ref cu, .ref pi, .ref sq, .ref fo, .ref bo, .int gl, .int td, .int le])), (cu, .inr (0, [.ref a0, .ref a1, .ref a2, .ref a3, .ref a4, .ref a5, .int bw, .int pts])), (a5, .inl (cI, 40, .inl fs)), (pi, .inr (1, [.ref k0, .ref k1, .ref k2, .ref k3, .ref k4, .ref k5, .ref k6, .ref k7, .int num])), (k3, .inl (cI, 10, .inl p3)), (k4, .inl (cI, 10, .inl p4)), (k5, .inl (cI, 10, .inl p5)), (fo, .inl (cI, 3, .inl ff))]) := by
  refine Met.ofW (cc := cX3_free) (maxL := 3) (ret := (some .int)) (by decide) rfl ?_
  intro p e s m args below meth c s₁ B hml hv
  obtain ⟨rfl, hsz, hP, hK, hD0, hN⟩ := hv
  have hx := B.exec
  have hb := B.bytes
  have hr := B.returns
  have hts := atoms_spec (ws := wsX3_free) B.pre
  have hown : s.vm.findClass RX3 = some m.cls := findClass_of_methodNamed B.named
  have hlocks := B.notSynchronized
  subst hsz
  have hD := hD0.self (sz := s.heap.size)
  generalize hAe : va_A [(x, .inr (3, [.ref cu, .ref pi, .ref sq, .ref fo, .ref bo, .int gl, .int td, .int le])), (cu, .inr (0, [.ref a0, .ref a1, .ref a2, .ref a3, .ref a4, .ref a5, .int bw, .int pts])), (a5, .inl (cI, 40, .inl fs)), (pi, .inr (1, [.ref k0, .ref k1, .ref k2, .ref k3, .ref k4, .ref k5, .ref k6, .ref k7, .int num])), (k3, .inl (cI, 10, .inl p3)), (k4, .inl (cI, 10, .inl p4)), (k5, .inl (cI, 10, .inl p5)), (fo, .inl (cI, 3, .inl ff))] s.heap.size = A at hD ⊢
  have hA : ∀ q : Nat, s.heap.size ≤ q → A q := fun q h => by rw [← hAe]; exact Or.inr h
  have hS : va_S A s.heap s.heap [] := va_S.rf
  have hl := lv_entry ([.ref x, .int s1, .int d]) (n := 3) (Nat.le_of_ble_eq_true rfl)
  rw [lg_entry_eq]
  generalize (lg_sl ([.ref x, .int s1, .int d]) ++ List.replicate (3 - (lg_sl ([.ref x, .int s1, .int d])).length) Slot.unset).toArray = ls at hl ⊢
  have hl : lv_has ls 3 [(0, .ref x), (1, .int s1), (2, .int d)] := hl
  have hP0 := hP
  refine lv_iload_n hx hb dX3_free_0 rfl (lv_at hl 1 rfl) ?_
  refine lv_iconst (v := 0) hx hb dX3_free_1 (by decide) ?_
  refine lv_iconst (v := 2) hx hb dX3_free_2 (by decide) ?_
  refine cc_i (wc := []) (wr := [(x, .inr (3, [.ref cu, .ref pi, .ref sq, .ref fo, .ref bo, .int gl, .int td, .int le])), (cu, .inr (0, [.ref a0, .ref a1, .ref a2, .ref a3, .ref a4, .ref a5, .int bw, .int pts])), (a5, .inl (cI, 40, .inl fs)), (pi, .inr (1, [.ref k0, .ref k1, .ref k2, .ref k3, .ref k4, .ref k5, .ref k6, .ref k7, .int num])), (k3, .inl (cI, 10, .inl p3)), (k4, .inl (cI, 10, .inl p4)), (k5, .inl (cI, 10, .inl p5)), (fo, .inl (cI, 3, .inl ff))]) (va_runS (As := [.int s1, .int 0, .int 2]) (rest := []) ⟨hx, hb, hml, hown, hts⟩ (c_X3_isIn l D cI cQ s.heap.size s1 0 2 ) (va_cwS 3 hts gX3_free_X3_isIn rfl rfl rfl (by decide +kernel) ⟨Nat.le_of_ble_eq_true rfl, Nat.le_of_ble_eq_true rfl⟩) (preS (wc := []) hK hP hD hN [] rfl (by decide)) rfl rfl hl.1 rfl (lv_room (Nat.le_of_ble_eq_true rfl)) dX3_free_3 ⟨Nat.le_of_ble_eq_true rfl, Nat.le_of_ble_eq_true rfl⟩) hP hD hS hA [] [0, 1, 2, 3, 4, 5, 6, 7] rfl rfl (by decide) (by decide) (fun r_1 u H locs w_2 hP hD hS => ?_)
  have hP : va_P D vwCl [(x, .inr (3, [.ref cu, .ref pi, .ref sq, .ref fo, .ref bo, .int gl, .int td, .int le])), (cu, .inr (0, [.ref a0, .ref a1, .ref a2, .ref a3, .ref a4, .ref a5, .int bw, .int pts])), (a5, .inl (cI, 40, .inl fs)), (pi, .inr (1, [.ref k0, .ref k1, .ref k2, .ref k3, .ref k4, .ref k5, .ref k6, .ref k7, .int num])), (k3, .inl (cI, 10, .inl p3)), (k4, .inl (cI, 10, .inl p4)), (k5, .inl (cI, 10, .inl p5)), (fo, .inl (cI, 3, .inl ff))] H := hP
  have hD : va_D A [(x, .inr (3, [.ref cu, .ref pi, .ref sq, .ref fo, .ref bo, .int gl, .int td, .int le])), (cu, .inr (0, [.ref a0, .ref a1, .ref a2, .ref a3, .ref a4, .ref a5, .int bw, .int pts])), (a5, .inl (cI, 40, .inl fs)), (pi, .inr (1, [.ref k0, .ref k1, .ref k2, .ref k3, .ref k4, .ref k5, .ref k6, .ref k7, .int num])), (k3, .inl (cI, 10, .inl p3)), (k4, .inl (cI, 10, .inl p4)), (k5, .inl (cI, 10, .inl p5)), (fo, .inl (cI, 3, .inl ff))] := hD
  have w_2 : r_1 = bIn s1 (0 : Int32) (2 : Int32) := w_2
  refine lv_if_eq (tgt := 26) hx hb dX3_free_6 (by decide) (fun c_4 => ?_) (fun c_4 => ?_)
  · refine lv_iconst (v := (-1)) hx hb dX3_free_26 (by decide) ?_
    refine W.widen (k := 0) (n := 0) (Nat.le_of_ble_eq_true rfl) (Nat.le_of_ble_eq_true rfl) ?_
    exact fi_i () hx hb hr hlocks hK (hP.sub [0, 1, 2, 3, 4, 5, 6, 7] rfl) (hD.sub [0, 1, 2, 3, 4, 5, 6, 7] (by decide) rfl) hS trivial dX3_free_27
  · refine lv_iload_n hx hb dX3_free_9 rfl (lv_at hl 2 rfl) ?_
    refine cc_i (wc := []) (wr := [(x, .inr (3, [.ref cu, .ref pi, .ref sq, .ref fo, .ref bo, .int gl, .int td, .int le])), (cu, .inr (0, [.ref a0, .ref a1, .ref a2, .ref a3, .ref a4, .ref a5, .int bw, .int pts])), (a5, .inl (cI, 40, .inl fs)), (pi, .inr (1, [.ref k0, .ref k1, .ref k2, .ref k3, .ref k4, .ref k5, .ref k6, .ref k7, .int num])), (k3, .inl (cI, 10, .inl p3)), (k4, .inl (cI, 10, .inl p4)), (k5, .inl (cI, 10, .inl p5)), (fo, .inl (cI, 3, .inl ff))]) (va_runS (As := [.int d]) (rest := []) ⟨hx, hb, hml, hown, hts⟩ (c_X3_isDay l D cI cQ H.size d ) (va_cwS 1 hts gX3_free_X3_isDay rfl rfl rfl (by decide +kernel) ⟨Nat.le_of_ble_eq_true rfl, Nat.le_of_ble_eq_true rfl⟩) (preS (wc := []) hK hP hD hN [] rfl (by decide)) rfl rfl hl.1 rfl (lv_room (Nat.le_of_ble_eq_true rfl)) dX3_free_10 ⟨Nat.le_of_ble_eq_true rfl, Nat.le_of_ble_eq_true rfl⟩) hP hD hS hA [] [0, 1, 2, 3, 4, 5, 6, 7] rfl rfl (by decide) (by decide) (fun r_5 u H locs w_6 hP hD hS => ?_)
    have hP : va_P D vwCl [(x, .inr (3, [.ref cu, .ref pi, .ref sq, .ref fo, .ref bo, .int gl, .int td, .int le])), (cu, .inr (0, [.ref a0, .ref a1, .ref a2, .ref a3, .ref a4, .ref a5, .int bw, .int pts])), (a5, .inl (cI, 40, .inl fs)), (pi, .inr (1, [.ref k0, .ref k1, .ref k2, .ref k3, .ref k4, .ref k5, .ref k6, .ref k7, .int num])), (k3, .inl (cI, 10, .inl p3)), (k4, .inl (cI, 10, .inl p4)), (k5, .inl (cI, 10, .inl p5)), (fo, .inl (cI, 3, .inl ff))] H := hP
    have hD : va_D A [(x, .inr (3, [.ref cu, .ref pi, .ref sq, .ref fo, .ref bo, .int gl, .int td, .int le])), (cu, .inr (0, [.ref a0, .ref a1, .ref a2, .ref a3, .ref a4, .ref a5, .int bw, .int pts])), (a5, .inl (cI, 40, .inl fs)), (pi, .inr (1, [.ref k0, .ref k1, .ref k2, .ref k3, .ref k4, .ref k5, .ref k6, .ref k7, .int num])), (k3, .inl (cI, 10, .inl p3)), (k4, .inl (cI, 10, .inl p4)), (k5, .inl (cI, 10, .inl p5)), (fo, .inl (cI, 3, .inl ff))] := hD
    have w_6 : r_5 = bIn d 0 39 := w_6
    refine lv_if_eq (tgt := 26) hx hb dX3_free_13 (by decide) (fun c_8 => ?_) (fun c_8 => ?_)
    · refine lv_iconst (v := (-1)) hx hb dX3_free_26 (by decide) ?_
      refine W.widen (k := 0) (n := 0) (Nat.le_of_ble_eq_true rfl) (Nat.le_of_ble_eq_true rfl) ?_
      exact fi_i () hx hb hr hlocks hK (hP.sub [0, 1, 2, 3, 4, 5, 6, 7] rfl) (hD.sub [0, 1, 2, 3, 4, 5, 6, 7] (by decide) rfl) hS trivial dX3_free_27
    · refine lv_aload_n hx hb dX3_free_16 rfl (lv_at hl 0 rfl) ?_
      refine lv_iload_n hx hb dX3_free_17 rfl (lv_at hl 1 rfl) ?_
      refine lv_iload_n hx hb dX3_free_18 rfl (lv_at hl 2 rfl) ?_
      refine lv_iconst (v := (-1)) hx hb dX3_free_19 (by decide) ?_
      refine cc_i (wc := [(x, .inr (3, [.ref cu, .ref pi, .ref sq, .ref fo, .ref bo, .int gl, .int td, .int le])), (cu, .inr (0, [.ref a0, .ref a1, .ref a2, .ref a3, .ref a4, .ref a5, .int bw, .int pts])), (a5, .inl (cI, 40, .inl fs)), (pi, .inr (1, [.ref k0, .ref k1, .ref k2, .ref k3, .ref k4, .ref k5, .ref k6, .ref k7, .int num])), (k3, .inl (cI, 10, .inl p3)), (k4, .inl (cI, 10, .inl p4)), (k5, .inl (cI, 10, .inl p5)), (fo, .inl (cI, 3, .inl ff))]) (wr := []) (va_runV (As := [.int s1, .int d, .int (-1)]) (rest := []) ⟨hx, hb, hml, hown, hts⟩ (c_X3_formsLeft l D cI cQ H.size x cu a5 pi k3 k4 k5 fo sq bo gl td le a0 a1 a2 a3 a4 bw pts fs k0 k1 k2 k6 k7 num p3 p4 p5 ff s1 d (-1) (pf_X3_free_1 fs num s1 d r_1 r_5 hn0 hn1 hs w_2 c_4 w_6 c_8) (pf_X3_free_2 fs num s1 d r_1 r_5 hn0 hn1 hs w_2 c_4 w_6 c_8) (pf_X3_free_3 fs num s1 d r_1 r_5 hn0 hn1 hs w_2 c_4 w_6 c_8) (pf_X3_free_4 fs num s1 d r_1 r_5 hn0 hn1 hs w_2 c_4 w_6 c_8)) (cwV 3 hts gX3_free_X3_formsLeft rfl rfl rfl (by decide +kernel) ⟨Nat.le_of_ble_eq_true rfl, Nat.le_of_ble_eq_true rfl⟩) (preV (wc := [(x, .inr (3, [.ref cu, .ref pi, .ref sq, .ref fo, .ref bo, .int gl, .int td, .int le])), (cu, .inr (0, [.ref a0, .ref a1, .ref a2, .ref a3, .ref a4, .ref a5, .int bw, .int pts])), (a5, .inl (cI, 40, .inl fs)), (pi, .inr (1, [.ref k0, .ref k1, .ref k2, .ref k3, .ref k4, .ref k5, .ref k6, .ref k7, .int num])), (k3, .inl (cI, 10, .inl p3)), (k4, .inl (cI, 10, .inl p4)), (k5, .inl (cI, 10, .inl p5)), (fo, .inl (cI, 3, .inl ff))]) (ci := 3) (q0 := 0) hK hP hD hN [0, 1, 2, 3, 4, 5, 6, 7] rfl (by decide) rfl rfl) rfl rfl hl.1 rfl (lv_room (Nat.le_of_ble_eq_true rfl)) dX3_free_20 ⟨Nat.le_of_ble_eq_true rfl, Nat.le_of_ble_eq_true rfl⟩) hP hD hS hA [0, 1, 2, 3, 4, 5, 6, 7] [] rfl rfl (by decide) (by decide) (fun r_9 u H locs w_10 hP hD hS => ?_)
      have hP : va_P D vwCl [(x, .inr (3, [.ref cu, .ref pi, .ref sq, .ref fo, .ref bo, .int gl, .int td, .int le])), (cu, .inr (0, [.ref a0, .ref a1, .ref a2, .ref a3, .ref a4, .ref a5, .int bw, .int pts])), (a5, .inl (cI, 40, .inl fs)), (pi, .inr (1, [.ref k0, .ref k1, .ref k2, .ref k3, .ref k4, .ref k5, .ref k6, .ref k7, .int num])), (k3, .inl (cI, 10, .inl p3)), (k4, .inl (cI, 10, .inl p4)), (k5, .inl (cI, 10, .inl p5)), (fo, .inl (cI, 3, .inl ff))] H := hP
      have hD : va_D A [(x, .inr (3, [.ref cu, .ref pi, .ref sq, .ref fo, .ref bo, .int gl, .int td, .int le])), (cu, .inr (0, [.ref a0, .ref a1, .ref a2, .ref a3, .ref a4, .ref a5, .int bw, .int pts])), (a5, .inl (cI, 40, .inl fs)), (pi, .inr (1, [.ref k0, .ref k1, .ref k2, .ref k3, .ref k4, .ref k5, .ref k6, .ref k7, .int num])), (k3, .inl (cI, 10, .inl p3)), (k4, .inl (cI, 10, .inl p4)), (k5, .inl (cI, 10, .inl p5)), (fo, .inl (cI, 3, .inl ff))] := hD
      refine lv_goto (tgt := 27) hx hb dX3_free_23 (by decide) ?_
      refine W.widen (k := 0) (n := 0) (Nat.le_of_ble_eq_true rfl) (Nat.le_of_ble_eq_true rfl) ?_
      exact fi_i () hx hb hr hlocks hK (hP.sub [0, 1, 2, 3, 4, 5, 6, 7] rfl) (hD.sub [0, 1, 2, 3, 4, 5, 6, 7] (by decide) rfl) hS trivial dX3_free_27

set_option maxHeartbeats 1000000 in
theorem pf_X3_poured_1 (num : Int32) (d : Int32) (r_1 : Int32) (hn0 : 0 ≤ num) (hn1 : num ≤ 10) (w_2 : r_1 = bIn d 0 39) (c_4 : ¬ r_1 = 0) : 0 ≤ num := by
  grind
set_option maxHeartbeats 1000000 in
theorem pf_X3_poured_2 (num : Int32) (d : Int32) (r_1 : Int32) (hn0 : 0 ≤ num) (hn1 : num ≤ 10) (w_2 : r_1 = bIn d 0 39) (c_4 : ¬ r_1 = 0) : num ≤ 10 := by
  grind
set_option maxHeartbeats 4000000 in
set_option maxRecDepth 100000 in
theorem c_X3_poured (l : Launch) (D : va_G) (cI cQ : ClassId) (sz : Nat) (x : Nat) (pi : Nat) (k2 : Nat) (k5 : Nat) (cu : Nat) (sq : Nat) (fo : Nat) (bo : Nat) (gl : Int32) (td : Int32) (le : Int32) (k0 : Nat) (k1 : Nat) (k3 : Nat) (k4 : Nat) (k6 : Nat) (k7 : Nat) (num : Int32) (p2 : Nat → Int32) (p5 : Nat → Int32) (d : Int32) (hn0 : 0 ≤ num) (hn1 : num ≤ 10) : CtI l yX3_poured wsX3_poured 2 42 0 0 [.ref x, .int d] D [(cI, .int), (cQ, .array .int)] [(x, .inr (3, [.ref cu, .ref pi, .ref sq, .ref fo, .ref bo, .int gl, .int td, .int le])), (pi, .inr (1, [.ref k0, .ref k1, .ref k2, .ref k3, .ref k4, .ref k5, .ref k6, .ref k7, .int num])), (k2, .inl (cI, 10, .inl p2)), (k5, .inl (cI, 10, .inl p5))] sz (fun (r : Int32) (u : Unit) => True) (fun (u : Unit) => [(x, .inr (3, [.ref cu, .ref pi, .ref sq, .ref fo, .ref bo, .int gl, .int td, .int le])), (pi, .inr (1, [.ref k0, .ref k1, .ref k2, .ref k3, .ref k4, .ref k5, .ref k6, .ref k7, .int num])), (k2, .inl (cI, 10, .inl p2)), (k5, .inl (cI, 10, .inl p5))]) := by
  refine Met.ofW (cc := cX3_poured) (maxL := 2) (ret := (some .int)) (by decide) rfl ?_
  intro p e s m args below meth c s₁ B hml hv
  obtain ⟨rfl, hsz, hP, hK, hD0, hN⟩ := hv
  have hx := B.exec
  have hb := B.bytes
  have hr := B.returns
  have hts := atoms_spec (ws := wsX3_poured) B.pre
  have hown : s.vm.findClass RX3 = some m.cls := findClass_of_methodNamed B.named
  have hlocks := B.notSynchronized
  subst hsz
  have hD := hD0.self (sz := s.heap.size)
  generalize hAe : va_A [(x, .inr (3, [.ref cu, .ref pi, .ref sq, .ref fo, .ref bo, .int gl, .int td, .int le])), (pi, .inr (1, [.ref k0, .ref k1, .ref k2, .ref k3, .ref k4, .ref k5, .ref k6, .ref k7, .int num])), (k2, .inl (cI, 10, .inl p2)), (k5, .inl (cI, 10, .inl p5))] s.heap.size = A at hD ⊢
  have hA : ∀ q : Nat, s.heap.size ≤ q → A q := fun q h => by rw [← hAe]; exact Or.inr h
  have hS : va_S A s.heap s.heap [] := va_S.rf
  have hl := lv_entry ([.ref x, .int d]) (n := 2) (Nat.le_of_ble_eq_true rfl)
  rw [lg_entry_eq]
  generalize (lg_sl ([.ref x, .int d]) ++ List.replicate (2 - (lg_sl ([.ref x, .int d])).length) Slot.unset).toArray = ls at hl ⊢
  have hl : lv_has ls 2 [(0, .ref x), (1, .int d)] := hl
  have hP0 := hP
  refine lv_iload_n hx hb dX3_poured_0 rfl (lv_at hl 1 rfl) ?_
  refine cc_i (wc := []) (wr := [(x, .inr (3, [.ref cu, .ref pi, .ref sq, .ref fo, .ref bo, .int gl, .int td, .int le])), (pi, .inr (1, [.ref k0, .ref k1, .ref k2, .ref k3, .ref k4, .ref k5, .ref k6, .ref k7, .int num])), (k2, .inl (cI, 10, .inl p2)), (k5, .inl (cI, 10, .inl p5))]) (va_runS (As := [.int d]) (rest := []) ⟨hx, hb, hml, hown, hts⟩ (c_X3_isDay l D cI cQ s.heap.size d ) (va_cwS 1 hts gX3_poured_X3_isDay rfl rfl rfl (by decide +kernel) ⟨Nat.le_of_ble_eq_true rfl, Nat.le_of_ble_eq_true rfl⟩) (preS (wc := []) hK hP hD hN [] rfl (by decide)) rfl rfl hl.1 rfl (lv_room (Nat.le_of_ble_eq_true rfl)) dX3_poured_1 ⟨Nat.le_of_ble_eq_true rfl, Nat.le_of_ble_eq_true rfl⟩) hP hD hS hA [] [0, 1, 2, 3] rfl rfl (by decide) (by decide) (fun r_1 u H locs w_2 hP hD hS => ?_)
  have hP : va_P D vwCl [(x, .inr (3, [.ref cu, .ref pi, .ref sq, .ref fo, .ref bo, .int gl, .int td, .int le])), (pi, .inr (1, [.ref k0, .ref k1, .ref k2, .ref k3, .ref k4, .ref k5, .ref k6, .ref k7, .int num])), (k2, .inl (cI, 10, .inl p2)), (k5, .inl (cI, 10, .inl p5))] H := hP
  have hD : va_D A [(x, .inr (3, [.ref cu, .ref pi, .ref sq, .ref fo, .ref bo, .int gl, .int td, .int le])), (pi, .inr (1, [.ref k0, .ref k1, .ref k2, .ref k3, .ref k4, .ref k5, .ref k6, .ref k7, .int num])), (k2, .inl (cI, 10, .inl p2)), (k5, .inl (cI, 10, .inl p5))] := hD
  have w_2 : r_1 = bIn d 0 39 := w_2
  refine lv_if_eq (tgt := 16) hx hb dX3_poured_4 (by decide) (fun c_4 => ?_) (fun c_4 => ?_)
  · refine lv_iconst (v := (-1)) hx hb dX3_poured_16 (by decide) ?_
    refine W.widen (k := 0) (n := 0) (Nat.le_of_ble_eq_true rfl) (Nat.le_of_ble_eq_true rfl) ?_
    exact fi_i () hx hb hr hlocks hK (hP.sub [0, 1, 2, 3] rfl) (hD.sub [0, 1, 2, 3] (by decide) rfl) hS trivial dX3_poured_17
  · refine lv_aload_n hx hb dX3_poured_7 rfl (lv_at hl 0 rfl) ?_
    refine lv_iload_n hx hb dX3_poured_8 rfl (lv_at hl 1 rfl) ?_
    refine lv_iconst (v := (-1)) hx hb dX3_poured_9 (by decide) ?_
    refine cc_i (wc := [(x, .inr (3, [.ref cu, .ref pi, .ref sq, .ref fo, .ref bo, .int gl, .int td, .int le])), (pi, .inr (1, [.ref k0, .ref k1, .ref k2, .ref k3, .ref k4, .ref k5, .ref k6, .ref k7, .int num])), (k2, .inl (cI, 10, .inl p2)), (k5, .inl (cI, 10, .inl p5))]) (wr := []) (va_runV (As := [.int d, .int (-1)]) (rest := []) ⟨hx, hb, hml, hown, hts⟩ (c_X3_volumeOn l D cI cQ H.size x pi k2 k5 cu sq fo bo gl td le k0 k1 k3 k4 k6 k7 num p2 p5 d (-1) (pf_X3_poured_1 num d r_1 hn0 hn1 w_2 c_4) (pf_X3_poured_2 num d r_1 hn0 hn1 w_2 c_4)) (cwV 2 hts gX3_poured_X3_volumeOn rfl rfl rfl (by decide +kernel) ⟨Nat.le_of_ble_eq_true rfl, Nat.le_of_ble_eq_true rfl⟩) (preV (wc := [(x, .inr (3, [.ref cu, .ref pi, .ref sq, .ref fo, .ref bo, .int gl, .int td, .int le])), (pi, .inr (1, [.ref k0, .ref k1, .ref k2, .ref k3, .ref k4, .ref k5, .ref k6, .ref k7, .int num])), (k2, .inl (cI, 10, .inl p2)), (k5, .inl (cI, 10, .inl p5))]) (ci := 3) (q0 := 0) hK hP hD hN [0, 1, 2, 3] rfl (by decide) rfl rfl) rfl rfl hl.1 rfl (lv_room (Nat.le_of_ble_eq_true rfl)) dX3_poured_10 ⟨Nat.le_of_ble_eq_true rfl, Nat.le_of_ble_eq_true rfl⟩) hP hD hS hA [0, 1, 2, 3] [] rfl rfl (by decide) (by decide) (fun r_5 u H locs w_6 hP hD hS => ?_)
    have hP : va_P D vwCl [(x, .inr (3, [.ref cu, .ref pi, .ref sq, .ref fo, .ref bo, .int gl, .int td, .int le])), (pi, .inr (1, [.ref k0, .ref k1, .ref k2, .ref k3, .ref k4, .ref k5, .ref k6, .ref k7, .int num])), (k2, .inl (cI, 10, .inl p2)), (k5, .inl (cI, 10, .inl p5))] H := hP
    have hD : va_D A [(x, .inr (3, [.ref cu, .ref pi, .ref sq, .ref fo, .ref bo, .int gl, .int td, .int le])), (pi, .inr (1, [.ref k0, .ref k1, .ref k2, .ref k3, .ref k4, .ref k5, .ref k6, .ref k7, .int num])), (k2, .inl (cI, 10, .inl p2)), (k5, .inl (cI, 10, .inl p5))] := hD
    refine lv_goto (tgt := 17) hx hb dX3_poured_13 (by decide) ?_
    refine W.widen (k := 0) (n := 0) (Nat.le_of_ble_eq_true rfl) (Nat.le_of_ble_eq_true rfl) ?_
    exact fi_i () hx hb hr hlocks hK (hP.sub [0, 1, 2, 3] rfl) (hD.sub [0, 1, 2, 3] (by decide) rfl) hS trivial dX3_poured_17

theorem iw_X3_hardnessBelow_1 : ∀ w ∈ wsX10, w ∈ wsX3_hardnessBelow := fun w h => (List.mem_cons_of_mem _ (List.mem_append_left _ (List.mem_append_right _ h)))
theorem iw_X3_hardnessBelow_3 : ∀ w ∈ wsX30, w ∈ wsX3_hardnessBelow := fun w h => (List.mem_cons_of_mem _ (List.mem_append_left _ (List.mem_append_left _ (List.mem_append_right _ h))))
theorem wd_X3_hardnessBelow_1 : (.fieldLink RX3 21 "PourPlan" "pieces" "LPourPlan$Pieces;" : Cond) ∈ wsX3_hardnessBelow := List.mem_of_getElem? (i := 1) rfl
theorem wd_X3_hardnessBelow_2 : (.fieldLink RX3 14 "PourPlan" "curing" "LPourPlan$Curing;" : Cond) ∈ wsX3_hardnessBelow := List.mem_of_getElem? (i := 2) rfl
theorem wd_X3_hardnessBelow_7 : (.instanceMethod yX1_standsOn : Cond) ∈ wsX3_hardnessBelow := List.mem_of_getElem? (i := 7) rfl
theorem wd_X3_hardnessBelow_8 : (.initialized RX1 : Cond) ∈ wsX3_hardnessBelow := List.mem_of_getElem? (i := 8) rfl
theorem wd_X3_hardnessBelow_9 : (.selects RX1 yX1_standsOn yX1_standsOn : Cond) ∈ wsX3_hardnessBelow := List.mem_of_getElem? (i := 9) rfl
theorem wd_X3_hardnessBelow_12 : (.instanceMethod yX0_hardnessOn : Cond) ∈ wsX3_hardnessBelow := List.mem_of_getElem? (i := 12) rfl
theorem wd_X3_hardnessBelow_13 : (.initialized RX0 : Cond) ∈ wsX3_hardnessBelow := List.mem_of_getElem? (i := 13) rfl
theorem wd_X3_hardnessBelow_14 : (.selects RX0 yX0_hardnessOn yX0_hardnessOn : Cond) ∈ wsX3_hardnessBelow := List.mem_of_getElem? (i := 14) rfl
set_option maxHeartbeats 1000000 in
theorem pf_X3_hardnessBelow_1 (num : Int32) (n_5 : Nat) (k : Int32) (hn0 : 0 ≤ num) (hn1 : num ≤ 10) (hn_5 : 10 - k.toNatClampNeg < n_5 + 1) (h0k : 0 ≤ k) (c_1 : ¬ num ≤ k) : vp_in k 10 := by
  exact vi_in (M := 10) rfl (by grind) (by grind)
set_option maxHeartbeats 1000000 in
theorem pf_X3_hardnessBelow_2 (num : Int32) (p1 : Nat → Int32) (fl1 : Int32) (n_5 : Nat) (k : Int32) (v_2 : Int32) (v_3 : Int32) (r_4 : Int32) (v_8 : Int32) (hn0 : 0 ≤ num) (hn1 : num ≤ 10) (hn_5 : 10 - k.toNatClampNeg < n_5 + 1) (h0k : 0 ≤ k) (c_1 : ¬ num ≤ k) (ev_2 : v_2 = p1 k.toNatClampNeg) (ev_3 : v_3 = fl1 - v_2) (w_5 : r_4 = bIn v_3 (1 : Int32) (2 : Int32)) (c_7 : r_4 = 0) (ev_8 : v_8 = k + 1) : 10 - v_8.toNatClampNeg < n_5 := by
  exact ms_dec (L := 10) (k := k) (by grind) (show ¬ (10 : Int32) ≤ k by grind) (by omega) (by assumption) hn_5
set_option maxHeartbeats 1000000 in
theorem pf_X3_hardnessBelow_3 (num : Int32) (p1 : Nat → Int32) (fl1 : Int32) (n_5 : Nat) (k : Int32) (v_2 : Int32) (v_3 : Int32) (r_4 : Int32) (v_8 : Int32) (hn0 : 0 ≤ num) (hn1 : num ≤ 10) (hn_5 : 10 - k.toNatClampNeg < n_5 + 1) (h0k : 0 ≤ k) (c_1 : ¬ num ≤ k) (ev_2 : v_2 = p1 k.toNatClampNeg) (ev_3 : v_3 = fl1 - v_2) (w_5 : r_4 = bIn v_3 (1 : Int32) (2 : Int32)) (c_7 : r_4 = 0) (ev_8 : v_8 = k + 1) : 0 ≤ v_8 := by
  grind
set_option maxHeartbeats 1000000 in
theorem pf_X3_hardnessBelow_4 (num : Int32) (p1 : Nat → Int32) (fl1 : Int32) (n_5 : Nat) (k : Int32) (v_2 : Int32) (v_3 : Int32) (r_4 : Int32) (hn0 : 0 ≤ num) (hn1 : num ≤ 10) (hn_5 : 10 - k.toNatClampNeg < n_5 + 1) (h0k : 0 ≤ k) (c_1 : ¬ num ≤ k) (ev_2 : v_2 = p1 k.toNatClampNeg) (ev_3 : v_3 = fl1 - v_2) (w_5 : r_4 = bIn v_3 (1 : Int32) (2 : Int32)) (c_7 : ¬ r_4 = 0) : vp_in k 10 := by
  exact vi_in (M := 10) rfl (by grind) (by grind)
set_option maxHeartbeats 1000000 in
theorem pf_X3_hardnessBelow_5 (num : Int32) (p0 : Nat → Int32) (p1 : Nat → Int32) (fl1 : Int32) (n_5 : Nat) (k : Int32) (v_2 : Int32) (v_3 : Int32) (r_4 : Int32) (v_9 : Int32) (v_11 : Int32) (hn0 : 0 ≤ num) (hn1 : num ≤ 10) (hn_5 : 10 - k.toNatClampNeg < n_5 + 1) (h0k : 0 ≤ k) (c_1 : ¬ num ≤ k) (ev_2 : v_2 = p1 k.toNatClampNeg) (ev_3 : v_3 = fl1 - v_2) (w_5 : r_4 = bIn v_3 (1 : Int32) (2 : Int32)) (c_7 : ¬ r_4 = 0) (ev_9 : v_9 = p0 k.toNatClampNeg) (c_10 : ¬ v_9 = 0) (ev_11 : v_11 = k + 1) : 10 - v_11.toNatClampNeg < n_5 := by
  exact ms_dec (L := 10) (k := k) (by grind) (show ¬ (10 : Int32) ≤ k by grind) (by omega) (by assumption) hn_5
set_option maxHeartbeats 1000000 in
theorem pf_X3_hardnessBelow_6 (num : Int32) (p0 : Nat → Int32) (p1 : Nat → Int32) (fl1 : Int32) (n_5 : Nat) (k : Int32) (v_2 : Int32) (v_3 : Int32) (r_4 : Int32) (v_9 : Int32) (v_11 : Int32) (hn0 : 0 ≤ num) (hn1 : num ≤ 10) (hn_5 : 10 - k.toNatClampNeg < n_5 + 1) (h0k : 0 ≤ k) (c_1 : ¬ num ≤ k) (ev_2 : v_2 = p1 k.toNatClampNeg) (ev_3 : v_3 = fl1 - v_2) (w_5 : r_4 = bIn v_3 (1 : Int32) (2 : Int32)) (c_7 : ¬ r_4 = 0) (ev_9 : v_9 = p0 k.toNatClampNeg) (c_10 : ¬ v_9 = 0) (ev_11 : v_11 = k + 1) : 0 ≤ v_11 := by
  grind
set_option maxHeartbeats 1000000 in
theorem pf_X3_hardnessBelow_7 (num : Int32) (p0 : Nat → Int32) (p1 : Nat → Int32) (fl1 : Int32) (n_5 : Nat) (k : Int32) (v_2 : Int32) (v_3 : Int32) (r_4 : Int32) (v_9 : Int32) (hn0 : 0 ≤ num) (hn1 : num ≤ 10) (hn_5 : 10 - k.toNatClampNeg < n_5 + 1) (h0k : 0 ≤ k) (c_1 : ¬ num ≤ k) (ev_2 : v_2 = p1 k.toNatClampNeg) (ev_3 : v_3 = fl1 - v_2) (w_5 : r_4 = bIn v_3 (1 : Int32) (2 : Int32)) (c_7 : ¬ r_4 = 0) (ev_9 : v_9 = p0 k.toNatClampNeg) (c_10 : v_9 = 0) : vp_in k 10 := by
  exact vi_in (M := 10) rfl (by grind) (by grind)
set_option maxHeartbeats 1000000 in
theorem pf_X3_hardnessBelow_8 (num : Int32) (p0 : Nat → Int32) (p1 : Nat → Int32) (p5 : Nat → Int32) (fl1 : Int32) (day : Int32) (n_5 : Nat) (k : Int32) (v_2 : Int32) (v_3 : Int32) (r_4 : Int32) (v_9 : Int32) (r_12 : Int32) (v_16 : Int32) (hn0 : 0 ≤ num) (hn1 : num ≤ 10) (hn_5 : 10 - k.toNatClampNeg < n_5 + 1) (h0k : 0 ≤ k) (c_1 : ¬ num ≤ k) (ev_2 : v_2 = p1 k.toNatClampNeg) (ev_3 : v_3 = fl1 - v_2) (w_5 : r_4 = bIn v_3 (1 : Int32) (2 : Int32)) (c_7 : ¬ r_4 = 0) (ev_9 : v_9 = p0 k.toNatClampNeg) (c_10 : v_9 = 0) (w_13 : r_12 = bSt (p5 k.toNatClampNeg) day) (c_15 : r_12 = 0) (ev_16 : v_16 = k + 1) : 10 - v_16.toNatClampNeg < n_5 := by
  exact ms_dec (L := 10) (k := k) (by grind) (show ¬ (10 : Int32) ≤ k by grind) (by omega) (by assumption) hn_5
set_option maxHeartbeats 1000000 in
theorem pf_X3_hardnessBelow_9 (num : Int32) (p0 : Nat → Int32) (p1 : Nat → Int32) (p5 : Nat → Int32) (fl1 : Int32) (day : Int32) (n_5 : Nat) (k : Int32) (v_2 : Int32) (v_3 : Int32) (r_4 : Int32) (v_9 : Int32) (r_12 : Int32) (v_16 : Int32) (hn0 : 0 ≤ num) (hn1 : num ≤ 10) (hn_5 : 10 - k.toNatClampNeg < n_5 + 1) (h0k : 0 ≤ k) (c_1 : ¬ num ≤ k) (ev_2 : v_2 = p1 k.toNatClampNeg) (ev_3 : v_3 = fl1 - v_2) (w_5 : r_4 = bIn v_3 (1 : Int32) (2 : Int32)) (c_7 : ¬ r_4 = 0) (ev_9 : v_9 = p0 k.toNatClampNeg) (c_10 : v_9 = 0) (w_13 : r_12 = bSt (p5 k.toNatClampNeg) day) (c_15 : r_12 = 0) (ev_16 : v_16 = k + 1) : 0 ≤ v_16 := by
  grind
set_option maxHeartbeats 1000000 in
theorem pf_X3_hardnessBelow_10 (num : Int32) (p0 : Nat → Int32) (p1 : Nat → Int32) (p5 : Nat → Int32) (fl1 : Int32) (day : Int32) (n_5 : Nat) (k : Int32) (v_2 : Int32) (v_3 : Int32) (r_4 : Int32) (v_9 : Int32) (r_12 : Int32) (hn0 : 0 ≤ num) (hn1 : num ≤ 10) (hn_5 : 10 - k.toNatClampNeg < n_5 + 1) (h0k : 0 ≤ k) (c_1 : ¬ num ≤ k) (ev_2 : v_2 = p1 k.toNatClampNeg) (ev_3 : v_3 = fl1 - v_2) (w_5 : r_4 = bIn v_3 (1 : Int32) (2 : Int32)) (c_7 : ¬ r_4 = 0) (ev_9 : v_9 = p0 k.toNatClampNeg) (c_10 : v_9 = 0) (w_13 : r_12 = bSt (p5 k.toNatClampNeg) day) (c_15 : ¬ r_12 = 0) : vp_in k 10 := by
  exact vi_in (M := 10) rfl (by grind) (by grind)
set_option maxHeartbeats 1000000 in
theorem pf_X3_hardnessBelow_11 (pts : Int32) (fd : Nat → Int32) (fh : Nat → Int32) (fg : Nat → Int32) (num : Int32) (p0 : Nat → Int32) (p1 : Nat → Int32) (p5 : Nat → Int32) (fl1 : Int32) (day : Int32) (n_5 : Nat) (k : Int32) (ks : Int64) (v_2 : Int32) (v_3 : Int32) (r_4 : Int32) (v_9 : Int32) (r_12 : Int32) (v_17 : Int32) (r_18 : Int32) (l_21 : Int64) (l_22 : Int64) (v_23 : Int32) (hn0 : 0 ≤ num) (hn1 : num ≤ 10) (hn_5 : 10 - k.toNatClampNeg < n_5 + 1) (h0k : 0 ≤ k) (c_1 : ¬ num ≤ k) (ev_2 : v_2 = p1 k.toNatClampNeg) (ev_3 : v_3 = fl1 - v_2) (w_5 : r_4 = bIn v_3 (1 : Int32) (2 : Int32)) (c_7 : ¬ r_4 = 0) (ev_9 : v_9 = p0 k.toNatClampNeg) (c_10 : v_9 = 0) (w_13 : r_12 = bSt (p5 k.toNatClampNeg) day) (c_15 : ¬ r_12 = 0) (ev_17 : v_17 = p5 k.toNatClampNeg) (w_19 : r_18 = hon fd fh fg pts v_17 day) (el_21 : l_21 = (r_18).toInt64) (el_22 : l_22 = ks + l_21) (ev_23 : v_23 = k + 1) : 10 - v_23.toNatClampNeg < n_5 := by
  exact ms_dec (L := 10) (k := k) (by grind) (show ¬ (10 : Int32) ≤ k by grind) (by omega) (by assumption) hn_5
set_option maxHeartbeats 1000000 in
theorem pf_X3_hardnessBelow_12 (pts : Int32) (fd : Nat → Int32) (fh : Nat → Int32) (fg : Nat → Int32) (num : Int32) (p0 : Nat → Int32) (p1 : Nat → Int32) (p5 : Nat → Int32) (fl1 : Int32) (day : Int32) (n_5 : Nat) (k : Int32) (ks : Int64) (v_2 : Int32) (v_3 : Int32) (r_4 : Int32) (v_9 : Int32) (r_12 : Int32) (v_17 : Int32) (r_18 : Int32) (l_21 : Int64) (l_22 : Int64) (v_23 : Int32) (hn0 : 0 ≤ num) (hn1 : num ≤ 10) (hn_5 : 10 - k.toNatClampNeg < n_5 + 1) (h0k : 0 ≤ k) (c_1 : ¬ num ≤ k) (ev_2 : v_2 = p1 k.toNatClampNeg) (ev_3 : v_3 = fl1 - v_2) (w_5 : r_4 = bIn v_3 (1 : Int32) (2 : Int32)) (c_7 : ¬ r_4 = 0) (ev_9 : v_9 = p0 k.toNatClampNeg) (c_10 : v_9 = 0) (w_13 : r_12 = bSt (p5 k.toNatClampNeg) day) (c_15 : ¬ r_12 = 0) (ev_17 : v_17 = p5 k.toNatClampNeg) (w_19 : r_18 = hon fd fh fg pts v_17 day) (el_21 : l_21 = (r_18).toInt64) (el_22 : l_22 = ks + l_21) (ev_23 : v_23 = k + 1) : 0 ≤ v_23 := by
  grind
set_option maxHeartbeats 1000000 in
theorem pf_X3_hardnessBelow_13 (num : Int32) (hn0 : 0 ≤ num) (hn1 : num ≤ 10) : 0 ≤ (0 : Int32) := by
  grind
set_option maxHeartbeats 4000000 in
set_option maxRecDepth 100000 in
theorem c_X3_hardnessBelow (l : Launch) (D : va_G) (cI cQ : ClassId) (sz : Nat) (x : Nat) (cu : Nat) (a2 : Nat) (a3 : Nat) (a4 : Nat) (pi : Nat) (k0 : Nat) (k1 : Nat) (k5 : Nat) (sq : Nat) (fo : Nat) (bo : Nat) (gl : Int32) (td : Int32) (le : Int32) (a0 : Nat) (a1 : Nat) (a5 : Nat) (bw : Int32) (pts : Int32) (fd : Nat → Int32) (fh : Nat → Int32) (fg : Nat → Int32) (k2 : Nat) (k3 : Nat) (k4 : Nat) (k6 : Nat) (k7 : Nat) (num : Int32) (p0 : Nat → Int32) (p1 : Nat → Int32) (p5 : Nat → Int32) (fl1 : Int32) (day : Int32) (hn0 : 0 ≤ num) (hn1 : num ≤ 10) : CtL l yX3_hardnessBelow wsX3_hardnessBelow 2 48 0 0 [.ref x, .int fl1, .int day] D [(cI, .int), (cQ, .array .int)] [(x, .inr (3, [.ref cu, .ref pi, .ref sq, .ref fo, .ref bo, .int gl, .int td, .int le])), (cu, .inr (0, [.ref a0, .ref a1, .ref a2, .ref a3, .ref a4, .ref a5, .int bw, .int pts])), (a2, .inl (cI, 6, .inl fd)), (a3, .inl (cI, 6, .inl fh)), (a4, .inl (cI, 40, .inl fg)), (pi, .inr (1, [.ref k0, .ref k1, .ref k2, .ref k3, .ref k4, .ref k5, .ref k6, .ref k7, .int num])), (k0, .inl (cI, 10, .inl p0)), (k1, .inl (cI, 10, .inl p1)), (k5, .inl (cI, 10, .inl p5))] sz (fun (r : Int64) (u : Unit) => True) (fun (u : Unit) => [(x, .inr (3, [.ref cu, .ref pi, .ref sq, .ref fo, .ref bo, .int gl, .int td, .int le])), (cu, .inr (0, [.ref a0, .ref a1, .ref a2, .ref a3, .ref a4, .ref a5, .int bw, .int pts])), (a2, .inl (cI, 6, .inl fd)), (a3, .inl (cI, 6, .inl fh)), (a4, .inl (cI, 40, .inl fg)), (pi, .inr (1, [.ref k0, .ref k1, .ref k2, .ref k3, .ref k4, .ref k5, .ref k6, .ref k7, .int num])), (k0, .inl (cI, 10, .inl p0)), (k1, .inl (cI, 10, .inl p1)), (k5, .inl (cI, 10, .inl p5))]) := by
  refine Met.ofW (cc := cX3_hardnessBelow) (maxL := 7) (ret := (some .long)) (by decide) rfl ?_
  intro p e s m args below meth c s₁ B hml hv
  obtain ⟨rfl, hsz, hP, hK, hD0, hN⟩ := hv
  have hx := B.exec
  have hb := B.bytes
  have hr := B.returns
  have hts := atoms_spec (ws := wsX3_hardnessBelow) B.pre
  have hown : s.vm.findClass RX3 = some m.cls := findClass_of_methodNamed B.named
  have hlocks := B.notSynchronized
  subst hsz
  have hD := hD0.self (sz := s.heap.size)
  generalize hAe : va_A [(x, .inr (3, [.ref cu, .ref pi, .ref sq, .ref fo, .ref bo, .int gl, .int td, .int le])), (cu, .inr (0, [.ref a0, .ref a1, .ref a2, .ref a3, .ref a4, .ref a5, .int bw, .int pts])), (a2, .inl (cI, 6, .inl fd)), (a3, .inl (cI, 6, .inl fh)), (a4, .inl (cI, 40, .inl fg)), (pi, .inr (1, [.ref k0, .ref k1, .ref k2, .ref k3, .ref k4, .ref k5, .ref k6, .ref k7, .int num])), (k0, .inl (cI, 10, .inl p0)), (k1, .inl (cI, 10, .inl p1)), (k5, .inl (cI, 10, .inl p5))] s.heap.size = A at hD ⊢
  have hA : ∀ q : Nat, s.heap.size ≤ q → A q := fun q h => by rw [← hAe]; exact Or.inr h
  have hS : va_S A s.heap s.heap [] := va_S.rf
  have hl := lv_entry ([.ref x, .int fl1, .int day]) (n := 7) (Nat.le_of_ble_eq_true rfl)
  rw [lg_entry_eq]
  generalize (lg_sl ([.ref x, .int fl1, .int day]) ++ List.replicate (7 - (lg_sl ([.ref x, .int fl1, .int day])).length) Slot.unset).toArray = ls at hl ⊢
  have hl : lv_has ls 7 [(0, .ref x), (1, .int fl1), (2, .int day)] := hl
  refine W_gen (fun GW hIn hOut => ?_)
  refine hIn _ _ _ _ _ ?_
  have hP0 := hP
  refine lv_lconst (v := 0) hx hb dX3_hardnessBelow_0 rfl ?_
  refine lv_lstore_n (lv' := [(3, .long 0), (0, .ref x), (1, .int fl1), (2, .int day)]) hx hb dX3_hardnessBelow_1 rfl hl (by decide) rfl (fun ls hl => ?_)
  refine lv_iconst (v := 0) hx hb dX3_hardnessBelow_2 (by decide) ?_
  refine lv_istore (lv' := [(5, .int 0), (3, .long 0), (0, .ref x), (1, .int fl1), (2, .int day)]) hx hb dX3_hardnessBelow_3 hl (by decide) rfl (fun ls hl => ?_)
  have lp_5 : ∀ (n : Nat) (k : Int32) (ks : Int64) (H : Heap) (locs : List Loc) (ls : Array Slot), 10 - k.toNatClampNeg < n → (0 ≤ k) → va_P D vwCl [(x, .inr (3, [.ref cu, .ref pi, .ref sq, .ref fo, .ref bo, .int gl, .int td, .int le])), (cu, .inr (0, [.ref a0, .ref a1, .ref a2, .ref a3, .ref a4, .ref a5, .int bw, .int pts])), (a2, .inl (cI, 6, .inl fd)), (a3, .inl (cI, 6, .inl fh)), (a4, .inl (cI, 40, .inl fg)), (pi, .inr (1, [.ref k0, .ref k1, .ref k2, .ref k3, .ref k4, .ref k5, .ref k6, .ref k7, .int num])), (k0, .inl (cI, 10, .inl p0)), (k1, .inl (cI, 10, .inl p1)), (k5, .inl (cI, 10, .inl p5))] H → va_D A [(x, .inr (3, [.ref cu, .ref pi, .ref sq, .ref fo, .ref bo, .int gl, .int td, .int le])), (cu, .inr (0, [.ref a0, .ref a1, .ref a2, .ref a3, .ref a4, .ref a5, .int bw, .int pts])), (a2, .inl (cI, 6, .inl fd)), (a3, .inl (cI, 6, .inl fh)), (a4, .inl (cI, 40, .inl fg)), (pi, .inr (1, [.ref k0, .ref k1, .ref k2, .ref k3, .ref k4, .ref k5, .ref k6, .ref k7, .int num])), (k0, .inl (cI, 10, .inl p0)), (k1, .inl (cI, 10, .inl p1)), (k5, .inl (cI, 10, .inl p5))] → va_S A s.heap H locs → lv_has ls 7 [(0, .ref x), (1, .int fl1), (2, .int day), (3, .long ks), (5, .int k)] → GW H locs 0 0 (F0 m 5 ls []) := by
    intro n_5
    induction n_5 with
    | zero => intro k ks H locs ls hn_5; exact absurd hn_5 (Nat.not_lt_zero _)
    | succ n_5 ih_5 =>
      intro k ks H locs ls hn_5 h0k hP hD hS hl
      refine hIn _ _ _ _ _ ?_
      refine lv_iload hx hb dX3_hardnessBelow_5 (lv_at hl 4 rfl) ?_
      refine lv_aload_n hx hb dX3_hardnessBelow_7 rfl (lv_at hl 0 rfl) ?_
      refine va_get (D := D) (ci := 3) (v := .ref pi) (C := RX3) (T := TX3) (N := 8) hx hb hts iw_X3_hardnessBelow_3 hown hK hP 0 rfl rfl 1 (by decide) (hts _ wd_X3_hardnessBelow_1) (fun _ h9 => h9) rfl dX3_hardnessBelow_8 ?_
      refine va_getN (D := D) (ci := 1) (v := .int num) (C := RX1) (T := TX1) (N := 9) hx hb hts iw_X3_hardnessBelow_1 hown hK hP 5 rfl rfl 8 (by decide) (va_Nw.use rfl (nwF_53 hN)) (fun _ h9 => h9) rfl dX3_hardnessBelow_11 ?_
      refine lv_icmp_ge (tgt := 95) hx hb dX3_hardnessBelow_14 (by decide) (fun c_1 => ?_) (fun c_1 => ?_)
      · refine lv_lload_n hx hb dX3_hardnessBelow_95 rfl (lv_at hl 3 rfl) ?_
        refine W.widen (k := 0) (n := 0) (Nat.le_of_ble_eq_true rfl) (Nat.le_of_ble_eq_true rfl) ?_
        exact fi_l () hx hb hr hlocks hK (hP.sub [0, 1, 2, 3, 4, 5, 6, 7, 8] rfl) (hD.sub [0, 1, 2, 3, 4, 5, 6, 7, 8] (by decide) rfl) hS trivial dX3_hardnessBelow_96
      · refine lv_iload_n hx hb dX3_hardnessBelow_17 rfl (lv_at hl 1 rfl) ?_
        refine lv_aload_n hx hb dX3_hardnessBelow_18 rfl (lv_at hl 0 rfl) ?_
        refine va_get (D := D) (ci := 3) (v := .ref pi) (C := RX3) (T := TX3) (N := 8) hx hb hts iw_X3_hardnessBelow_3 hown hK hP 0 rfl rfl 1 (by decide) (hts _ wd_X3_hardnessBelow_1) (fun _ h9 => h9) rfl dX3_hardnessBelow_19 ?_
        refine va_getN (D := D) (ci := 1) (v := .ref k1) (C := RX1) (T := TX1) (N := 9) hx hb hts iw_X3_hardnessBelow_1 hown hK hP 5 rfl rfl 1 (by decide) (va_Nw.use rfl (nwF_150 hN)) (fun _ h9 => h9) rfl dX3_hardnessBelow_22 ?_
        refine lv_iload hx hb dX3_hardnessBelow_25 (lv_at hl 4 rfl) ?_
        refine va_iald hx hb hK hP 7 0 rfl rfl (pf_X3_hardnessBelow_1 num n_5 k hn0 hn1 hn_5 h0k c_1) dX3_hardnessBelow_27 ?_
        refine lv_topi (fun v_2 ev_2 => ?_)
        refine lv_isub hx hb dX3_hardnessBelow_28 ?_
        refine lv_topi (fun v_3 ev_3 => ?_)
        refine lv_iconst (v := 1) hx hb dX3_hardnessBelow_29 (by decide) ?_
        refine lv_iconst (v := 2) hx hb dX3_hardnessBelow_30 (by decide) ?_
        refine cc_i (wc := []) (wr := [(x, .inr (3, [.ref cu, .ref pi, .ref sq, .ref fo, .ref bo, .int gl, .int td, .int le])), (cu, .inr (0, [.ref a0, .ref a1, .ref a2, .ref a3, .ref a4, .ref a5, .int bw, .int pts])), (a2, .inl (cI, 6, .inl fd)), (a3, .inl (cI, 6, .inl fh)), (a4, .inl (cI, 40, .inl fg)), (pi, .inr (1, [.ref k0, .ref k1, .ref k2, .ref k3, .ref k4, .ref k5, .ref k6, .ref k7, .int num])), (k0, .inl (cI, 10, .inl p0)), (k1, .inl (cI, 10, .inl p1)), (k5, .inl (cI, 10, .inl p5))]) (va_runS (As := [.int v_3, .int 1, .int 2]) (rest := []) ⟨hx, hb, hml, hown, hts⟩ (c_X3_isIn l D cI cQ H.size v_3 1 2 ) (va_cwS 3 hts gX3_hardnessBelow_X3_isIn rfl rfl rfl (by decide +kernel) ⟨Nat.le_of_ble_eq_true rfl, Nat.le_of_ble_eq_true rfl⟩) (preS (wc := []) hK hP hD hN [] rfl (by decide)) rfl rfl hl.1 rfl (lv_room (Nat.le_of_ble_eq_true rfl)) dX3_hardnessBelow_31 ⟨Nat.le_of_ble_eq_true rfl, Nat.le_of_ble_eq_true rfl⟩) hP hD hS hA [] [0, 1, 2, 3, 4, 5, 6, 7, 8] rfl rfl (by decide) (by decide) (fun r_4 u H locs w_5 hP hD hS => ?_)
        have hP : va_P D vwCl [(x, .inr (3, [.ref cu, .ref pi, .ref sq, .ref fo, .ref bo, .int gl, .int td, .int le])), (cu, .inr (0, [.ref a0, .ref a1, .ref a2, .ref a3, .ref a4, .ref a5, .int bw, .int pts])), (a2, .inl (cI, 6, .inl fd)), (a3, .inl (cI, 6, .inl fh)), (a4, .inl (cI, 40, .inl fg)), (pi, .inr (1, [.ref k0, .ref k1, .ref k2, .ref k3, .ref k4, .ref k5, .ref k6, .ref k7, .int num])), (k0, .inl (cI, 10, .inl p0)), (k1, .inl (cI, 10, .inl p1)), (k5, .inl (cI, 10, .inl p5))] H := hP
        have hD : va_D A [(x, .inr (3, [.ref cu, .ref pi, .ref sq, .ref fo, .ref bo, .int gl, .int td, .int le])), (cu, .inr (0, [.ref a0, .ref a1, .ref a2, .ref a3, .ref a4, .ref a5, .int bw, .int pts])), (a2, .inl (cI, 6, .inl fd)), (a3, .inl (cI, 6, .inl fh)), (a4, .inl (cI, 40, .inl fg)), (pi, .inr (1, [.ref k0, .ref k1, .ref k2, .ref k3, .ref k4, .ref k5, .ref k6, .ref k7, .int num])), (k0, .inl (cI, 10, .inl p0)), (k1, .inl (cI, 10, .inl p1)), (k5, .inl (cI, 10, .inl p5))] := hD
        have w_5 : r_4 = bIn v_3 (1 : Int32) (2 : Int32) := w_5
        refine lv_istore (lv' := [(6, .int r_4), (0, .ref x), (1, .int fl1), (2, .int day), (3, .long ks), (5, .int k)]) hx hb dX3_hardnessBelow_34 hl (by decide) rfl (fun ls hl => ?_)
        refine lv_iload hx hb dX3_hardnessBelow_36 (lv_at hl 0 rfl) ?_
        refine lv_if_eq (tgt := 89) hx hb dX3_hardnessBelow_38 (by decide) (fun c_7 => ?_) (fun c_7 => ?_)
        · obtain ⟨v_8, ev_8⟩ : ∃ y : Int32, y = k + 1 := ⟨_, rfl⟩
          refine lv_iinc (v := v_8) (lv' := [(5, .int v_8), (6, .int r_4), (0, .ref x), (1, .int fl1), (2, .int day), (3, .long ks)]) hx hb dX3_hardnessBelow_89 hl (k := 5) rfl (by rw [ev_8]; rfl) (by decide) rfl (fun ls hl => ?_)
          refine lv_goto (tgt := 5) hx hb dX3_hardnessBelow_92 (by decide) ?_
          exact hOut _ _ _ _ _ (ih_5 v_8 ks _ _ _ (pf_X3_hardnessBelow_2 num p1 fl1 n_5 k v_2 v_3 r_4 v_8 hn0 hn1 hn_5 h0k c_1 ev_2 ev_3 w_5 c_7 ev_8) (pf_X3_hardnessBelow_3 num p1 fl1 n_5 k v_2 v_3 r_4 v_8 hn0 hn1 hn_5 h0k c_1 ev_2 ev_3 w_5 c_7 ev_8) (hP.sub [0, 1, 2, 3, 4, 5, 6, 7, 8] rfl) (hD.sub [0, 1, 2, 3, 4, 5, 6, 7, 8] (by decide) rfl) hS (lv_sub hl [2, 3, 4, 5, 0] rfl))
        · refine lv_aload_n hx hb dX3_hardnessBelow_41 rfl (lv_at hl 1 rfl) ?_
          refine va_get (D := D) (ci := 3) (v := .ref pi) (C := RX3) (T := TX3) (N := 8) hx hb hts iw_X3_hardnessBelow_3 hown hK hP 0 rfl rfl 1 (by decide) (hts _ wd_X3_hardnessBelow_1) (fun _ h9 => h9) rfl dX3_hardnessBelow_42 ?_
          refine va_getN (D := D) (ci := 1) (v := .ref k0) (C := RX1) (T := TX1) (N := 9) hx hb hts iw_X3_hardnessBelow_1 hown hK hP 5 rfl rfl 0 (by decide) (va_Nw.use rfl (nwF_147 hN)) (fun _ h9 => h9) rfl dX3_hardnessBelow_45 ?_
          refine lv_iload hx hb dX3_hardnessBelow_48 (lv_at hl 5 rfl) ?_
          refine va_iald hx hb hK hP 6 0 rfl rfl (pf_X3_hardnessBelow_4 num p1 fl1 n_5 k v_2 v_3 r_4 hn0 hn1 hn_5 h0k c_1 ev_2 ev_3 w_5 c_7) dX3_hardnessBelow_50 ?_
          refine lv_topi (fun v_9 ev_9 => ?_)
          refine lv_if_ne (tgt := 89) hx hb dX3_hardnessBelow_51 (by decide) (fun c_10 => ?_) (fun c_10 => ?_)
          · obtain ⟨v_11, ev_11⟩ : ∃ y : Int32, y = k + 1 := ⟨_, rfl⟩
            refine lv_iinc (v := v_11) (lv' := [(5, .int v_11), (6, .int r_4), (0, .ref x), (1, .int fl1), (2, .int day), (3, .long ks)]) hx hb dX3_hardnessBelow_89 hl (k := 5) rfl (by rw [ev_11]; rfl) (by decide) rfl (fun ls hl => ?_)
            refine lv_goto (tgt := 5) hx hb dX3_hardnessBelow_92 (by decide) ?_
            exact hOut _ _ _ _ _ (ih_5 v_11 ks _ _ _ (pf_X3_hardnessBelow_5 num p0 p1 fl1 n_5 k v_2 v_3 r_4 v_9 v_11 hn0 hn1 hn_5 h0k c_1 ev_2 ev_3 w_5 c_7 ev_9 c_10 ev_11) (pf_X3_hardnessBelow_6 num p0 p1 fl1 n_5 k v_2 v_3 r_4 v_9 v_11 hn0 hn1 hn_5 h0k c_1 ev_2 ev_3 w_5 c_7 ev_9 c_10 ev_11) (hP.sub [0, 1, 2, 3, 4, 5, 6, 7, 8] rfl) (hD.sub [0, 1, 2, 3, 4, 5, 6, 7, 8] (by decide) rfl) hS (lv_sub hl [2, 3, 4, 5, 0] rfl))
          · refine lv_aload_n hx hb dX3_hardnessBelow_54 rfl (lv_at hl 1 rfl) ?_
            refine va_get (D := D) (ci := 3) (v := .ref pi) (C := RX3) (T := TX3) (N := 8) hx hb hts iw_X3_hardnessBelow_3 hown hK hP 0 rfl rfl 1 (by decide) (hts _ wd_X3_hardnessBelow_1) (fun _ h9 => h9) rfl dX3_hardnessBelow_55 ?_
            refine lv_iload hx hb dX3_hardnessBelow_58 (lv_at hl 5 rfl) ?_
            refine lv_iload_n hx hb dX3_hardnessBelow_60 rfl (lv_at hl 3 rfl) ?_
            refine cc_i (wc := [(pi, .inr (1, [.ref k0, .ref k1, .ref k2, .ref k3, .ref k4, .ref k5, .ref k6, .ref k7, .int num])), (k5, .inl (cI, 10, .inl p5))]) (wr := [(x, .inr (3, [.ref cu, .ref pi, .ref sq, .ref fo, .ref bo, .int gl, .int td, .int le])), (cu, .inr (0, [.ref a0, .ref a1, .ref a2, .ref a3, .ref a4, .ref a5, .int bw, .int pts])), (a2, .inl (cI, 6, .inl fd)), (a3, .inl (cI, 6, .inl fh)), (a4, .inl (cI, 40, .inl fg)), (k0, .inl (cI, 10, .inl p0)), (k1, .inl (cI, 10, .inl p1))]) (va_runVN (As := [.int k, .int day]) (rest := []) ⟨hx, hb, hml, hown, hts⟩ (c_X1_standsOn l D cI cQ H.size pi k5 k0 k1 k2 k3 k4 k6 k7 num p5 k day (pf_X3_hardnessBelow_7 num p0 p1 fl1 n_5 k v_2 v_3 r_4 v_9 hn0 hn1 hn_5 h0k c_1 ev_2 ev_3 w_5 c_7 ev_9 c_10)) ⟨va_cnB 2 hts gX3_hardnessBelow_X1_standsOn_n184 rfl rfl rfl (nwM_184 hN) (hts _ wd_X3_hardnessBelow_8) (by decide +kernel) ⟨Nat.le_of_ble_eq_true rfl, Nat.le_of_ble_eq_true rfl⟩, (hts _ wd_X3_hardnessBelow_7), (hts _ wd_X3_hardnessBelow_9)⟩ (preV (wc := [(pi, .inr (1, [.ref k0, .ref k1, .ref k2, .ref k3, .ref k4, .ref k5, .ref k6, .ref k7, .int num])), (k5, .inl (cI, 10, .inl p5))]) (ci := 1) (q0 := 5) hK hP hD hN [5, 8] rfl (by decide) rfl rfl) rfl rfl hl.1 rfl (lv_room (Nat.le_of_ble_eq_true rfl)) dX3_hardnessBelow_61 ⟨Nat.le_of_ble_eq_true rfl, Nat.le_of_ble_eq_true rfl⟩) hP hD hS hA [5, 8] [0, 1, 2, 3, 4, 6, 7] rfl rfl (by decide) (by decide) (fun r_12 u H locs w_13 hP hD hS => ?_)
            have hP : va_P D vwCl [(x, .inr (3, [.ref cu, .ref pi, .ref sq, .ref fo, .ref bo, .int gl, .int td, .int le])), (cu, .inr (0, [.ref a0, .ref a1, .ref a2, .ref a3, .ref a4, .ref a5, .int bw, .int pts])), (a2, .inl (cI, 6, .inl fd)), (a3, .inl (cI, 6, .inl fh)), (a4, .inl (cI, 40, .inl fg)), (k0, .inl (cI, 10, .inl p0)), (k1, .inl (cI, 10, .inl p1)), (pi, .inr (1, [.ref k0, .ref k1, .ref k2, .ref k3, .ref k4, .ref k5, .ref k6, .ref k7, .int num])), (k5, .inl (cI, 10, .inl p5))] H := hP
            have hD : va_D A [(x, .inr (3, [.ref cu, .ref pi, .ref sq, .ref fo, .ref bo, .int gl, .int td, .int le])), (cu, .inr (0, [.ref a0, .ref a1, .ref a2, .ref a3, .ref a4, .ref a5, .int bw, .int pts])), (a2, .inl (cI, 6, .inl fd)), (a3, .inl (cI, 6, .inl fh)), (a4, .inl (cI, 40, .inl fg)), (k0, .inl (cI, 10, .inl p0)), (k1, .inl (cI, 10, .inl p1)), (pi, .inr (1, [.ref k0, .ref k1, .ref k2, .ref k3, .ref k4, .ref k5, .ref k6, .ref k7, .int num])), (k5, .inl (cI, 10, .inl p5))] := hD
            have w_13 : r_12 = bSt (p5 k.toNatClampNeg) day := w_13
            refine lv_if_eq (tgt := 89) hx hb dX3_hardnessBelow_64 (by decide) (fun c_15 => ?_) (fun c_15 => ?_)
            · obtain ⟨v_16, ev_16⟩ : ∃ y : Int32, y = k + 1 := ⟨_, rfl⟩
              refine lv_iinc (v := v_16) (lv' := [(5, .int v_16), (6, .int r_4), (0, .ref x), (1, .int fl1), (2, .int day), (3, .long ks)]) hx hb dX3_hardnessBelow_89 hl (k := 5) rfl (by rw [ev_16]; rfl) (by decide) rfl (fun ls hl => ?_)
              refine lv_goto (tgt := 5) hx hb dX3_hardnessBelow_92 (by decide) ?_
              exact hOut _ _ _ _ _ (ih_5 v_16 ks _ _ _ (pf_X3_hardnessBelow_8 num p0 p1 p5 fl1 day n_5 k v_2 v_3 r_4 v_9 r_12 v_16 hn0 hn1 hn_5 h0k c_1 ev_2 ev_3 w_5 c_7 ev_9 c_10 w_13 c_15 ev_16) (pf_X3_hardnessBelow_9 num p0 p1 p5 fl1 day n_5 k v_2 v_3 r_4 v_9 r_12 v_16 hn0 hn1 hn_5 h0k c_1 ev_2 ev_3 w_5 c_7 ev_9 c_10 w_13 c_15 ev_16) (hP.sub [0, 1, 2, 3, 4, 7, 5, 6, 8] rfl) (hD.sub [0, 1, 2, 3, 4, 7, 5, 6, 8] (by decide) rfl) hS (lv_sub hl [2, 3, 4, 5, 0] rfl))
            · refine lv_lload_n hx hb dX3_hardnessBelow_67 rfl (lv_at hl 4 rfl) ?_
              refine lv_aload_n hx hb dX3_hardnessBelow_68 rfl (lv_at hl 1 rfl) ?_
              refine va_get (D := D) (ci := 3) (v := .ref cu) (C := RX3) (T := TX3) (N := 8) hx hb hts iw_X3_hardnessBelow_3 hown hK hP 0 rfl rfl 0 (by decide) (hts _ wd_X3_hardnessBelow_2) (fun _ h9 => h9) rfl dX3_hardnessBelow_69 ?_
              refine lv_aload_n hx hb dX3_hardnessBelow_72 rfl (lv_at hl 1 rfl) ?_
              refine va_get (D := D) (ci := 3) (v := .ref pi) (C := RX3) (T := TX3) (N := 8) hx hb hts iw_X3_hardnessBelow_3 hown hK hP 0 rfl rfl 1 (by decide) (hts _ wd_X3_hardnessBelow_1) (fun _ h9 => h9) rfl dX3_hardnessBelow_73 ?_
              refine va_getN (D := D) (ci := 1) (v := .ref k5) (C := RX1) (T := TX1) (N := 9) hx hb hts iw_X3_hardnessBelow_1 hown hK hP 7 rfl rfl 5 (by decide) (va_Nw.use rfl (nwF_162 hN)) (fun _ h9 => h9) rfl dX3_hardnessBelow_76 ?_
              refine lv_iload hx hb dX3_hardnessBelow_79 (lv_at hl 5 rfl) ?_
              refine va_iald hx hb hK hP 8 0 rfl rfl (pf_X3_hardnessBelow_10 num p0 p1 p5 fl1 day n_5 k v_2 v_3 r_4 v_9 r_12 hn0 hn1 hn_5 h0k c_1 ev_2 ev_3 w_5 c_7 ev_9 c_10 w_13 c_15) dX3_hardnessBelow_81 ?_
              refine lv_topi (fun v_17 ev_17 => ?_)
              refine lv_iload_n hx hb dX3_hardnessBelow_82 rfl (lv_at hl 3 rfl) ?_
              refine cc_i (wc := [(cu, .inr (0, [.ref a0, .ref a1, .ref a2, .ref a3, .ref a4, .ref a5, .int bw, .int pts])), (a2, .inl (cI, 6, .inl fd)), (a3, .inl (cI, 6, .inl fh)), (a4, .inl (cI, 40, .inl fg))]) (wr := [(x, .inr (3, [.ref cu, .ref pi, .ref sq, .ref fo, .ref bo, .int gl, .int td, .int le])), (k0, .inl (cI, 10, .inl p0)), (k1, .inl (cI, 10, .inl p1)), (pi, .inr (1, [.ref k0, .ref k1, .ref k2, .ref k3, .ref k4, .ref k5, .ref k6, .ref k7, .int num])), (k5, .inl (cI, 10, .inl p5))]) (va_runVN (As := [.int v_17, .int day]) (rest := [.long ks]) ⟨hx, hb, hml, hown, hts⟩ (c_X0_hardnessOn l D cI cQ H.size cu a2 a3 a4 a0 a1 a5 bw pts fd fh fg v_17 day ) ⟨va_cnB 2 hts gX3_hardnessBelow_X0_hardnessOn_n168 rfl rfl rfl (nwM_168 hN) (hts _ wd_X3_hardnessBelow_13) (by decide +kernel) ⟨Nat.le_of_ble_eq_true rfl, Nat.le_of_ble_eq_true rfl⟩, (hts _ wd_X3_hardnessBelow_12), (hts _ wd_X3_hardnessBelow_14)⟩ (preV (wc := [(cu, .inr (0, [.ref a0, .ref a1, .ref a2, .ref a3, .ref a4, .ref a5, .int bw, .int pts])), (a2, .inl (cI, 6, .inl fd)), (a3, .inl (cI, 6, .inl fh)), (a4, .inl (cI, 40, .inl fg))]) (ci := 0) (q0 := 1) hK hP hD hN [1, 2, 3, 4] rfl (by decide) rfl rfl) rfl rfl hl.1 rfl (lv_room (Nat.le_of_ble_eq_true rfl)) dX3_hardnessBelow_83 ⟨Nat.le_of_ble_eq_true rfl, Nat.le_of_ble_eq_true rfl⟩) hP hD hS hA [1, 2, 3, 4] [0, 5, 6, 7, 8] rfl rfl (by decide) (by decide) (fun r_18 u H locs w_19 hP hD hS => ?_)
              have hP : va_P D vwCl [(x, .inr (3, [.ref cu, .ref pi, .ref sq, .ref fo, .ref bo, .int gl, .int td, .int le])), (k0, .inl (cI, 10, .inl p0)), (k1, .inl (cI, 10, .inl p1)), (pi, .inr (1, [.ref k0, .ref k1, .ref k2, .ref k3, .ref k4, .ref k5, .ref k6, .ref k7, .int num])), (k5, .inl (cI, 10, .inl p5)), (cu, .inr (0, [.ref a0, .ref a1, .ref a2, .ref a3, .ref a4, .ref a5, .int bw, .int pts])), (a2, .inl (cI, 6, .inl fd)), (a3, .inl (cI, 6, .inl fh)), (a4, .inl (cI, 40, .inl fg))] H := hP
              have hD : va_D A [(x, .inr (3, [.ref cu, .ref pi, .ref sq, .ref fo, .ref bo, .int gl, .int td, .int le])), (k0, .inl (cI, 10, .inl p0)), (k1, .inl (cI, 10, .inl p1)), (pi, .inr (1, [.ref k0, .ref k1, .ref k2, .ref k3, .ref k4, .ref k5, .ref k6, .ref k7, .int num])), (k5, .inl (cI, 10, .inl p5)), (cu, .inr (0, [.ref a0, .ref a1, .ref a2, .ref a3, .ref a4, .ref a5, .int bw, .int pts])), (a2, .inl (cI, 6, .inl fd)), (a3, .inl (cI, 6, .inl fh)), (a4, .inl (cI, 40, .inl fg))] := hD
              have w_19 : r_18 = hon fd fh fg pts v_17 day := w_19
              refine lv_i2l (v := (r_18).toInt64) hx hb dX3_hardnessBelow_86 rfl ?_
              refine lv_topl (fun l_21 el_21 => ?_)
              refine lv_ladd hx hb dX3_hardnessBelow_87 ?_
              refine lv_topl (fun l_22 el_22 => ?_)
              refine lv_lstore_n (lv' := [(3, .long l_22), (6, .int r_4), (0, .ref x), (1, .int fl1), (2, .int day), (5, .int k)]) hx hb dX3_hardnessBelow_88 rfl hl (by decide) rfl (fun ls hl => ?_)
              obtain ⟨v_23, ev_23⟩ : ∃ y : Int32, y = k + 1 := ⟨_, rfl⟩
              refine lv_iinc (v := v_23) (lv' := [(5, .int v_23), (3, .long l_22), (6, .int r_4), (0, .ref x), (1, .int fl1), (2, .int day)]) hx hb dX3_hardnessBelow_89 hl (k := 5) rfl (by rw [ev_23]; rfl) (by decide) rfl (fun ls hl => ?_)
              refine lv_goto (tgt := 5) hx hb dX3_hardnessBelow_92 (by decide) ?_
              exact hOut _ _ _ _ _ (ih_5 v_23 l_22 _ _ _ (pf_X3_hardnessBelow_11 pts fd fh fg num p0 p1 p5 fl1 day n_5 k ks v_2 v_3 r_4 v_9 r_12 v_17 r_18 l_21 l_22 v_23 hn0 hn1 hn_5 h0k c_1 ev_2 ev_3 w_5 c_7 ev_9 c_10 w_13 c_15 ev_17 w_19 el_21 el_22 ev_23) (pf_X3_hardnessBelow_12 pts fd fh fg num p0 p1 p5 fl1 day n_5 k ks v_2 v_3 r_4 v_9 r_12 v_17 r_18 l_21 l_22 v_23 hn0 hn1 hn_5 h0k c_1 ev_2 ev_3 w_5 c_7 ev_9 c_10 w_13 c_15 ev_17 w_19 el_21 el_22 ev_23) (hP.sub [0, 5, 6, 7, 8, 3, 1, 2, 4] rfl) (hD.sub [0, 5, 6, 7, 8, 3, 1, 2, 4] (by decide) rfl) hS (lv_sub hl [3, 4, 5, 1, 0] rfl))
  exact hOut _ _ _ _ _ (lp_5 (10 - (0 : Int32).toNatClampNeg + 1) 0 0 _ _ _ (Nat.lt_succ_self _) (pf_X3_hardnessBelow_13 num hn0 hn1) (hP.sub [0, 1, 2, 3, 4, 5, 6, 7, 8] rfl) (hD.sub [0, 1, 2, 3, 4, 5, 6, 7, 8] (by decide) rfl) hS (lv_sub hl [2, 3, 4, 1, 0] rfl))

theorem iw_X3_loadOf_1 : ∀ w ∈ wsX10, w ∈ wsX3_loadOf := fun w h => (List.mem_cons_of_mem _ (List.mem_append_left _ (List.mem_append_right _ h)))
theorem iw_X3_loadOf_3 : ∀ w ∈ wsX30, w ∈ wsX3_loadOf := fun w h => (List.mem_cons_of_mem _ (List.mem_append_left _ (List.mem_append_left _ (List.mem_append_right _ h))))
theorem wd_X3_loadOf_1 : (.fieldLink RX3 21 "PourPlan" "pieces" "LPourPlan$Pieces;" : Cond) ∈ wsX3_loadOf := List.mem_of_getElem? (i := 1) rfl
set_option maxHeartbeats 1000000 in
theorem pf_X3_loadOf_1 (fs : Nat → Int32) (num : Int32) (n_5 : Nat) (k : Int32) (hn0 : 0 ≤ num) (hn1 : num ≤ 10) (hs : okS fs) (hn_5 : 10 - k.toNatClampNeg < n_5 + 1) (h0k : 0 ≤ k) (c_1 : ¬ num ≤ k) : vp_in k 10 := by
  exact vi_in (M := 10) rfl (by grind) (by grind)
set_option maxHeartbeats 1000000 in
theorem pf_X3_loadOf_2 (fs : Nat → Int32) (num : Int32) (p1 : Nat → Int32) (fl1 : Int32) (n_5 : Nat) (k : Int32) (v_2 : Int32) (v_4 : Int32) (hn0 : 0 ≤ num) (hn1 : num ≤ 10) (hs : okS fs) (hn_5 : 10 - k.toNatClampNeg < n_5 + 1) (h0k : 0 ≤ k) (c_1 : ¬ num ≤ k) (ev_2 : v_2 = p1 k.toNatClampNeg) (c_3 : ¬ v_2 = fl1) (ev_4 : v_4 = k + 1) : 10 - v_4.toNatClampNeg < n_5 := by
  exact ms_dec (L := 10) (k := k) (by grind) (show ¬ (10 : Int32) ≤ k by grind) (by omega) (by assumption) hn_5
set_option maxHeartbeats 1000000 in
theorem pf_X3_loadOf_3 (fs : Nat → Int32) (num : Int32) (p1 : Nat → Int32) (fl1 : Int32) (n_5 : Nat) (k : Int32) (v_2 : Int32) (v_4 : Int32) (hn0 : 0 ≤ num) (hn1 : num ≤ 10) (hs : okS fs) (hn_5 : 10 - k.toNatClampNeg < n_5 + 1) (h0k : 0 ≤ k) (c_1 : ¬ num ≤ k) (ev_2 : v_2 = p1 k.toNatClampNeg) (c_3 : ¬ v_2 = fl1) (ev_4 : v_4 = k + 1) : 0 ≤ v_4 := by
  grind
set_option maxHeartbeats 1000000 in
theorem pf_X3_loadOf_4 (fs : Nat → Int32) (num : Int32) (p1 : Nat → Int32) (fl1 : Int32) (n_5 : Nat) (k : Int32) (v_2 : Int32) (hn0 : 0 ≤ num) (hn1 : num ≤ 10) (hs : okS fs) (hn_5 : 10 - k.toNatClampNeg < n_5 + 1) (h0k : 0 ≤ k) (c_1 : ¬ num ≤ k) (ev_2 : v_2 = p1 k.toNatClampNeg) (c_3 : v_2 = fl1) : vp_in k 10 := by
  exact vi_in (M := 10) rfl (by grind) (by grind)
set_option maxHeartbeats 1000000 in
theorem pf_X3_loadOf_5 (fs : Nat → Int32) (num : Int32) (p0 : Nat → Int32) (p1 : Nat → Int32) (fl1 : Int32) (n_5 : Nat) (k : Int32) (v_2 : Int32) (v_5 : Int32) (v_7 : Int32) (hn0 : 0 ≤ num) (hn1 : num ≤ 10) (hs : okS fs) (hn_5 : 10 - k.toNatClampNeg < n_5 + 1) (h0k : 0 ≤ k) (c_1 : ¬ num ≤ k) (ev_2 : v_2 = p1 k.toNatClampNeg) (c_3 : v_2 = fl1) (ev_5 : v_5 = p0 k.toNatClampNeg) (c_6 : ¬ v_5 = 0) (ev_7 : v_7 = k + 1) : 10 - v_7.toNatClampNeg < n_5 := by
  exact ms_dec (L := 10) (k := k) (by grind) (show ¬ (10 : Int32) ≤ k by grind) (by omega) (by assumption) hn_5
set_option maxHeartbeats 1000000 in
theorem pf_X3_loadOf_6 (fs : Nat → Int32) (num : Int32) (p0 : Nat → Int32) (p1 : Nat → Int32) (fl1 : Int32) (n_5 : Nat) (k : Int32) (v_2 : Int32) (v_5 : Int32) (v_7 : Int32) (hn0 : 0 ≤ num) (hn1 : num ≤ 10) (hs : okS fs) (hn_5 : 10 - k.toNatClampNeg < n_5 + 1) (h0k : 0 ≤ k) (c_1 : ¬ num ≤ k) (ev_2 : v_2 = p1 k.toNatClampNeg) (c_3 : v_2 = fl1) (ev_5 : v_5 = p0 k.toNatClampNeg) (c_6 : ¬ v_5 = 0) (ev_7 : v_7 = k + 1) : 0 ≤ v_7 := by
  grind
set_option maxHeartbeats 1000000 in
theorem pf_X3_loadOf_7 (fs : Nat → Int32) (num : Int32) (p0 : Nat → Int32) (p1 : Nat → Int32) (fl1 : Int32) (n_5 : Nat) (k : Int32) (v_2 : Int32) (v_5 : Int32) (hn0 : 0 ≤ num) (hn1 : num ≤ 10) (hs : okS fs) (hn_5 : 10 - k.toNatClampNeg < n_5 + 1) (h0k : 0 ≤ k) (c_1 : ¬ num ≤ k) (ev_2 : v_2 = p1 k.toNatClampNeg) (c_3 : v_2 = fl1) (ev_5 : v_5 = p0 k.toNatClampNeg) (c_6 : v_5 = 0) : okS fs := by
  exact hs
set_option maxHeartbeats 1000000 in
theorem pf_X3_loadOf_8 (fs : Nat → Int32) (num : Int32) (p0 : Nat → Int32) (p1 : Nat → Int32) (fl1 : Int32) (n_5 : Nat) (k : Int32) (v_2 : Int32) (v_5 : Int32) (hn0 : 0 ≤ num) (hn1 : num ≤ 10) (hs : okS fs) (hn_5 : 10 - k.toNatClampNeg < n_5 + 1) (h0k : 0 ≤ k) (c_1 : ¬ num ≤ k) (ev_2 : v_2 = p1 k.toNatClampNeg) (c_3 : v_2 = fl1) (ev_5 : v_5 = p0 k.toNatClampNeg) (c_6 : v_5 = 0) : vp_in k 10 := by
  exact vi_in (M := 10) rfl (by grind) (by grind)
set_option maxHeartbeats 1000000 in
theorem pf_X3_loadOf_9 (fs : Nat → Int32) (num : Int32) (p0 : Nat → Int32) (p1 : Nat → Int32) (fl1 : Int32) (n_5 : Nat) (k : Int32) (v_2 : Int32) (v_5 : Int32) (r_8 : Int32) (v_11 : Int32) (hn0 : 0 ≤ num) (hn1 : num ≤ 10) (hs : okS fs) (hn_5 : 10 - k.toNatClampNeg < n_5 + 1) (h0k : 0 ≤ k) (c_1 : ¬ num ≤ k) (ev_2 : v_2 = p1 k.toNatClampNeg) (c_3 : v_2 = fl1) (ev_5 : v_5 = p0 k.toNatClampNeg) (c_6 : v_5 = 0) (c_10 : r_8 = 0) (ev_11 : v_11 = k + 1) : 10 - v_11.toNatClampNeg < n_5 := by
  exact ms_dec (L := 10) (k := k) (by grind) (show ¬ (10 : Int32) ≤ k by grind) (by omega) (by assumption) hn_5
set_option maxHeartbeats 1000000 in
theorem pf_X3_loadOf_10 (fs : Nat → Int32) (num : Int32) (p0 : Nat → Int32) (p1 : Nat → Int32) (fl1 : Int32) (n_5 : Nat) (k : Int32) (v_2 : Int32) (v_5 : Int32) (r_8 : Int32) (v_11 : Int32) (hn0 : 0 ≤ num) (hn1 : num ≤ 10) (hs : okS fs) (hn_5 : 10 - k.toNatClampNeg < n_5 + 1) (h0k : 0 ≤ k) (c_1 : ¬ num ≤ k) (ev_2 : v_2 = p1 k.toNatClampNeg) (c_3 : v_2 = fl1) (ev_5 : v_5 = p0 k.toNatClampNeg) (c_6 : v_5 = 0) (c_10 : r_8 = 0) (ev_11 : v_11 = k + 1) : 0 ≤ v_11 := by
  grind
set_option maxHeartbeats 1000000 in
theorem pf_X3_loadOf_11 (fs : Nat → Int32) (num : Int32) (p0 : Nat → Int32) (p1 : Nat → Int32) (fl1 : Int32) (n_5 : Nat) (k : Int32) (v_2 : Int32) (v_5 : Int32) (r_8 : Int32) (hn0 : 0 ≤ num) (hn1 : num ≤ 10) (hs : okS fs) (hn_5 : 10 - k.toNatClampNeg < n_5 + 1) (h0k : 0 ≤ k) (c_1 : ¬ num ≤ k) (ev_2 : v_2 = p1 k.toNatClampNeg) (c_3 : v_2 = fl1) (ev_5 : v_5 = p0 k.toNatClampNeg) (c_6 : v_5 = 0) (c_10 : ¬ r_8 = 0) : vp_in k 10 := by
  exact vi_in (M := 10) rfl (by grind) (by grind)
set_option maxHeartbeats 1000000 in
theorem pf_X3_loadOf_12 (fs : Nat → Int32) (num : Int32) (p0 : Nat → Int32) (p1 : Nat → Int32) (p2 : Nat → Int32) (fl1 : Int32) (n_5 : Nat) (k : Int32) (ks : Int64) (v_2 : Int32) (v_5 : Int32) (r_8 : Int32) (v_12 : Int32) (l_13 : Int64) (l_14 : Int64) (v_15 : Int32) (hn0 : 0 ≤ num) (hn1 : num ≤ 10) (hs : okS fs) (hn_5 : 10 - k.toNatClampNeg < n_5 + 1) (h0k : 0 ≤ k) (c_1 : ¬ num ≤ k) (ev_2 : v_2 = p1 k.toNatClampNeg) (c_3 : v_2 = fl1) (ev_5 : v_5 = p0 k.toNatClampNeg) (c_6 : v_5 = 0) (c_10 : ¬ r_8 = 0) (ev_12 : v_12 = p2 k.toNatClampNeg) (el_13 : l_13 = (v_12).toInt64) (el_14 : l_14 = ks + l_13) (ev_15 : v_15 = k + 1) : 10 - v_15.toNatClampNeg < n_5 := by
  exact ms_dec (L := 10) (k := k) (by grind) (show ¬ (10 : Int32) ≤ k by grind) (by omega) (by assumption) hn_5
set_option maxHeartbeats 1000000 in
theorem pf_X3_loadOf_13 (fs : Nat → Int32) (num : Int32) (p0 : Nat → Int32) (p1 : Nat → Int32) (p2 : Nat → Int32) (fl1 : Int32) (n_5 : Nat) (k : Int32) (ks : Int64) (v_2 : Int32) (v_5 : Int32) (r_8 : Int32) (v_12 : Int32) (l_13 : Int64) (l_14 : Int64) (v_15 : Int32) (hn0 : 0 ≤ num) (hn1 : num ≤ 10) (hs : okS fs) (hn_5 : 10 - k.toNatClampNeg < n_5 + 1) (h0k : 0 ≤ k) (c_1 : ¬ num ≤ k) (ev_2 : v_2 = p1 k.toNatClampNeg) (c_3 : v_2 = fl1) (ev_5 : v_5 = p0 k.toNatClampNeg) (c_6 : v_5 = 0) (c_10 : ¬ r_8 = 0) (ev_12 : v_12 = p2 k.toNatClampNeg) (el_13 : l_13 = (v_12).toInt64) (el_14 : l_14 = ks + l_13) (ev_15 : v_15 = k + 1) : 0 ≤ v_15 := by
  grind
set_option maxHeartbeats 1000000 in
theorem pf_X3_loadOf_14 (fs : Nat → Int32) (num : Int32) (hn0 : 0 ≤ num) (hn1 : num ≤ 10) (hs : okS fs) : 0 ≤ (0 : Int32) := by
  grind
set_option maxHeartbeats 4000000 in
set_option maxRecDepth 100000 in
theorem c_X3_loadOf (l : Launch) (D : va_G) (cI cQ : ClassId) (sz : Nat) (x : Nat) (cu : Nat) (a5 : Nat) (pi : Nat) (k0 : Nat) (k1 : Nat) (k2 : Nat) (k5 : Nat) (sq : Nat) (fo : Nat) (bo : Nat) (gl : Int32) (td : Int32) (le : Int32) (a0 : Nat) (a1 : Nat) (a2 : Nat) (a3 : Nat) (a4 : Nat) (bw : Int32) (pts : Int32) (fs : Nat → Int32) (k3 : Nat) (k4 : Nat) (k6 : Nat) (k7 : Nat) (num : Int32) (p0 : Nat → Int32) (p1 : Nat → Int32) (p2 : Nat → Int32) (p5 : Nat → Int32) (fl1 : Int32) (day : Int32) (hn0 : 0 ≤ num) (hn1 : num ≤ 10) (hs : okS fs) : CtL l yX3_loadOf wsX3_loadOf 2 44 0 0 [.ref x, .int fl1, .int day] D [(cI, .int), (cQ, .array .int)] [(x, .inr (3, [.ref cu, .ref pi, .ref sq, .ref fo, .ref bo, .int gl, .int td, .int le])), (cu, .inr (0, [.ref a0, .ref a1, .ref a2, .ref a3, .ref a4, .ref a5, .int bw, .int pts])), (a5, .inl (cI, 40, .inl fs)), (pi, .inr (1, [.ref k0, .ref k1, .ref k2, .ref k3, .ref k4, .ref k5, .ref k6, .ref k7, .int num])), (k0, .inl (cI, 10, .inl p0)), (k1, .inl (cI, 10, .inl p1)), (k2, .inl (cI, 10, .inl p2)), (k5, .inl (cI, 10, .inl p5))] sz (fun (r : Int64) (u : Unit) => True) (fun (u : Unit) => [(x, .inr (3, [.ref cu, .ref pi, .ref sq, .ref fo, .ref bo, .int gl, .int td, .int le])), (cu, .inr (0, [.ref a0, .ref a1, .ref a2, .ref a3, .ref a4, .ref a5, .int bw, .int pts])), (a5, .inl (cI, 40, .inl fs)), (pi, .inr (1, [.ref k0, .ref k1, .ref k2, .ref k3, .ref k4, .ref k5, .ref k6, .ref k7, .int num])), (k0, .inl (cI, 10, .inl p0)), (k1, .inl (cI, 10, .inl p1)), (k2, .inl (cI, 10, .inl p2)), (k5, .inl (cI, 10, .inl p5))]) := by
  refine Met.ofW (cc := cX3_loadOf) (maxL := 6) (ret := (some .long)) (by decide) rfl ?_
  intro p e s m args below meth c s₁ B hml hv
  obtain ⟨rfl, hsz, hP, hK, hD0, hN⟩ := hv
  have hx := B.exec
  have hb := B.bytes
  have hr := B.returns
  have hts := atoms_spec (ws := wsX3_loadOf) B.pre
  have hown : s.vm.findClass RX3 = some m.cls := findClass_of_methodNamed B.named
  have hlocks := B.notSynchronized
  subst hsz
  have hD := hD0.self (sz := s.heap.size)
  generalize hAe : va_A [(x, .inr (3, [.ref cu, .ref pi, .ref sq, .ref fo, .ref bo, .int gl, .int td, .int le])), (cu, .inr (0, [.ref a0, .ref a1, .ref a2, .ref a3, .ref a4, .ref a5, .int bw, .int pts])), (a5, .inl (cI, 40, .inl fs)), (pi, .inr (1, [.ref k0, .ref k1, .ref k2, .ref k3, .ref k4, .ref k5, .ref k6, .ref k7, .int num])), (k0, .inl (cI, 10, .inl p0)), (k1, .inl (cI, 10, .inl p1)), (k2, .inl (cI, 10, .inl p2)), (k5, .inl (cI, 10, .inl p5))] s.heap.size = A at hD ⊢
  have hA : ∀ q : Nat, s.heap.size ≤ q → A q := fun q h => by rw [← hAe]; exact Or.inr h
  have hS : va_S A s.heap s.heap [] := va_S.rf
  have hl := lv_entry ([.ref x, .int fl1, .int day]) (n := 6) (Nat.le_of_ble_eq_true rfl)
  rw [lg_entry_eq]
  generalize (lg_sl ([.ref x, .int fl1, .int day]) ++ List.replicate (6 - (lg_sl ([.ref x, .int fl1, .int day])).length) Slot.unset).toArray = ls at hl ⊢
  have hl : lv_has ls 6 [(0, .ref x), (1, .int fl1), (2, .int day)] := hl
  refine W_gen (fun GW hIn hOut => ?_)
  refine hIn _ _ _ _ _ ?_
  have hP0 := hP
  refine lv_lconst (v := 0) hx hb dX3_loadOf_0 rfl ?_
  refine lv_lstore_n (lv' := [(3, .long 0), (0, .ref x), (1, .int fl1), (2, .int day)]) hx hb dX3_loadOf_1 rfl hl (by decide) rfl (fun ls hl => ?_)
  refine lv_iconst (v := 0) hx hb dX3_loadOf_2 (by decide) ?_
  refine lv_istore (lv' := [(5, .int 0), (3, .long 0), (0, .ref x), (1, .int fl1), (2, .int day)]) hx hb dX3_loadOf_3 hl (by decide) rfl (fun ls hl => ?_)
  have lp_5 : ∀ (n : Nat) (k : Int32) (ks : Int64) (H : Heap) (locs : List Loc) (ls : Array Slot), 10 - k.toNatClampNeg < n → (0 ≤ k) → va_P D vwCl [(x, .inr (3, [.ref cu, .ref pi, .ref sq, .ref fo, .ref bo, .int gl, .int td, .int le])), (cu, .inr (0, [.ref a0, .ref a1, .ref a2, .ref a3, .ref a4, .ref a5, .int bw, .int pts])), (a5, .inl (cI, 40, .inl fs)), (pi, .inr (1, [.ref k0, .ref k1, .ref k2, .ref k3, .ref k4, .ref k5, .ref k6, .ref k7, .int num])), (k0, .inl (cI, 10, .inl p0)), (k1, .inl (cI, 10, .inl p1)), (k2, .inl (cI, 10, .inl p2)), (k5, .inl (cI, 10, .inl p5))] H → va_D A [(x, .inr (3, [.ref cu, .ref pi, .ref sq, .ref fo, .ref bo, .int gl, .int td, .int le])), (cu, .inr (0, [.ref a0, .ref a1, .ref a2, .ref a3, .ref a4, .ref a5, .int bw, .int pts])), (a5, .inl (cI, 40, .inl fs)), (pi, .inr (1, [.ref k0, .ref k1, .ref k2, .ref k3, .ref k4, .ref k5, .ref k6, .ref k7, .int num])), (k0, .inl (cI, 10, .inl p0)), (k1, .inl (cI, 10, .inl p1)), (k2, .inl (cI, 10, .inl p2)), (k5, .inl (cI, 10, .inl p5))] → va_S A s.heap H locs → lv_has ls 6 [(0, .ref x), (1, .int fl1), (2, .int day), (3, .long ks), (5, .int k)] → GW H locs 0 0 (F0 m 5 ls []) := by
    intro n_5
    induction n_5 with
    | zero => intro k ks H locs ls hn_5; exact absurd hn_5 (Nat.not_lt_zero _)
    | succ n_5 ih_5 =>
      intro k ks H locs ls hn_5 h0k hP hD hS hl
      refine hIn _ _ _ _ _ ?_
      refine lv_iload hx hb dX3_loadOf_5 (lv_at hl 4 rfl) ?_
      refine lv_aload_n hx hb dX3_loadOf_7 rfl (lv_at hl 0 rfl) ?_
      refine va_get (D := D) (ci := 3) (v := .ref pi) (C := RX3) (T := TX3) (N := 8) hx hb hts iw_X3_loadOf_3 hown hK hP 0 rfl rfl 1 (by decide) (hts _ wd_X3_loadOf_1) (fun _ h9 => h9) rfl dX3_loadOf_8 ?_
      refine va_getN (D := D) (ci := 1) (v := .int num) (C := RX1) (T := TX1) (N := 9) hx hb hts iw_X3_loadOf_1 hown hK hP 3 rfl rfl 8 (by decide) (va_Nw.use rfl (nwF_53 hN)) (fun _ h9 => h9) rfl dX3_loadOf_11 ?_
      refine lv_icmp_ge (tgt := 74) hx hb dX3_loadOf_14 (by decide) (fun c_1 => ?_) (fun c_1 => ?_)
      · refine lv_lload_n hx hb dX3_loadOf_74 rfl (lv_at hl 3 rfl) ?_
        refine W.widen (k := 0) (n := 0) (Nat.le_of_ble_eq_true rfl) (Nat.le_of_ble_eq_true rfl) ?_
        exact fi_l () hx hb hr hlocks hK (hP.sub [0, 1, 2, 3, 4, 5, 6, 7] rfl) (hD.sub [0, 1, 2, 3, 4, 5, 6, 7] (by decide) rfl) hS trivial dX3_loadOf_75
      · refine lv_aload_n hx hb dX3_loadOf_17 rfl (lv_at hl 0 rfl) ?_
        refine va_get (D := D) (ci := 3) (v := .ref pi) (C := RX3) (T := TX3) (N := 8) hx hb hts iw_X3_loadOf_3 hown hK hP 0 rfl rfl 1 (by decide) (hts _ wd_X3_loadOf_1) (fun _ h9 => h9) rfl dX3_loadOf_18 ?_
        refine va_getN (D := D) (ci := 1) (v := .ref k1) (C := RX1) (T := TX1) (N := 9) hx hb hts iw_X3_loadOf_1 hown hK hP 3 rfl rfl 1 (by decide) (va_Nw.use rfl (nwF_150 hN)) (fun _ h9 => h9) rfl dX3_loadOf_21 ?_
        refine lv_iload hx hb dX3_loadOf_24 (lv_at hl 4 rfl) ?_
        refine va_iald hx hb hK hP 5 0 rfl rfl (pf_X3_loadOf_1 fs num n_5 k hn0 hn1 hs hn_5 h0k c_1) dX3_loadOf_26 ?_
        refine lv_topi (fun v_2 ev_2 => ?_)
        refine lv_iload_n hx hb dX3_loadOf_27 rfl (lv_at hl 1 rfl) ?_
        refine lv_icmp_ne (tgt := 68) hx hb dX3_loadOf_28 (by decide) (fun c_3 => ?_) (fun c_3 => ?_)
        · obtain ⟨v_4, ev_4⟩ : ∃ y : Int32, y = k + 1 := ⟨_, rfl⟩
          refine lv_iinc (v := v_4) (lv' := [(5, .int v_4), (0, .ref x), (1, .int fl1), (2, .int day), (3, .long ks)]) hx hb dX3_loadOf_68 hl (k := 4) rfl (by rw [ev_4]; rfl) (by decide) rfl (fun ls hl => ?_)
          refine lv_goto (tgt := 5) hx hb dX3_loadOf_71 (by decide) ?_
          exact hOut _ _ _ _ _ (ih_5 v_4 ks _ _ _ (pf_X3_loadOf_2 fs num p1 fl1 n_5 k v_2 v_4 hn0 hn1 hs hn_5 h0k c_1 ev_2 c_3 ev_4) (pf_X3_loadOf_3 fs num p1 fl1 n_5 k v_2 v_4 hn0 hn1 hs hn_5 h0k c_1 ev_2 c_3 ev_4) (hP.sub [0, 1, 2, 3, 4, 5, 6, 7] rfl) (hD.sub [0, 1, 2, 3, 4, 5, 6, 7] (by decide) rfl) hS (lv_sub hl [1, 2, 3, 4, 0] rfl))
        · refine lv_aload_n hx hb dX3_loadOf_31 rfl (lv_at hl 0 rfl) ?_
          refine va_get (D := D) (ci := 3) (v := .ref pi) (C := RX3) (T := TX3) (N := 8) hx hb hts iw_X3_loadOf_3 hown hK hP 0 rfl rfl 1 (by decide) (hts _ wd_X3_loadOf_1) (fun _ h9 => h9) rfl dX3_loadOf_32 ?_
          refine va_getN (D := D) (ci := 1) (v := .ref k0) (C := RX1) (T := TX1) (N := 9) hx hb hts iw_X3_loadOf_1 hown hK hP 3 rfl rfl 0 (by decide) (va_Nw.use rfl (nwF_147 hN)) (fun _ h9 => h9) rfl dX3_loadOf_35 ?_
          refine lv_iload hx hb dX3_loadOf_38 (lv_at hl 4 rfl) ?_
          refine va_iald hx hb hK hP 4 0 rfl rfl (pf_X3_loadOf_4 fs num p1 fl1 n_5 k v_2 hn0 hn1 hs hn_5 h0k c_1 ev_2 c_3) dX3_loadOf_40 ?_
          refine lv_topi (fun v_5 ev_5 => ?_)
          refine lv_if_ne (tgt := 68) hx hb dX3_loadOf_41 (by decide) (fun c_6 => ?_) (fun c_6 => ?_)
          · obtain ⟨v_7, ev_7⟩ : ∃ y : Int32, y = k + 1 := ⟨_, rfl⟩
            refine lv_iinc (v := v_7) (lv' := [(5, .int v_7), (0, .ref x), (1, .int fl1), (2, .int day), (3, .long ks)]) hx hb dX3_loadOf_68 hl (k := 4) rfl (by rw [ev_7]; rfl) (by decide) rfl (fun ls hl => ?_)
            refine lv_goto (tgt := 5) hx hb dX3_loadOf_71 (by decide) ?_
            exact hOut _ _ _ _ _ (ih_5 v_7 ks _ _ _ (pf_X3_loadOf_5 fs num p0 p1 fl1 n_5 k v_2 v_5 v_7 hn0 hn1 hs hn_5 h0k c_1 ev_2 c_3 ev_5 c_6 ev_7) (pf_X3_loadOf_6 fs num p0 p1 fl1 n_5 k v_2 v_5 v_7 hn0 hn1 hs hn_5 h0k c_1 ev_2 c_3 ev_5 c_6 ev_7) (hP.sub [0, 1, 2, 3, 4, 5, 6, 7] rfl) (hD.sub [0, 1, 2, 3, 4, 5, 6, 7] (by decide) rfl) hS (lv_sub hl [1, 2, 3, 4, 0] rfl))
          · refine lv_aload_n hx hb dX3_loadOf_44 rfl (lv_at hl 0 rfl) ?_
            refine lv_iload hx hb dX3_loadOf_45 (lv_at hl 4 rfl) ?_
            refine lv_iload_n hx hb dX3_loadOf_47 rfl (lv_at hl 2 rfl) ?_
            refine cc_i (wc := [(x, .inr (3, [.ref cu, .ref pi, .ref sq, .ref fo, .ref bo, .int gl, .int td, .int le])), (cu, .inr (0, [.ref a0, .ref a1, .ref a2, .ref a3, .ref a4, .ref a5, .int bw, .int pts])), (a5, .inl (cI, 40, .inl fs)), (pi, .inr (1, [.ref k0, .ref k1, .ref k2, .ref k3, .ref k4, .ref k5, .ref k6, .ref k7, .int num])), (k5, .inl (cI, 10, .inl p5))]) (wr := [(k0, .inl (cI, 10, .inl p0)), (k1, .inl (cI, 10, .inl p1)), (k2, .inl (cI, 10, .inl p2))]) (va_runV (As := [.int k, .int day]) (rest := []) ⟨hx, hb, hml, hown, hts⟩ (c_X3_isHeldOn l D cI cQ H.size x cu a5 pi k5 sq fo bo gl td le a0 a1 a2 a3 a4 bw pts fs k0 k1 k2 k3 k4 k6 k7 num p5 k day (pf_X3_loadOf_7 fs num p0 p1 fl1 n_5 k v_2 v_5 hn0 hn1 hs hn_5 h0k c_1 ev_2 c_3 ev_5 c_6) (pf_X3_loadOf_8 fs num p0 p1 fl1 n_5 k v_2 v_5 hn0 hn1 hs hn_5 h0k c_1 ev_2 c_3 ev_5 c_6)) (cwV 2 hts gX3_loadOf_X3_isHeldOn rfl rfl rfl (by decide +kernel) ⟨Nat.le_of_ble_eq_true rfl, Nat.le_of_ble_eq_true rfl⟩) (preV (wc := [(x, .inr (3, [.ref cu, .ref pi, .ref sq, .ref fo, .ref bo, .int gl, .int td, .int le])), (cu, .inr (0, [.ref a0, .ref a1, .ref a2, .ref a3, .ref a4, .ref a5, .int bw, .int pts])), (a5, .inl (cI, 40, .inl fs)), (pi, .inr (1, [.ref k0, .ref k1, .ref k2, .ref k3, .ref k4, .ref k5, .ref k6, .ref k7, .int num])), (k5, .inl (cI, 10, .inl p5))]) (ci := 3) (q0 := 0) hK hP hD hN [0, 1, 2, 3, 7] rfl (by decide) rfl rfl) rfl rfl hl.1 rfl (lv_room (Nat.le_of_ble_eq_true rfl)) dX3_loadOf_48 ⟨Nat.le_of_ble_eq_true rfl, Nat.le_of_ble_eq_true rfl⟩) hP hD hS hA [0, 1, 2, 3, 7] [4, 5, 6] rfl rfl (by decide) (by decide) (fun r_8 u H locs w_9 hP hD hS => ?_)
            have hP : va_P D vwCl [(k0, .inl (cI, 10, .inl p0)), (k1, .inl (cI, 10, .inl p1)), (k2, .inl (cI, 10, .inl p2)), (x, .inr (3, [.ref cu, .ref pi, .ref sq, .ref fo, .ref bo, .int gl, .int td, .int le])), (cu, .inr (0, [.ref a0, .ref a1, .ref a2, .ref a3, .ref a4, .ref a5, .int bw, .int pts])), (a5, .inl (cI, 40, .inl fs)), (pi, .inr (1, [.ref k0, .ref k1, .ref k2, .ref k3, .ref k4, .ref k5, .ref k6, .ref k7, .int num])), (k5, .inl (cI, 10, .inl p5))] H := hP
            have hD : va_D A [(k0, .inl (cI, 10, .inl p0)), (k1, .inl (cI, 10, .inl p1)), (k2, .inl (cI, 10, .inl p2)), (x, .inr (3, [.ref cu, .ref pi, .ref sq, .ref fo, .ref bo, .int gl, .int td, .int le])), (cu, .inr (0, [.ref a0, .ref a1, .ref a2, .ref a3, .ref a4, .ref a5, .int bw, .int pts])), (a5, .inl (cI, 40, .inl fs)), (pi, .inr (1, [.ref k0, .ref k1, .ref k2, .ref k3, .ref k4, .ref k5, .ref k6, .ref k7, .int num])), (k5, .inl (cI, 10, .inl p5))] := hD
            refine lv_if_eq (tgt := 68) hx hb dX3_loadOf_51 (by decide) (fun c_10 => ?_) (fun c_10 => ?_)
            · obtain ⟨v_11, ev_11⟩ : ∃ y : Int32, y = k + 1 := ⟨_, rfl⟩
              refine lv_iinc (v := v_11) (lv' := [(5, .int v_11), (0, .ref x), (1, .int fl1), (2, .int day), (3, .long ks)]) hx hb dX3_loadOf_68 hl (k := 4) rfl (by rw [ev_11]; rfl) (by decide) rfl (fun ls hl => ?_)
              refine lv_goto (tgt := 5) hx hb dX3_loadOf_71 (by decide) ?_
              exact hOut _ _ _ _ _ (ih_5 v_11 ks _ _ _ (pf_X3_loadOf_9 fs num p0 p1 fl1 n_5 k v_2 v_5 r_8 v_11 hn0 hn1 hs hn_5 h0k c_1 ev_2 c_3 ev_5 c_6 c_10 ev_11) (pf_X3_loadOf_10 fs num p0 p1 fl1 n_5 k v_2 v_5 r_8 v_11 hn0 hn1 hs hn_5 h0k c_1 ev_2 c_3 ev_5 c_6 c_10 ev_11) (hP.sub [3, 4, 5, 6, 0, 1, 2, 7] rfl) (hD.sub [3, 4, 5, 6, 0, 1, 2, 7] (by decide) rfl) hS (lv_sub hl [1, 2, 3, 4, 0] rfl))
            · refine lv_lload_n hx hb dX3_loadOf_54 rfl (lv_at hl 3 rfl) ?_
              refine lv_aload_n hx hb dX3_loadOf_55 rfl (lv_at hl 0 rfl) ?_
              refine va_get (D := D) (ci := 3) (v := .ref pi) (C := RX3) (T := TX3) (N := 8) hx hb hts iw_X3_loadOf_3 hown hK hP 3 rfl rfl 1 (by decide) (hts _ wd_X3_loadOf_1) (fun _ h9 => h9) rfl dX3_loadOf_56 ?_
              refine va_getN (D := D) (ci := 1) (v := .ref k2) (C := RX1) (T := TX1) (N := 9) hx hb hts iw_X3_loadOf_1 hown hK hP 6 rfl rfl 2 (by decide) (va_Nw.use rfl (nwF_153 hN)) (fun _ h9 => h9) rfl dX3_loadOf_59 ?_
              refine lv_iload hx hb dX3_loadOf_62 (lv_at hl 4 rfl) ?_
              refine va_iald hx hb hK hP 2 0 rfl rfl (pf_X3_loadOf_11 fs num p0 p1 fl1 n_5 k v_2 v_5 r_8 hn0 hn1 hs hn_5 h0k c_1 ev_2 c_3 ev_5 c_6 c_10) dX3_loadOf_64 ?_
              refine lv_topi (fun v_12 ev_12 => ?_)
              refine lv_i2l (v := (v_12).toInt64) hx hb dX3_loadOf_65 rfl ?_
              refine lv_topl (fun l_13 el_13 => ?_)
              refine lv_ladd hx hb dX3_loadOf_66 ?_
              refine lv_topl (fun l_14 el_14 => ?_)
              refine lv_lstore_n (lv' := [(3, .long l_14), (0, .ref x), (1, .int fl1), (2, .int day), (5, .int k)]) hx hb dX3_loadOf_67 rfl hl (by decide) rfl (fun ls hl => ?_)
              obtain ⟨v_15, ev_15⟩ : ∃ y : Int32, y = k + 1 := ⟨_, rfl⟩
              refine lv_iinc (v := v_15) (lv' := [(5, .int v_15), (3, .long l_14), (0, .ref x), (1, .int fl1), (2, .int day)]) hx hb dX3_loadOf_68 hl (k := 4) rfl (by rw [ev_15]; rfl) (by decide) rfl (fun ls hl => ?_)
              refine lv_goto (tgt := 5) hx hb dX3_loadOf_71 (by decide) ?_
              exact hOut _ _ _ _ _ (ih_5 v_15 l_14 _ _ _ (pf_X3_loadOf_12 fs num p0 p1 p2 fl1 n_5 k ks v_2 v_5 r_8 v_12 l_13 l_14 v_15 hn0 hn1 hs hn_5 h0k c_1 ev_2 c_3 ev_5 c_6 c_10 ev_12 el_13 el_14 ev_15) (pf_X3_loadOf_13 fs num p0 p1 p2 fl1 n_5 k ks v_2 v_5 r_8 v_12 l_13 l_14 v_15 hn0 hn1 hs hn_5 h0k c_1 ev_2 c_3 ev_5 c_6 c_10 ev_12 el_13 el_14 ev_15) (hP.sub [3, 4, 5, 6, 0, 1, 2, 7] rfl) (hD.sub [3, 4, 5, 6, 0, 1, 2, 7] (by decide) rfl) hS (lv_sub hl [2, 3, 4, 1, 0] rfl))
  exact hOut _ _ _ _ _ (lp_5 (10 - (0 : Int32).toNatClampNeg + 1) 0 0 _ _ _ (Nat.lt_succ_self _) (pf_X3_loadOf_14 fs num hn0 hn1 hs) (hP.sub [0, 1, 2, 3, 4, 5, 6, 7] rfl) (hD.sub [0, 1, 2, 3, 4, 5, 6, 7] (by decide) rfl) hS (lv_sub hl [2, 3, 4, 1, 0] rfl))

theorem iw_X3_count_0 : ∀ w ∈ wsX00, w ∈ wsX3_count := fun w h => (List.mem_cons_of_mem _ (List.mem_append_right _ h))
theorem iw_X3_count_1 : ∀ w ∈ wsX10, w ∈ wsX3_count := fun w h => (List.mem_cons_of_mem _ (List.mem_append_left _ (List.mem_append_right _ h)))
theorem iw_X3_count_3 : ∀ w ∈ wsX30, w ∈ wsX3_count := fun w h => (List.mem_cons_of_mem _ (List.mem_append_left _ (List.mem_append_left _ (List.mem_append_right _ h))))
theorem wd_X3_count_1 : (.fieldLink RX3 21 "PourPlan" "pieces" "LPourPlan$Pieces;" : Cond) ∈ wsX3_count := List.mem_of_getElem? (i := 1) rfl
theorem wd_X3_count_2 : (.fieldLink RX3 43 "PourPlan" "today" "I" : Cond) ∈ wsX3_count := List.mem_of_getElem? (i := 2) rfl
theorem wd_X3_count_3 : (.fieldLink RX3 14 "PourPlan" "curing" "LPourPlan$Curing;" : Cond) ∈ wsX3_count := List.mem_of_getElem? (i := 3) rfl
theorem wd_X3_count_4 : (.fieldLink RX3 39 "PourPlan" "gangLimit" "I" : Cond) ∈ wsX3_count := List.mem_of_getElem? (i := 4) rfl
theorem wd_X3_count_5 : (.fieldLink RX3 46 "PourPlan" "latestEnd" "I" : Cond) ∈ wsX3_count := List.mem_of_getElem? (i := 5) rfl
theorem wd_X3_count_6 : (.instanceMethod yX1_howManyPoured : Cond) ∈ wsX3_count := List.mem_of_getElem? (i := 6) rfl
theorem wd_X3_count_7 : (.initialized RX1 : Cond) ∈ wsX3_count := List.mem_of_getElem? (i := 7) rfl
theorem wd_X3_count_8 : (.selects RX1 yX1_howManyPoured yX1_howManyPoured : Cond) ∈ wsX3_count := List.mem_of_getElem? (i := 8) rfl
set_option maxHeartbeats 1000000 in
theorem pf_X3_count_1 (num : Int32) (w : Int32) (hn0 : 0 ≤ num) (hn1 : num ≤ 10) (c_1 : ¬ w = 0) (c_2 : w = 1) : 0 ≤ num := by
  grind
set_option maxHeartbeats 1000000 in
theorem pf_X3_count_2 (num : Int32) (w : Int32) (hn0 : 0 ≤ num) (hn1 : num ≤ 10) (c_1 : ¬ w = 0) (c_2 : w = 1) : num ≤ 10 := by
  grind
set_option maxHeartbeats 1000000 in
theorem pf_X3_count_3 (num : Int32) (w : Int32) (hn0 : 0 ≤ num) (hn1 : num ≤ 10) (c_1 : ¬ w = 0) (c_2 : ¬ w = 1) (c_5 : ¬ w = 2) (c_6 : ¬ w = 3) (c_7 : ¬ w = 4) (c_8 : ¬ w = 5) (c_9 : ¬ w = 6) : (w).toInt < 0 ∨ 6 < (w).toInt := by
  exact tb_out (M := 6) rfl (by grind)
set_option maxHeartbeats 4000000 in
set_option maxRecDepth 100000 in
theorem c_X3_count (l : Launch) (D : va_G) (cI cQ : ClassId) (sz : Nat) (x : Nat) (cu : Nat) (pi : Nat) (k5 : Nat) (sq : Nat) (fo : Nat) (bo : Nat) (gl : Int32) (td : Int32) (le : Int32) (a0 : Nat) (a1 : Nat) (a2 : Nat) (a3 : Nat) (a4 : Nat) (a5 : Nat) (bw : Int32) (pts : Int32) (k0 : Nat) (k1 : Nat) (k2 : Nat) (k3 : Nat) (k4 : Nat) (k6 : Nat) (k7 : Nat) (num : Int32) (p5 : Nat → Int32) (w : Int32) (hn0 : 0 ≤ num) (hn1 : num ≤ 10) : CtI l yX3_count wsX3_count 1 22 0 0 [.ref x, .int w] D [(cI, .int), (cQ, .array .int)] [(x, .inr (3, [.ref cu, .ref pi, .ref sq, .ref fo, .ref bo, .int gl, .int td, .int le])), (cu, .inr (0, [.ref a0, .ref a1, .ref a2, .ref a3, .ref a4, .ref a5, .int bw, .int pts])), (pi, .inr (1, [.ref k0, .ref k1, .ref k2, .ref k3, .ref k4, .ref k5, .ref k6, .ref k7, .int num])), (k5, .inl (cI, 10, .inl p5))] sz (fun (r : Int32) (u : Unit) => True) (fun (u : Unit) => [(x, .inr (3, [.ref cu, .ref pi, .ref sq, .ref fo, .ref bo, .int gl, .int td, .int le])), (cu, .inr (0, [.ref a0, .ref a1, .ref a2, .ref a3, .ref a4, .ref a5, .int bw, .int pts])), (pi, .inr (1, [.ref k0, .ref k1, .ref k2, .ref k3, .ref k4, .ref k5, .ref k6, .ref k7, .int num])), (k5, .inl (cI, 10, .inl p5))]) := by
  refine Met.ofW (cc := cX3_count) (maxL := 2) (ret := (some .int)) (by decide) rfl ?_
  intro p e s m args below meth c s₁ B hml hv
  obtain ⟨rfl, hsz, hP, hK, hD0, hN⟩ := hv
  have hx := B.exec
  have hb := B.bytes
  have hr := B.returns
  have hts := atoms_spec (ws := wsX3_count) B.pre
  have hown : s.vm.findClass RX3 = some m.cls := findClass_of_methodNamed B.named
  have hlocks := B.notSynchronized
  subst hsz
  have hD := hD0.self (sz := s.heap.size)
  generalize hAe : va_A [(x, .inr (3, [.ref cu, .ref pi, .ref sq, .ref fo, .ref bo, .int gl, .int td, .int le])), (cu, .inr (0, [.ref a0, .ref a1, .ref a2, .ref a3, .ref a4, .ref a5, .int bw, .int pts])), (pi, .inr (1, [.ref k0, .ref k1, .ref k2, .ref k3, .ref k4, .ref k5, .ref k6, .ref k7, .int num])), (k5, .inl (cI, 10, .inl p5))] s.heap.size = A at hD ⊢
  have hA : ∀ q : Nat, s.heap.size ≤ q → A q := fun q h => by rw [← hAe]; exact Or.inr h
  have hS : va_S A s.heap s.heap [] := va_S.rf
  have hl := lv_entry ([.ref x, .int w]) (n := 2) (Nat.le_of_ble_eq_true rfl)
  rw [lg_entry_eq]
  generalize (lg_sl ([.ref x, .int w]) ++ List.replicate (2 - (lg_sl ([.ref x, .int w])).length) Slot.unset).toArray = ls at hl ⊢
  have hl : lv_has ls 2 [(0, .ref x), (1, .int w)] := hl
  have hP0 := hP
  refine lv_iload_n hx hb dX3_count_0 rfl (lv_at hl 1 rfl) ?_
  by_cases c_1 : w = 0
  · refine lv_tableIn (off := 43) (tgt := 44) hx hb dX3_count_1 (by rw [c_1]; decide) (by rw [c_1]; decide) (by rw [c_1]; rfl) (by decide) ?_
    refine lv_aload_n hx hb dX3_count_44 rfl (lv_at hl 0 rfl) ?_
    refine va_get (D := D) (ci := 3) (v := .ref pi) (C := RX3) (T := TX3) (N := 8) hx hb hts iw_X3_count_3 hown hK hP 0 rfl rfl 1 (by decide) (hts _ wd_X3_count_1) (fun _ h9 => h9) rfl dX3_count_45 ?_
    refine va_getN (D := D) (ci := 1) (v := .int num) (C := RX1) (T := TX1) (N := 9) hx hb hts iw_X3_count_1 hown hK hP 2 rfl rfl 8 (by decide) (va_Nw.use rfl (nwF_53 hN)) (fun _ h9 => h9) rfl dX3_count_48 ?_
    refine W.widen (k := 0) (n := 0) (Nat.le_of_ble_eq_true rfl) (Nat.le_of_ble_eq_true rfl) ?_
    exact fi_i () hx hb hr hlocks hK (hP.sub [0, 1, 2, 3] rfl) (hD.sub [0, 1, 2, 3] (by decide) rfl) hS trivial dX3_count_51
  by_cases c_2 : w = 1
  · refine lv_tableIn (off := 51) (tgt := 52) hx hb dX3_count_1 (by rw [c_2]; decide) (by rw [c_2]; decide) (by rw [c_2]; rfl) (by decide) ?_
    refine lv_aload_n hx hb dX3_count_52 rfl (lv_at hl 0 rfl) ?_
    refine va_get (D := D) (ci := 3) (v := .ref pi) (C := RX3) (T := TX3) (N := 8) hx hb hts iw_X3_count_3 hown hK hP 0 rfl rfl 1 (by decide) (hts _ wd_X3_count_1) (fun _ h9 => h9) rfl dX3_count_53 ?_
    refine cc_i (wc := [(pi, .inr (1, [.ref k0, .ref k1, .ref k2, .ref k3, .ref k4, .ref k5, .ref k6, .ref k7, .int num])), (k5, .inl (cI, 10, .inl p5))]) (wr := [(x, .inr (3, [.ref cu, .ref pi, .ref sq, .ref fo, .ref bo, .int gl, .int td, .int le])), (cu, .inr (0, [.ref a0, .ref a1, .ref a2, .ref a3, .ref a4, .ref a5, .int bw, .int pts]))]) (va_runVN (As := []) (rest := []) ⟨hx, hb, hml, hown, hts⟩ (c_X1_howManyPoured l D cI cQ s.heap.size pi k5 k0 k1 k2 k3 k4 k6 k7 num p5 (pf_X3_count_1 num w hn0 hn1 c_1 c_2) (pf_X3_count_2 num w hn0 hn1 c_1 c_2)) ⟨va_cnB 0 hts gX3_count_X1_howManyPoured_n198 rfl rfl rfl (nwM_198 hN) (hts _ wd_X3_count_7) (by decide +kernel) ⟨Nat.le_of_ble_eq_true rfl, Nat.le_of_ble_eq_true rfl⟩, (hts _ wd_X3_count_6), (hts _ wd_X3_count_8)⟩ (preV (wc := [(pi, .inr (1, [.ref k0, .ref k1, .ref k2, .ref k3, .ref k4, .ref k5, .ref k6, .ref k7, .int num])), (k5, .inl (cI, 10, .inl p5))]) (ci := 1) (q0 := 2) hK hP hD hN [2, 3] rfl (by decide) rfl rfl) rfl rfl hl.1 rfl (lv_room (Nat.le_of_ble_eq_true rfl)) dX3_count_56 ⟨Nat.le_of_ble_eq_true rfl, Nat.le_of_ble_eq_true rfl⟩) hP hD hS hA [2, 3] [0, 1] rfl rfl (by decide) (by decide) (fun r_3 u H locs w_4 hP hD hS => ?_)
    have hP : va_P D vwCl [(x, .inr (3, [.ref cu, .ref pi, .ref sq, .ref fo, .ref bo, .int gl, .int td, .int le])), (cu, .inr (0, [.ref a0, .ref a1, .ref a2, .ref a3, .ref a4, .ref a5, .int bw, .int pts])), (pi, .inr (1, [.ref k0, .ref k1, .ref k2, .ref k3, .ref k4, .ref k5, .ref k6, .ref k7, .int num])), (k5, .inl (cI, 10, .inl p5))] H := hP
    have hD : va_D A [(x, .inr (3, [.ref cu, .ref pi, .ref sq, .ref fo, .ref bo, .int gl, .int td, .int le])), (cu, .inr (0, [.ref a0, .ref a1, .ref a2, .ref a3, .ref a4, .ref a5, .int bw, .int pts])), (pi, .inr (1, [.ref k0, .ref k1, .ref k2, .ref k3, .ref k4, .ref k5, .ref k6, .ref k7, .int num])), (k5, .inl (cI, 10, .inl p5))] := hD
    refine W.widen (k := 0) (n := 0) (Nat.le_of_ble_eq_true rfl) (Nat.le_of_ble_eq_true rfl) ?_
    exact fi_i () hx hb hr hlocks hK (hP.sub [0, 1, 2, 3] rfl) (hD.sub [0, 1, 2, 3] (by decide) rfl) hS trivial dX3_count_59
  by_cases c_5 : w = 2
  · refine lv_tableIn (off := 59) (tgt := 60) hx hb dX3_count_1 (by rw [c_5]; decide) (by rw [c_5]; decide) (by rw [c_5]; rfl) (by decide) ?_
    refine lv_aload_n hx hb dX3_count_60 rfl (lv_at hl 0 rfl) ?_
    refine va_get (D := D) (ci := 3) (v := .int td) (C := RX3) (T := TX3) (N := 8) hx hb hts iw_X3_count_3 hown hK hP 0 rfl rfl 6 (by decide) (hts _ wd_X3_count_2) (fun _ h9 => h9) rfl dX3_count_61 ?_
    refine W.widen (k := 0) (n := 0) (Nat.le_of_ble_eq_true rfl) (Nat.le_of_ble_eq_true rfl) ?_
    exact fi_i () hx hb hr hlocks hK (hP.sub [0, 1, 2, 3] rfl) (hD.sub [0, 1, 2, 3] (by decide) rfl) hS trivial dX3_count_64
  by_cases c_6 : w = 3
  · refine lv_tableIn (off := 64) (tgt := 65) hx hb dX3_count_1 (by rw [c_6]; decide) (by rw [c_6]; decide) (by rw [c_6]; rfl) (by decide) ?_
    refine lv_aload_n hx hb dX3_count_65 rfl (lv_at hl 0 rfl) ?_
    refine va_get (D := D) (ci := 3) (v := .ref cu) (C := RX3) (T := TX3) (N := 8) hx hb hts iw_X3_count_3 hown hK hP 0 rfl rfl 0 (by decide) (hts _ wd_X3_count_3) (fun _ h9 => h9) rfl dX3_count_66 ?_
    refine va_getN (D := D) (ci := 0) (v := .int pts) (C := RX0) (T := TX0) (N := 8) hx hb hts iw_X3_count_0 hown hK hP 1 rfl rfl 7 (by decide) (va_Nw.use rfl (nwF_98 hN)) (fun _ h9 => h9) rfl dX3_count_69 ?_
    refine W.widen (k := 0) (n := 0) (Nat.le_of_ble_eq_true rfl) (Nat.le_of_ble_eq_true rfl) ?_
    exact fi_i () hx hb hr hlocks hK (hP.sub [0, 1, 2, 3] rfl) (hD.sub [0, 1, 2, 3] (by decide) rfl) hS trivial dX3_count_72
  by_cases c_7 : w = 4
  · refine lv_tableIn (off := 72) (tgt := 73) hx hb dX3_count_1 (by rw [c_7]; decide) (by rw [c_7]; decide) (by rw [c_7]; rfl) (by decide) ?_
    refine lv_aload_n hx hb dX3_count_73 rfl (lv_at hl 0 rfl) ?_
    refine va_get (D := D) (ci := 3) (v := .int gl) (C := RX3) (T := TX3) (N := 8) hx hb hts iw_X3_count_3 hown hK hP 0 rfl rfl 5 (by decide) (hts _ wd_X3_count_4) (fun _ h9 => h9) rfl dX3_count_74 ?_
    refine W.widen (k := 0) (n := 0) (Nat.le_of_ble_eq_true rfl) (Nat.le_of_ble_eq_true rfl) ?_
    exact fi_i () hx hb hr hlocks hK (hP.sub [0, 1, 2, 3] rfl) (hD.sub [0, 1, 2, 3] (by decide) rfl) hS trivial dX3_count_77
  by_cases c_8 : w = 5
  · refine lv_tableIn (off := 77) (tgt := 78) hx hb dX3_count_1 (by rw [c_8]; decide) (by rw [c_8]; decide) (by rw [c_8]; rfl) (by decide) ?_
    refine lv_aload_n hx hb dX3_count_78 rfl (lv_at hl 0 rfl) ?_
    refine va_get (D := D) (ci := 3) (v := .ref cu) (C := RX3) (T := TX3) (N := 8) hx hb hts iw_X3_count_3 hown hK hP 0 rfl rfl 0 (by decide) (hts _ wd_X3_count_3) (fun _ h9 => h9) rfl dX3_count_79 ?_
    refine va_getN (D := D) (ci := 0) (v := .int bw) (C := RX0) (T := TX0) (N := 8) hx hb hts iw_X3_count_0 hown hK hP 1 rfl rfl 6 (by decide) (va_Nw.use rfl (nwF_92 hN)) (fun _ h9 => h9) rfl dX3_count_82 ?_
    refine W.widen (k := 0) (n := 0) (Nat.le_of_ble_eq_true rfl) (Nat.le_of_ble_eq_true rfl) ?_
    exact fi_i () hx hb hr hlocks hK (hP.sub [0, 1, 2, 3] rfl) (hD.sub [0, 1, 2, 3] (by decide) rfl) hS trivial dX3_count_85
  by_cases c_9 : w = 6
  · refine lv_tableIn (off := 85) (tgt := 86) hx hb dX3_count_1 (by rw [c_9]; decide) (by rw [c_9]; decide) (by rw [c_9]; rfl) (by decide) ?_
    refine lv_aload_n hx hb dX3_count_86 rfl (lv_at hl 0 rfl) ?_
    refine va_get (D := D) (ci := 3) (v := .int le) (C := RX3) (T := TX3) (N := 8) hx hb hts iw_X3_count_3 hown hK hP 0 rfl rfl 7 (by decide) (hts _ wd_X3_count_5) (fun _ h9 => h9) rfl dX3_count_87 ?_
    refine W.widen (k := 0) (n := 0) (Nat.le_of_ble_eq_true rfl) (Nat.le_of_ble_eq_true rfl) ?_
    exact fi_i () hx hb hr hlocks hK (hP.sub [0, 1, 2, 3] rfl) (hD.sub [0, 1, 2, 3] (by decide) rfl) hS trivial dX3_count_90
  refine lv_tableOut (tgt := 91) hx hb dX3_count_1 (pf_X3_count_3 num w hn0 hn1 c_1 c_2 c_5 c_6 c_7 c_8 c_9) (by decide) ?_
  refine lv_iconst (v := (-1)) hx hb dX3_count_91 (by decide) ?_
  refine W.widen (k := 0) (n := 0) (Nat.le_of_ble_eq_true rfl) (Nat.le_of_ble_eq_true rfl) ?_
  exact fi_i () hx hb hr hlocks hK (hP.sub [0, 1, 2, 3] rfl) (hD.sub [0, 1, 2, 3] (by decide) rfl) hS trivial dX3_count_92

theorem iw_X3_borne_1 : ∀ w ∈ wsX10, w ∈ wsX3_borne := fun w h => (List.mem_cons_of_mem _ (List.mem_append_left _ (List.mem_append_right _ h)))
theorem iw_X3_borne_3 : ∀ w ∈ wsX30, w ∈ wsX3_borne := fun w h => (List.mem_cons_of_mem _ (List.mem_append_left _ (List.mem_append_left _ (List.mem_append_right _ h))))
theorem wd_X3_borne_1 : (.fieldLink RX3 21 "PourPlan" "pieces" "LPourPlan$Pieces;" : Cond) ∈ wsX3_borne := List.mem_of_getElem? (i := 1) rfl
theorem wd_X3_borne_2 : (.constantLong RX3 182 (-9223372036854775808) : Cond) ∈ wsX3_borne := List.mem_of_getElem? (i := 2) rfl
theorem wd_X3_borne_3 : (.fieldLink RX3 14 "PourPlan" "curing" "LPourPlan$Curing;" : Cond) ∈ wsX3_borne := List.mem_of_getElem? (i := 3) rfl
theorem wd_X3_borne_4 : (.instanceMethod yX1_has : Cond) ∈ wsX3_borne := List.mem_of_getElem? (i := 4) rfl
theorem wd_X3_borne_5 : (.initialized RX1 : Cond) ∈ wsX3_borne := List.mem_of_getElem? (i := 5) rfl
theorem wd_X3_borne_6 : (.selects RX1 yX1_has yX1_has : Cond) ∈ wsX3_borne := List.mem_of_getElem? (i := 6) rfl
theorem wd_X3_borne_16 : (.instanceMethod yX1_standsOn : Cond) ∈ wsX3_borne := List.mem_of_getElem? (i := 16) rfl
theorem wd_X3_borne_17 : (.selects RX1 yX1_standsOn yX1_standsOn : Cond) ∈ wsX3_borne := List.mem_of_getElem? (i := 17) rfl
theorem wd_X3_borne_20 : (.instanceMethod yX0_hardnessOn : Cond) ∈ wsX3_borne := List.mem_of_getElem? (i := 20) rfl
theorem wd_X3_borne_21 : (.initialized RX0 : Cond) ∈ wsX3_borne := List.mem_of_getElem? (i := 21) rfl
theorem wd_X3_borne_22 : (.selects RX0 yX0_hardnessOn yX0_hardnessOn : Cond) ∈ wsX3_borne := List.mem_of_getElem? (i := 22) rfl
set_option maxHeartbeats 1000000 in
theorem pf_X3_borne_1 (fs : Nat → Int32) (num : Int32) (a : Int32) (day : Int32) (pa : Int32) (r_1 : Int32) (r_5 : Int32) (r_9 : Int32) (hn0 : 0 ≤ num) (hn1 : num ≤ 10) (hs : okS fs) (w_2 : r_1 = bHas a num) (c_4 : ¬ r_1 = 0) (w_6 : r_5 = bIn day 0 39) (c_8 : ¬ r_5 = 0) (w_10 : r_9 = bIn pa (0 : Int32) (1 : Int32)) (c_12 : ¬ r_9 = 0) : vp_in a 10 := by
  exact vi_in (M := 10) rfl (by grind [bHas, bIn]) (by grind [bHas, bIn])
set_option maxHeartbeats 1000000 in
theorem pf_X3_borne_2 (fs : Nat → Int32) (num : Int32) (p0 : Nat → Int32) (a : Int32) (day : Int32) (pa : Int32) (r_1 : Int32) (r_5 : Int32) (r_9 : Int32) (v_13 : Int32) (hn0 : 0 ≤ num) (hn1 : num ≤ 10) (hs : okS fs) (w_2 : r_1 = bHas a num) (c_4 : ¬ r_1 = 0) (w_6 : r_5 = bIn day 0 39) (c_8 : ¬ r_5 = 0) (w_10 : r_9 = bIn pa (0 : Int32) (1 : Int32)) (c_12 : ¬ r_9 = 0) (ev_13 : v_13 = p0 a.toNatClampNeg) (c_14 : v_13 = 0) : vp_in a 10 := by
  exact vi_in (M := 10) rfl (by grind [bHas]) (by grind [bHas])
set_option maxHeartbeats 1000000 in
theorem pf_X3_borne_3 (fs : Nat → Int32) (num : Int32) (p0 : Nat → Int32) (p5 : Nat → Int32) (a : Int32) (day : Int32) (pa : Int32) (r_1 : Int32) (r_5 : Int32) (r_9 : Int32) (v_13 : Int32) (r_15 : Int32) (hn0 : 0 ≤ num) (hn1 : num ≤ 10) (hs : okS fs) (w_2 : r_1 = bHas a num) (c_4 : ¬ r_1 = 0) (w_6 : r_5 = bIn day 0 39) (c_8 : ¬ r_5 = 0) (w_10 : r_9 = bIn pa (0 : Int32) (1 : Int32)) (c_12 : ¬ r_9 = 0) (ev_13 : v_13 = p0 a.toNatClampNeg) (c_14 : v_13 = 0) (w_16 : r_15 = bSt (p5 a.toNatClampNeg) day) (c_18 : ¬ r_15 = 0) : vp_in a 10 := by
  exact vi_in (M := 10) rfl (by grind [bHas, bIn]) (by grind [bHas, bIn])
set_option maxHeartbeats 1000000 in
theorem pf_X3_borne_4 (fs : Nat → Int32) (num : Int32) (p0 : Nat → Int32) (p2 : Nat → Int32) (p5 : Nat → Int32) (a : Int32) (day : Int32) (pa : Int32) (r_1 : Int32) (r_5 : Int32) (r_9 : Int32) (v_13 : Int32) (r_15 : Int32) (v_19 : Int32) (l_20 : Int64) (hn0 : 0 ≤ num) (hn1 : num ≤ 10) (hs : okS fs) (w_2 : r_1 = bHas a num) (c_4 : ¬ r_1 = 0) (w_6 : r_5 = bIn day 0 39) (c_8 : ¬ r_5 = 0) (w_10 : r_9 = bIn pa (0 : Int32) (1 : Int32)) (c_12 : ¬ r_9 = 0) (ev_13 : v_13 = p0 a.toNatClampNeg) (c_14 : v_13 = 0) (w_16 : r_15 = bSt (p5 a.toNatClampNeg) day) (c_18 : ¬ r_15 = 0) (ev_19 : v_19 = p2 a.toNatClampNeg) (el_20 : l_20 = (v_19).toInt64) : vp_in a 10 := by
  exact vi_in (M := 10) rfl (by grind [bHas, bIn]) (by grind [bHas, bIn])
set_option maxHeartbeats 1000000 in
theorem pf_X3_borne_5 (pts : Int32) (fd : Nat → Int32) (fh : Nat → Int32) (fg : Nat → Int32) (fs : Nat → Int32) (num : Int32) (p0 : Nat → Int32) (p2 : Nat → Int32) (p5 : Nat → Int32) (a : Int32) (day : Int32) (pa : Int32) (r_1 : Int32) (r_5 : Int32) (r_9 : Int32) (v_13 : Int32) (r_15 : Int32) (v_19 : Int32) (l_20 : Int64) (v_21 : Int32) (r_22 : Int32) (n_96 : Nat) (ku : Int32) (r_26 : Int64) (v_28 : Int32) (hn0 : 0 ≤ num) (hn1 : num ≤ 10) (hs : okS fs) (w_2 : r_1 = bHas a num) (c_4 : ¬ r_1 = 0) (w_6 : r_5 = bIn day 0 39) (c_8 : ¬ r_5 = 0) (w_10 : r_9 = bIn pa (0 : Int32) (1 : Int32)) (c_12 : ¬ r_9 = 0) (ev_13 : v_13 = p0 a.toNatClampNeg) (c_14 : v_13 = 0) (w_16 : r_15 = bSt (p5 a.toNatClampNeg) day) (c_18 : ¬ r_15 = 0) (ev_19 : v_19 = p2 a.toNatClampNeg) (el_20 : l_20 = (v_19).toInt64) (ev_21 : v_21 = p5 a.toNatClampNeg) (w_23 : r_22 = hon fd fh fg pts v_21 day) (hn_96 : 3 - ku.toNatClampNeg < n_96 + 1) (hku : 1 ≤ ku) (c_25 : 2 < ku) (ev_28 : v_28 = lg_cmp r_26 0) (c_29 : ¬ v_28 = 0) (c_30 : ¬ pa = 0) : ¬ r_26 = 0 := by
  intro h9
  subst_vars
  simp [lg_cmp] at *
set_option maxHeartbeats 1000000 in
theorem pf_X3_borne_6 (pts : Int32) (fd : Nat → Int32) (fh : Nat → Int32) (fg : Nat → Int32) (fs : Nat → Int32) (num : Int32) (p0 : Nat → Int32) (p2 : Nat → Int32) (p5 : Nat → Int32) (a : Int32) (day : Int32) (pa : Int32) (r_1 : Int32) (r_5 : Int32) (r_9 : Int32) (v_13 : Int32) (r_15 : Int32) (v_19 : Int32) (l_20 : Int64) (v_21 : Int32) (r_22 : Int32) (n_96 : Nat) (ku : Int32) (r_26 : Int64) (v_28 : Int32) (hn0 : 0 ≤ num) (hn1 : num ≤ 10) (hs : okS fs) (w_2 : r_1 = bHas a num) (c_4 : ¬ r_1 = 0) (w_6 : r_5 = bIn day 0 39) (c_8 : ¬ r_5 = 0) (w_10 : r_9 = bIn pa (0 : Int32) (1 : Int32)) (c_12 : ¬ r_9 = 0) (ev_13 : v_13 = p0 a.toNatClampNeg) (c_14 : v_13 = 0) (w_16 : r_15 = bSt (p5 a.toNatClampNeg) day) (c_18 : ¬ r_15 = 0) (ev_19 : v_19 = p2 a.toNatClampNeg) (el_20 : l_20 = (v_19).toInt64) (ev_21 : v_21 = p5 a.toNatClampNeg) (w_23 : r_22 = hon fd fh fg pts v_21 day) (hn_96 : 3 - ku.toNatClampNeg < n_96 + 1) (hku : 1 ≤ ku) (c_25 : 2 < ku) (ev_28 : v_28 = lg_cmp r_26 0) (c_29 : ¬ v_28 = 0) (c_30 : pa = 0) : ¬ r_26 = 0 := by
  intro h9
  subst_vars
  simp [lg_cmp] at *
set_option maxHeartbeats 1000000 in
theorem pf_X3_borne_7 (pts : Int32) (fd : Nat → Int32) (fh : Nat → Int32) (fg : Nat → Int32) (fs : Nat → Int32) (num : Int32) (p0 : Nat → Int32) (p2 : Nat → Int32) (p5 : Nat → Int32) (a : Int32) (day : Int32) (pa : Int32) (r_1 : Int32) (r_5 : Int32) (r_9 : Int32) (v_13 : Int32) (r_15 : Int32) (v_19 : Int32) (l_20 : Int64) (v_21 : Int32) (r_22 : Int32) (n_96 : Nat) (ku : Int32) (hn0 : 0 ≤ num) (hn1 : num ≤ 10) (hs : okS fs) (w_2 : r_1 = bHas a num) (c_4 : ¬ r_1 = 0) (w_6 : r_5 = bIn day 0 39) (c_8 : ¬ r_5 = 0) (w_10 : r_9 = bIn pa (0 : Int32) (1 : Int32)) (c_12 : ¬ r_9 = 0) (ev_13 : v_13 = p0 a.toNatClampNeg) (c_14 : v_13 = 0) (w_16 : r_15 = bSt (p5 a.toNatClampNeg) day) (c_18 : ¬ r_15 = 0) (ev_19 : v_19 = p2 a.toNatClampNeg) (el_20 : l_20 = (v_19).toInt64) (ev_21 : v_21 = p5 a.toNatClampNeg) (w_23 : r_22 = hon fd fh fg pts v_21 day) (hn_96 : 3 - ku.toNatClampNeg < n_96 + 1) (hku : 1 ≤ ku) (c_25 : ¬ 2 < ku) : vp_in a 10 := by
  exact vi_in (M := 10) rfl (by grind [bHas, bIn]) (by grind [bHas, bIn])
set_option maxHeartbeats 1000000 in
theorem pf_X3_borne_8 (pts : Int32) (fd : Nat → Int32) (fh : Nat → Int32) (fg : Nat → Int32) (fs : Nat → Int32) (num : Int32) (p0 : Nat → Int32) (p1 : Nat → Int32) (p2 : Nat → Int32) (p5 : Nat → Int32) (a : Int32) (day : Int32) (pa : Int32) (r_1 : Int32) (r_5 : Int32) (r_9 : Int32) (v_13 : Int32) (r_15 : Int32) (v_19 : Int32) (l_20 : Int64) (v_21 : Int32) (r_22 : Int32) (n_96 : Nat) (ku : Int32) (v_33 : Int32) (v_34 : Int32) (hn0 : 0 ≤ num) (hn1 : num ≤ 10) (hs : okS fs) (w_2 : r_1 = bHas a num) (c_4 : ¬ r_1 = 0) (w_6 : r_5 = bIn day 0 39) (c_8 : ¬ r_5 = 0) (w_10 : r_9 = bIn pa (0 : Int32) (1 : Int32)) (c_12 : ¬ r_9 = 0) (ev_13 : v_13 = p0 a.toNatClampNeg) (c_14 : v_13 = 0) (w_16 : r_15 = bSt (p5 a.toNatClampNeg) day) (c_18 : ¬ r_15 = 0) (ev_19 : v_19 = p2 a.toNatClampNeg) (el_20 : l_20 = (v_19).toInt64) (ev_21 : v_21 = p5 a.toNatClampNeg) (w_23 : r_22 = hon fd fh fg pts v_21 day) (hn_96 : 3 - ku.toNatClampNeg < n_96 + 1) (hku : 1 ≤ ku) (c_25 : ¬ 2 < ku) (ev_33 : v_33 = p1 a.toNatClampNeg) (ev_34 : v_34 = v_33 + ku) : 0 ≤ num := by
  grind [bHas, bIn]
set_option maxHeartbeats 1000000 in
theorem pf_X3_borne_9 (pts : Int32) (fd : Nat → Int32) (fh : Nat → Int32) (fg : Nat → Int32) (fs : Nat → Int32) (num : Int32) (p0 : Nat → Int32) (p1 : Nat → Int32) (p2 : Nat → Int32) (p5 : Nat → Int32) (a : Int32) (day : Int32) (pa : Int32) (r_1 : Int32) (r_5 : Int32) (r_9 : Int32) (v_13 : Int32) (r_15 : Int32) (v_19 : Int32) (l_20 : Int64) (v_21 : Int32) (r_22 : Int32) (n_96 : Nat) (ku : Int32) (v_33 : Int32) (v_34 : Int32) (hn0 : 0 ≤ num) (hn1 : num ≤ 10) (hs : okS fs) (w_2 : r_1 = bHas a num) (c_4 : ¬ r_1 = 0) (w_6 : r_5 = bIn day 0 39) (c_8 : ¬ r_5 = 0) (w_10 : r_9 = bIn pa (0 : Int32) (1 : Int32)) (c_12 : ¬ r_9 = 0) (ev_13 : v_13 = p0 a.toNatClampNeg) (c_14 : v_13 = 0) (w_16 : r_15 = bSt (p5 a.toNatClampNeg) day) (c_18 : ¬ r_15 = 0) (ev_19 : v_19 = p2 a.toNatClampNeg) (el_20 : l_20 = (v_19).toInt64) (ev_21 : v_21 = p5 a.toNatClampNeg) (w_23 : r_22 = hon fd fh fg pts v_21 day) (hn_96 : 3 - ku.toNatClampNeg < n_96 + 1) (hku : 1 ≤ ku) (c_25 : ¬ 2 < ku) (ev_33 : v_33 = p1 a.toNatClampNeg) (ev_34 : v_34 = v_33 + ku) : num ≤ 10 := by
  grind [bHas, bIn]
set_option maxHeartbeats 1000000 in
theorem pf_X3_borne_10 (pts : Int32) (fd : Nat → Int32) (fh : Nat → Int32) (fg : Nat → Int32) (fs : Nat → Int32) (num : Int32) (p0 : Nat → Int32) (p1 : Nat → Int32) (p2 : Nat → Int32) (p5 : Nat → Int32) (a : Int32) (day : Int32) (pa : Int32) (r_1 : Int32) (r_5 : Int32) (r_9 : Int32) (v_13 : Int32) (r_15 : Int32) (v_19 : Int32) (l_20 : Int64) (v_21 : Int32) (r_22 : Int32) (n_96 : Nat) (ku : Int32) (v_33 : Int32) (v_34 : Int32) (r_35 : Int64) (v_37 : Int32) (v_39 : Int32) (hn0 : 0 ≤ num) (hn1 : num ≤ 10) (hs : okS fs) (w_2 : r_1 = bHas a num) (c_4 : ¬ r_1 = 0) (w_6 : r_5 = bIn day 0 39) (c_8 : ¬ r_5 = 0) (w_10 : r_9 = bIn pa (0 : Int32) (1 : Int32)) (c_12 : ¬ r_9 = 0) (ev_13 : v_13 = p0 a.toNatClampNeg) (c_14 : v_13 = 0) (w_16 : r_15 = bSt (p5 a.toNatClampNeg) day) (c_18 : ¬ r_15 = 0) (ev_19 : v_19 = p2 a.toNatClampNeg) (el_20 : l_20 = (v_19).toInt64) (ev_21 : v_21 = p5 a.toNatClampNeg) (w_23 : r_22 = hon fd fh fg pts v_21 day) (hn_96 : 3 - ku.toNatClampNeg < n_96 + 1) (hku : 1 ≤ ku) (c_25 : ¬ 2 < ku) (ev_33 : v_33 = p1 a.toNatClampNeg) (ev_34 : v_34 = v_33 + ku) (ev_37 : v_37 = lg_cmp r_35 0) (c_38 : v_37 ≤ 0) (ev_39 : v_39 = ku + 1) : 3 - v_39.toNatClampNeg < n_96 := by
  exact ms_dec (L := 3) (k := ku) (by grind) (show ¬ (3 : Int32) ≤ ku by grind) (by omega) (by assumption) hn_96
set_option maxHeartbeats 1000000 in
theorem pf_X3_borne_11 (pts : Int32) (fd : Nat → Int32) (fh : Nat → Int32) (fg : Nat → Int32) (fs : Nat → Int32) (num : Int32) (p0 : Nat → Int32) (p1 : Nat → Int32) (p2 : Nat → Int32) (p5 : Nat → Int32) (a : Int32) (day : Int32) (pa : Int32) (r_1 : Int32) (r_5 : Int32) (r_9 : Int32) (v_13 : Int32) (r_15 : Int32) (v_19 : Int32) (l_20 : Int64) (v_21 : Int32) (r_22 : Int32) (n_96 : Nat) (ku : Int32) (v_33 : Int32) (v_34 : Int32) (r_35 : Int64) (v_37 : Int32) (v_39 : Int32) (hn0 : 0 ≤ num) (hn1 : num ≤ 10) (hs : okS fs) (w_2 : r_1 = bHas a num) (c_4 : ¬ r_1 = 0) (w_6 : r_5 = bIn day 0 39) (c_8 : ¬ r_5 = 0) (w_10 : r_9 = bIn pa (0 : Int32) (1 : Int32)) (c_12 : ¬ r_9 = 0) (ev_13 : v_13 = p0 a.toNatClampNeg) (c_14 : v_13 = 0) (w_16 : r_15 = bSt (p5 a.toNatClampNeg) day) (c_18 : ¬ r_15 = 0) (ev_19 : v_19 = p2 a.toNatClampNeg) (el_20 : l_20 = (v_19).toInt64) (ev_21 : v_21 = p5 a.toNatClampNeg) (w_23 : r_22 = hon fd fh fg pts v_21 day) (hn_96 : 3 - ku.toNatClampNeg < n_96 + 1) (hku : 1 ≤ ku) (c_25 : ¬ 2 < ku) (ev_33 : v_33 = p1 a.toNatClampNeg) (ev_34 : v_34 = v_33 + ku) (ev_37 : v_37 = lg_cmp r_35 0) (c_38 : v_37 ≤ 0) (ev_39 : v_39 = ku + 1) : 1 ≤ v_39 := by
  grind [bHas, bIn]
set_option maxHeartbeats 1000000 in
theorem pf_X3_borne_12 (pts : Int32) (fd : Nat → Int32) (fh : Nat → Int32) (fg : Nat → Int32) (fs : Nat → Int32) (num : Int32) (p0 : Nat → Int32) (p1 : Nat → Int32) (p2 : Nat → Int32) (p5 : Nat → Int32) (a : Int32) (day : Int32) (pa : Int32) (r_1 : Int32) (r_5 : Int32) (r_9 : Int32) (v_13 : Int32) (r_15 : Int32) (v_19 : Int32) (l_20 : Int64) (v_21 : Int32) (r_22 : Int32) (n_96 : Nat) (ku : Int32) (kA : Int64) (v_33 : Int32) (v_34 : Int32) (r_35 : Int64) (v_37 : Int32) (l_40 : Int64) (hn0 : 0 ≤ num) (hn1 : num ≤ 10) (hs : okS fs) (w_2 : r_1 = bHas a num) (c_4 : ¬ r_1 = 0) (w_6 : r_5 = bIn day 0 39) (c_8 : ¬ r_5 = 0) (w_10 : r_9 = bIn pa (0 : Int32) (1 : Int32)) (c_12 : ¬ r_9 = 0) (ev_13 : v_13 = p0 a.toNatClampNeg) (c_14 : v_13 = 0) (w_16 : r_15 = bSt (p5 a.toNatClampNeg) day) (c_18 : ¬ r_15 = 0) (ev_19 : v_19 = p2 a.toNatClampNeg) (el_20 : l_20 = (v_19).toInt64) (ev_21 : v_21 = p5 a.toNatClampNeg) (w_23 : r_22 = hon fd fh fg pts v_21 day) (hn_96 : 3 - ku.toNatClampNeg < n_96 + 1) (hku : 1 ≤ ku) (c_25 : ¬ 2 < ku) (ev_33 : v_33 = p1 a.toNatClampNeg) (ev_34 : v_34 = v_33 + ku) (ev_37 : v_37 = lg_cmp r_35 0) (c_38 : ¬ v_37 ≤ 0) (el_40 : l_40 = kA * r_35) : 0 ≤ num := by
  grind [bHas, bIn]
set_option maxHeartbeats 1000000 in
theorem pf_X3_borne_13 (pts : Int32) (fd : Nat → Int32) (fh : Nat → Int32) (fg : Nat → Int32) (fs : Nat → Int32) (num : Int32) (p0 : Nat → Int32) (p1 : Nat → Int32) (p2 : Nat → Int32) (p5 : Nat → Int32) (a : Int32) (day : Int32) (pa : Int32) (r_1 : Int32) (r_5 : Int32) (r_9 : Int32) (v_13 : Int32) (r_15 : Int32) (v_19 : Int32) (l_20 : Int64) (v_21 : Int32) (r_22 : Int32) (n_96 : Nat) (ku : Int32) (kA : Int64) (v_33 : Int32) (v_34 : Int32) (r_35 : Int64) (v_37 : Int32) (l_40 : Int64) (hn0 : 0 ≤ num) (hn1 : num ≤ 10) (hs : okS fs) (w_2 : r_1 = bHas a num) (c_4 : ¬ r_1 = 0) (w_6 : r_5 = bIn day 0 39) (c_8 : ¬ r_5 = 0) (w_10 : r_9 = bIn pa (0 : Int32) (1 : Int32)) (c_12 : ¬ r_9 = 0) (ev_13 : v_13 = p0 a.toNatClampNeg) (c_14 : v_13 = 0) (w_16 : r_15 = bSt (p5 a.toNatClampNeg) day) (c_18 : ¬ r_15 = 0) (ev_19 : v_19 = p2 a.toNatClampNeg) (el_20 : l_20 = (v_19).toInt64) (ev_21 : v_21 = p5 a.toNatClampNeg) (w_23 : r_22 = hon fd fh fg pts v_21 day) (hn_96 : 3 - ku.toNatClampNeg < n_96 + 1) (hku : 1 ≤ ku) (c_25 : ¬ 2 < ku) (ev_33 : v_33 = p1 a.toNatClampNeg) (ev_34 : v_34 = v_33 + ku) (ev_37 : v_37 = lg_cmp r_35 0) (c_38 : ¬ v_37 ≤ 0) (el_40 : l_40 = kA * r_35) : num ≤ 10 := by
  grind [bHas, bIn]
set_option maxHeartbeats 1000000 in
theorem pf_X3_borne_14 (pts : Int32) (fd : Nat → Int32) (fh : Nat → Int32) (fg : Nat → Int32) (fs : Nat → Int32) (num : Int32) (p0 : Nat → Int32) (p1 : Nat → Int32) (p2 : Nat → Int32) (p5 : Nat → Int32) (a : Int32) (day : Int32) (pa : Int32) (r_1 : Int32) (r_5 : Int32) (r_9 : Int32) (v_13 : Int32) (r_15 : Int32) (v_19 : Int32) (l_20 : Int64) (v_21 : Int32) (r_22 : Int32) (n_96 : Nat) (ku : Int32) (kA : Int64) (v_33 : Int32) (v_34 : Int32) (r_35 : Int64) (v_37 : Int32) (l_40 : Int64) (hn0 : 0 ≤ num) (hn1 : num ≤ 10) (hs : okS fs) (w_2 : r_1 = bHas a num) (c_4 : ¬ r_1 = 0) (w_6 : r_5 = bIn day 0 39) (c_8 : ¬ r_5 = 0) (w_10 : r_9 = bIn pa (0 : Int32) (1 : Int32)) (c_12 : ¬ r_9 = 0) (ev_13 : v_13 = p0 a.toNatClampNeg) (c_14 : v_13 = 0) (w_16 : r_15 = bSt (p5 a.toNatClampNeg) day) (c_18 : ¬ r_15 = 0) (ev_19 : v_19 = p2 a.toNatClampNeg) (el_20 : l_20 = (v_19).toInt64) (ev_21 : v_21 = p5 a.toNatClampNeg) (w_23 : r_22 = hon fd fh fg pts v_21 day) (hn_96 : 3 - ku.toNatClampNeg < n_96 + 1) (hku : 1 ≤ ku) (c_25 : ¬ 2 < ku) (ev_33 : v_33 = p1 a.toNatClampNeg) (ev_34 : v_34 = v_33 + ku) (ev_37 : v_37 = lg_cmp r_35 0) (c_38 : ¬ v_37 ≤ 0) (el_40 : l_40 = kA * r_35) : okS fs := by
  exact hs
set_option maxHeartbeats 1000000 in
theorem pf_X3_borne_15 (pts : Int32) (fd : Nat → Int32) (fh : Nat → Int32) (fg : Nat → Int32) (fs : Nat → Int32) (num : Int32) (p0 : Nat → Int32) (p1 : Nat → Int32) (p2 : Nat → Int32) (p5 : Nat → Int32) (a : Int32) (day : Int32) (pa : Int32) (r_1 : Int32) (r_5 : Int32) (r_9 : Int32) (v_13 : Int32) (r_15 : Int32) (v_19 : Int32) (l_20 : Int64) (v_21 : Int32) (r_22 : Int32) (n_96 : Nat) (ku : Int32) (kA : Int64) (kB : Int64) (v_33 : Int32) (v_34 : Int32) (r_35 : Int64) (v_37 : Int32) (l_40 : Int64) (r_41 : Int64) (l_43 : Int64) (l_44 : Int64) (l_45 : Int64) (l_46 : Int64) (l_47 : Int64) (v_48 : Int32) (hn0 : 0 ≤ num) (hn1 : num ≤ 10) (hs : okS fs) (w_2 : r_1 = bHas a num) (c_4 : ¬ r_1 = 0) (w_6 : r_5 = bIn day 0 39) (c_8 : ¬ r_5 = 0) (w_10 : r_9 = bIn pa (0 : Int32) (1 : Int32)) (c_12 : ¬ r_9 = 0) (ev_13 : v_13 = p0 a.toNatClampNeg) (c_14 : v_13 = 0) (w_16 : r_15 = bSt (p5 a.toNatClampNeg) day) (c_18 : ¬ r_15 = 0) (ev_19 : v_19 = p2 a.toNatClampNeg) (el_20 : l_20 = (v_19).toInt64) (ev_21 : v_21 = p5 a.toNatClampNeg) (w_23 : r_22 = hon fd fh fg pts v_21 day) (hn_96 : 3 - ku.toNatClampNeg < n_96 + 1) (hku : 1 ≤ ku) (c_25 : ¬ 2 < ku) (ev_33 : v_33 = p1 a.toNatClampNeg) (ev_34 : v_34 = v_33 + ku) (ev_37 : v_37 = lg_cmp r_35 0) (c_38 : ¬ v_37 ≤ 0) (el_40 : l_40 = kA * r_35) (el_43 : l_43 = kB * r_41) (el_44 : l_44 = (r_22).toInt64) (el_45 : l_45 = l_43 * l_44) (el_46 : l_46 = l_40 + l_45) (el_47 : l_47 = kB * r_35) (ev_48 : v_48 = ku + 1) : 3 - v_48.toNatClampNeg < n_96 := by
  exact ms_dec (L := 3) (k := ku) (by grind) (show ¬ (3 : Int32) ≤ ku by grind) (by omega) (by assumption) hn_96
set_option maxHeartbeats 1000000 in
theorem pf_X3_borne_16 (pts : Int32) (fd : Nat → Int32) (fh : Nat → Int32) (fg : Nat → Int32) (fs : Nat → Int32) (num : Int32) (p0 : Nat → Int32) (p1 : Nat → Int32) (p2 : Nat → Int32) (p5 : Nat → Int32) (a : Int32) (day : Int32) (pa : Int32) (r_1 : Int32) (r_5 : Int32) (r_9 : Int32) (v_13 : Int32) (r_15 : Int32) (v_19 : Int32) (l_20 : Int64) (v_21 : Int32) (r_22 : Int32) (n_96 : Nat) (ku : Int32) (kA : Int64) (kB : Int64) (v_33 : Int32) (v_34 : Int32) (r_35 : Int64) (v_37 : Int32) (l_40 : Int64) (r_41 : Int64) (l_43 : Int64) (l_44 : Int64) (l_45 : Int64) (l_46 : Int64) (l_47 : Int64) (v_48 : Int32) (hn0 : 0 ≤ num) (hn1 : num ≤ 10) (hs : okS fs) (w_2 : r_1 = bHas a num) (c_4 : ¬ r_1 = 0) (w_6 : r_5 = bIn day 0 39) (c_8 : ¬ r_5 = 0) (w_10 : r_9 = bIn pa (0 : Int32) (1 : Int32)) (c_12 : ¬ r_9 = 0) (ev_13 : v_13 = p0 a.toNatClampNeg) (c_14 : v_13 = 0) (w_16 : r_15 = bSt (p5 a.toNatClampNeg) day) (c_18 : ¬ r_15 = 0) (ev_19 : v_19 = p2 a.toNatClampNeg) (el_20 : l_20 = (v_19).toInt64) (ev_21 : v_21 = p5 a.toNatClampNeg) (w_23 : r_22 = hon fd fh fg pts v_21 day) (hn_96 : 3 - ku.toNatClampNeg < n_96 + 1) (hku : 1 ≤ ku) (c_25 : ¬ 2 < ku) (ev_33 : v_33 = p1 a.toNatClampNeg) (ev_34 : v_34 = v_33 + ku) (ev_37 : v_37 = lg_cmp r_35 0) (c_38 : ¬ v_37 ≤ 0) (el_40 : l_40 = kA * r_35) (el_43 : l_43 = kB * r_41) (el_44 : l_44 = (r_22).toInt64) (el_45 : l_45 = l_43 * l_44) (el_46 : l_46 = l_40 + l_45) (el_47 : l_47 = kB * r_35) (ev_48 : v_48 = ku + 1) : 1 ≤ v_48 := by
  grind [bHas, bIn]
set_option maxHeartbeats 1000000 in
theorem pf_X3_borne_17 (pts : Int32) (fd : Nat → Int32) (fh : Nat → Int32) (fg : Nat → Int32) (fs : Nat → Int32) (num : Int32) (p0 : Nat → Int32) (p2 : Nat → Int32) (p5 : Nat → Int32) (a : Int32) (day : Int32) (pa : Int32) (r_1 : Int32) (r_5 : Int32) (r_9 : Int32) (v_13 : Int32) (r_15 : Int32) (v_19 : Int32) (l_20 : Int64) (v_21 : Int32) (r_22 : Int32) (hn0 : 0 ≤ num) (hn1 : num ≤ 10) (hs : okS fs) (w_2 : r_1 = bHas a num) (c_4 : ¬ r_1 = 0) (w_6 : r_5 = bIn day 0 39) (c_8 : ¬ r_5 = 0) (w_10 : r_9 = bIn pa (0 : Int32) (1 : Int32)) (c_12 : ¬ r_9 = 0) (ev_13 : v_13 = p0 a.toNatClampNeg) (c_14 : v_13 = 0) (w_16 : r_15 = bSt (p5 a.toNatClampNeg) day) (c_18 : ¬ r_15 = 0) (ev_19 : v_19 = p2 a.toNatClampNeg) (el_20 : l_20 = (v_19).toInt64) (ev_21 : v_21 = p5 a.toNatClampNeg) (w_23 : r_22 = hon fd fh fg pts v_21 day) : 1 ≤ (1 : Int32) := by
  grind [bHas, bIn]
set_option maxHeartbeats 4000000 in
set_option maxRecDepth 100000 in
theorem c_X3_borne (l : Launch) (D : va_G) (cI cQ : ClassId) (sz : Nat) (x : Nat) (cu : Nat) (a2 : Nat) (a3 : Nat) (a4 : Nat) (a5 : Nat) (pi : Nat) (k0 : Nat) (k1 : Nat) (k2 : Nat) (k5 : Nat) (sq : Nat) (fo : Nat) (bo : Nat) (gl : Int32) (td : Int32) (le : Int32) (a0 : Nat) (a1 : Nat) (bw : Int32) (pts : Int32) (fd : Nat → Int32) (fh : Nat → Int32) (fg : Nat → Int32) (fs : Nat → Int32) (k3 : Nat) (k4 : Nat) (k6 : Nat) (k7 : Nat) (num : Int32) (p0 : Nat → Int32) (p1 : Nat → Int32) (p2 : Nat → Int32) (p5 : Nat → Int32) (a : Int32) (day : Int32) (pa : Int32) (hn0 : 0 ≤ num) (hn1 : num ≤ 10) (hs : okS fs) : CtL l yX3_borne wsX3_borne 3 74 0 0 [.ref x, .int a, .int day, .int pa] D [(cI, .int), (cQ, .array .int)] [(x, .inr (3, [.ref cu, .ref pi, .ref sq, .ref fo, .ref bo, .int gl, .int td, .int le])), (cu, .inr (0, [.ref a0, .ref a1, .ref a2, .ref a3, .ref a4, .ref a5, .int bw, .int pts])), (a2, .inl (cI, 6, .inl fd)), (a3, .inl (cI, 6, .inl fh)), (a4, .inl (cI, 40, .inl fg)), (a5, .inl (cI, 40, .inl fs)), (pi, .inr (1, [.ref k0, .ref k1, .ref k2, .ref k3, .ref k4, .ref k5, .ref k6, .ref k7, .int num])), (k0, .inl (cI, 10, .inl p0)), (k1, .inl (cI, 10, .inl p1)), (k2, .inl (cI, 10, .inl p2)), (k5, .inl (cI, 10, .inl p5))] sz (fun (r : Int64) (u : Unit) => True) (fun (u : Unit) => [(x, .inr (3, [.ref cu, .ref pi, .ref sq, .ref fo, .ref bo, .int gl, .int td, .int le])), (cu, .inr (0, [.ref a0, .ref a1, .ref a2, .ref a3, .ref a4, .ref a5, .int bw, .int pts])), (a2, .inl (cI, 6, .inl fd)), (a3, .inl (cI, 6, .inl fh)), (a4, .inl (cI, 40, .inl fg)), (a5, .inl (cI, 40, .inl fs)), (pi, .inr (1, [.ref k0, .ref k1, .ref k2, .ref k3, .ref k4, .ref k5, .ref k6, .ref k7, .int num])), (k0, .inl (cI, 10, .inl p0)), (k1, .inl (cI, 10, .inl p1)), (k2, .inl (cI, 10, .inl p2)), (k5, .inl (cI, 10, .inl p5))]) := by
  refine Met.ofW (cc := cX3_borne) (maxL := 13) (ret := (some .long)) (by decide) rfl ?_
  intro p e s m args below meth c s₁ B hml hv
  obtain ⟨rfl, hsz, hP, hK, hD0, hN⟩ := hv
  have hx := B.exec
  have hb := B.bytes
  have hr := B.returns
  have hts := atoms_spec (ws := wsX3_borne) B.pre
  have hown : s.vm.findClass RX3 = some m.cls := findClass_of_methodNamed B.named
  have hlocks := B.notSynchronized
  subst hsz
  have hD := hD0.self (sz := s.heap.size)
  generalize hAe : va_A [(x, .inr (3, [.ref cu, .ref pi, .ref sq, .ref fo, .ref bo, .int gl, .int td, .int le])), (cu, .inr (0, [.ref a0, .ref a1, .ref a2, .ref a3, .ref a4, .ref a5, .int bw, .int pts])), (a2, .inl (cI, 6, .inl fd)), (a3, .inl (cI, 6, .inl fh)), (a4, .inl (cI, 40, .inl fg)), (a5, .inl (cI, 40, .inl fs)), (pi, .inr (1, [.ref k0, .ref k1, .ref k2, .ref k3, .ref k4, .ref k5, .ref k6, .ref k7, .int num])), (k0, .inl (cI, 10, .inl p0)), (k1, .inl (cI, 10, .inl p1)), (k2, .inl (cI, 10, .inl p2)), (k5, .inl (cI, 10, .inl p5))] s.heap.size = A at hD ⊢
  have hA : ∀ q : Nat, s.heap.size ≤ q → A q := fun q h => by rw [← hAe]; exact Or.inr h
  have hS : va_S A s.heap s.heap [] := va_S.rf
  have hl := lv_entry ([.ref x, .int a, .int day, .int pa]) (n := 13) (Nat.le_of_ble_eq_true rfl)
  rw [lg_entry_eq]
  generalize (lg_sl ([.ref x, .int a, .int day, .int pa]) ++ List.replicate (13 - (lg_sl ([.ref x, .int a, .int day, .int pa])).length) Slot.unset).toArray = ls at hl ⊢
  have hl : lv_has ls 13 [(0, .ref x), (1, .int a), (2, .int day), (3, .int pa)] := hl
  refine W_gen (fun GW hIn hOut => ?_)
  refine hIn _ _ _ _ _ ?_
  have hP0 := hP
  refine lv_aload_n hx hb dX3_borne_0 rfl (lv_at hl 0 rfl) ?_
  refine va_get (D := D) (ci := 3) (v := .ref pi) (C := RX3) (T := TX3) (N := 8) hx hb hts iw_X3_borne_3 hown hK hP 0 rfl rfl 1 (by decide) (hts _ wd_X3_borne_1) (fun _ h9 => h9) rfl dX3_borne_1 ?_
  refine lv_iload_n hx hb dX3_borne_4 rfl (lv_at hl 1 rfl) ?_
  refine cc_i (wc := [(pi, .inr (1, [.ref k0, .ref k1, .ref k2, .ref k3, .ref k4, .ref k5, .ref k6, .ref k7, .int num]))]) (wr := [(x, .inr (3, [.ref cu, .ref pi, .ref sq, .ref fo, .ref bo, .int gl, .int td, .int le])), (cu, .inr (0, [.ref a0, .ref a1, .ref a2, .ref a3, .ref a4, .ref a5, .int bw, .int pts])), (a2, .inl (cI, 6, .inl fd)), (a3, .inl (cI, 6, .inl fh)), (a4, .inl (cI, 40, .inl fg)), (a5, .inl (cI, 40, .inl fs)), (k0, .inl (cI, 10, .inl p0)), (k1, .inl (cI, 10, .inl p1)), (k2, .inl (cI, 10, .inl p2)), (k5, .inl (cI, 10, .inl p5))]) (va_runVN (As := [.int a]) (rest := []) ⟨hx, hb, hml, hown, hts⟩ (c_X1_has l D cI cQ s.heap.size pi k0 k1 k2 k3 k4 k5 k6 k7 num a ) ⟨va_cnB 1 hts gX3_borne_X1_has_n64 rfl rfl rfl (nwM_64 hN) (hts _ wd_X3_borne_5) (by decide +kernel) ⟨Nat.le_of_ble_eq_true rfl, Nat.le_of_ble_eq_true rfl⟩, (hts _ wd_X3_borne_4), (hts _ wd_X3_borne_6)⟩ (preV (wc := [(pi, .inr (1, [.ref k0, .ref k1, .ref k2, .ref k3, .ref k4, .ref k5, .ref k6, .ref k7, .int num]))]) (ci := 1) (q0 := 6) hK hP hD hN [6] rfl (by decide) rfl rfl) rfl rfl hl.1 rfl (lv_room (Nat.le_of_ble_eq_true rfl)) dX3_borne_5 ⟨Nat.le_of_ble_eq_true rfl, Nat.le_of_ble_eq_true rfl⟩) hP hD hS hA [6] [0, 1, 2, 3, 4, 5, 7, 8, 9, 10] rfl rfl (by decide) (by decide) (fun r_1 u H locs w_2 hP hD hS => ?_)
  have hP : va_P D vwCl [(x, .inr (3, [.ref cu, .ref pi, .ref sq, .ref fo, .ref bo, .int gl, .int td, .int le])), (cu, .inr (0, [.ref a0, .ref a1, .ref a2, .ref a3, .ref a4, .ref a5, .int bw, .int pts])), (a2, .inl (cI, 6, .inl fd)), (a3, .inl (cI, 6, .inl fh)), (a4, .inl (cI, 40, .inl fg)), (a5, .inl (cI, 40, .inl fs)), (k0, .inl (cI, 10, .inl p0)), (k1, .inl (cI, 10, .inl p1)), (k2, .inl (cI, 10, .inl p2)), (k5, .inl (cI, 10, .inl p5)), (pi, .inr (1, [.ref k0, .ref k1, .ref k2, .ref k3, .ref k4, .ref k5, .ref k6, .ref k7, .int num]))] H := hP
  have hD : va_D A [(x, .inr (3, [.ref cu, .ref pi, .ref sq, .ref fo, .ref bo, .int gl, .int td, .int le])), (cu, .inr (0, [.ref a0, .ref a1, .ref a2, .ref a3, .ref a4, .ref a5, .int bw, .int pts])), (a2, .inl (cI, 6, .inl fd)), (a3, .inl (cI, 6, .inl fh)), (a4, .inl (cI, 40, .inl fg)), (a5, .inl (cI, 40, .inl fs)), (k0, .inl (cI, 10, .inl p0)), (k1, .inl (cI, 10, .inl p1)), (k2, .inl (cI, 10, .inl p2)), (k5, .inl (cI, 10, .inl p5)), (pi, .inr (1, [.ref k0, .ref k1, .ref k2, .ref k3, .ref k4, .ref k5, .ref k6, .ref k7, .int num]))] := hD
  have w_2 : r_1 = bHas a num := w_2
  refine lv_if_eq (tgt := 27) hx hb dX3_borne_8 (by decide) (fun c_4 => ?_) (fun c_4 => ?_)
  · refine lv_ldc2 hx hb hown (hts _ wd_X3_borne_2) dX3_borne_27 ?_
    refine W.widen (k := 0) (n := 0) (Nat.le_of_ble_eq_true rfl) (Nat.le_of_ble_eq_true rfl) ?_
    exact fi_l () hx hb hr hlocks hK (hP.sub [0, 1, 2, 3, 4, 5, 10, 6, 7, 8, 9] rfl) (hD.sub [0, 1, 2, 3, 4, 5, 10, 6, 7, 8, 9] (by decide) rfl) hS trivial dX3_borne_30
  · refine lv_iload_n hx hb dX3_borne_11 rfl (lv_at hl 2 rfl) ?_
    refine cc_i (wc := []) (wr := [(x, .inr (3, [.ref cu, .ref pi, .ref sq, .ref fo, .ref bo, .int gl, .int td, .int le])), (cu, .inr (0, [.ref a0, .ref a1, .ref a2, .ref a3, .ref a4, .ref a5, .int bw, .int pts])), (a2, .inl (cI, 6, .inl fd)), (a3, .inl (cI, 6, .inl fh)), (a4, .inl (cI, 40, .inl fg)), (a5, .inl (cI, 40, .inl fs)), (k0, .inl (cI, 10, .inl p0)), (k1, .inl (cI, 10, .inl p1)), (k2, .inl (cI, 10, .inl p2)), (k5, .inl (cI, 10, .inl p5)), (pi, .inr (1, [.ref k0, .ref k1, .ref k2, .ref k3, .ref k4, .ref k5, .ref k6, .ref k7, .int num]))]) (va_runS (As := [.int day]) (rest := []) ⟨hx, hb, hml, hown, hts⟩ (c_X3_isDay l D cI cQ H.size day ) (va_cwS 1 hts gX3_borne_X3_isDay rfl rfl rfl (by decide +kernel) ⟨Nat.le_of_ble_eq_true rfl, Nat.le_of_ble_eq_true rfl⟩) (preS (wc := []) hK hP hD hN [] rfl (by decide)) rfl rfl hl.1 rfl (lv_room (Nat.le_of_ble_eq_true rfl)) dX3_borne_12 ⟨Nat.le_of_ble_eq_true rfl, Nat.le_of_ble_eq_true rfl⟩) hP hD hS hA [] [0, 1, 2, 3, 4, 5, 6, 7, 8, 9, 10] rfl rfl (by decide) (by decide) (fun r_5 u H locs w_6 hP hD hS => ?_)
    have hP : va_P D vwCl [(x, .inr (3, [.ref cu, .ref pi, .ref sq, .ref fo, .ref bo, .int gl, .int td, .int le])), (cu, .inr (0, [.ref a0, .ref a1, .ref a2, .ref a3, .ref a4, .ref a5, .int bw, .int pts])), (a2, .inl (cI, 6, .inl fd)), (a3, .inl (cI, 6, .inl fh)), (a4, .inl (cI, 40, .inl fg)), (a5, .inl (cI, 40, .inl fs)), (k0, .inl (cI, 10, .inl p0)), (k1, .inl (cI, 10, .inl p1)), (k2, .inl (cI, 10, .inl p2)), (k5, .inl (cI, 10, .inl p5)), (pi, .inr (1, [.ref k0, .ref k1, .ref k2, .ref k3, .ref k4, .ref k5, .ref k6, .ref k7, .int num]))] H := hP
    have hD : va_D A [(x, .inr (3, [.ref cu, .ref pi, .ref sq, .ref fo, .ref bo, .int gl, .int td, .int le])), (cu, .inr (0, [.ref a0, .ref a1, .ref a2, .ref a3, .ref a4, .ref a5, .int bw, .int pts])), (a2, .inl (cI, 6, .inl fd)), (a3, .inl (cI, 6, .inl fh)), (a4, .inl (cI, 40, .inl fg)), (a5, .inl (cI, 40, .inl fs)), (k0, .inl (cI, 10, .inl p0)), (k1, .inl (cI, 10, .inl p1)), (k2, .inl (cI, 10, .inl p2)), (k5, .inl (cI, 10, .inl p5)), (pi, .inr (1, [.ref k0, .ref k1, .ref k2, .ref k3, .ref k4, .ref k5, .ref k6, .ref k7, .int num]))] := hD
    have w_6 : r_5 = bIn day 0 39 := w_6
    refine lv_if_eq (tgt := 27) hx hb dX3_borne_15 (by decide) (fun c_8 => ?_) (fun c_8 => ?_)
    · refine lv_ldc2 hx hb hown (hts _ wd_X3_borne_2) dX3_borne_27 ?_
      refine W.widen (k := 0) (n := 0) (Nat.le_of_ble_eq_true rfl) (Nat.le_of_ble_eq_true rfl) ?_
      exact fi_l () hx hb hr hlocks hK (hP.sub [0, 1, 2, 3, 4, 5, 10, 6, 7, 8, 9] rfl) (hD.sub [0, 1, 2, 3, 4, 5, 10, 6, 7, 8, 9] (by decide) rfl) hS trivial dX3_borne_30
    · refine lv_iload_n hx hb dX3_borne_18 rfl (lv_at hl 3 rfl) ?_
      refine lv_iconst (v := 0) hx hb dX3_borne_19 (by decide) ?_
      refine lv_iconst (v := 1) hx hb dX3_borne_20 (by decide) ?_
      refine cc_i (wc := []) (wr := [(x, .inr (3, [.ref cu, .ref pi, .ref sq, .ref fo, .ref bo, .int gl, .int td, .int le])), (cu, .inr (0, [.ref a0, .ref a1, .ref a2, .ref a3, .ref a4, .ref a5, .int bw, .int pts])), (a2, .inl (cI, 6, .inl fd)), (a3, .inl (cI, 6, .inl fh)), (a4, .inl (cI, 40, .inl fg)), (a5, .inl (cI, 40, .inl fs)), (k0, .inl (cI, 10, .inl p0)), (k1, .inl (cI, 10, .inl p1)), (k2, .inl (cI, 10, .inl p2)), (k5, .inl (cI, 10, .inl p5)), (pi, .inr (1, [.ref k0, .ref k1, .ref k2, .ref k3, .ref k4, .ref k5, .ref k6, .ref k7, .int num]))]) (va_runS (As := [.int pa, .int 0, .int 1]) (rest := []) ⟨hx, hb, hml, hown, hts⟩ (c_X3_isIn l D cI cQ H.size pa 0 1 ) (va_cwS 3 hts gX3_borne_X3_isIn rfl rfl rfl (by decide +kernel) ⟨Nat.le_of_ble_eq_true rfl, Nat.le_of_ble_eq_true rfl⟩) (preS (wc := []) hK hP hD hN [] rfl (by decide)) rfl rfl hl.1 rfl (lv_room (Nat.le_of_ble_eq_true rfl)) dX3_borne_21 ⟨Nat.le_of_ble_eq_true rfl, Nat.le_of_ble_eq_true rfl⟩) hP hD hS hA [] [0, 1, 2, 3, 4, 5, 6, 7, 8, 9, 10] rfl rfl (by decide) (by decide) (fun r_9 u H locs w_10 hP hD hS => ?_)
      have hP : va_P D vwCl [(x, .inr (3, [.ref cu, .ref pi, .ref sq, .ref fo, .ref bo, .int gl, .int td, .int le])), (cu, .inr (0, [.ref a0, .ref a1, .ref a2, .ref a3, .ref a4, .ref a5, .int bw, .int pts])), (a2, .inl (cI, 6, .inl fd)), (a3, .inl (cI, 6, .inl fh)), (a4, .inl (cI, 40, .inl fg)), (a5, .inl (cI, 40, .inl fs)), (k0, .inl (cI, 10, .inl p0)), (k1, .inl (cI, 10, .inl p1)), (k2, .inl (cI, 10, .inl p2)), (k5, .inl (cI, 10, .inl p5)), (pi, .inr (1, [.ref k0, .ref k1, .ref k2, .ref k3, .ref k4, .ref k5, .ref k6, .ref k7, .int num]))] H := hP
      have hD : va_D A [(x, .inr (3, [.ref cu, .ref pi, .ref sq, .ref fo, .ref bo, .int gl, .int td, .int le])), (cu, .inr (0, [.ref a0, .ref a1, .ref a2, .ref a3, .ref a4, .ref a5, .int bw, .int pts])), (a2, .inl (cI, 6, .inl fd)), (a3, .inl (cI, 6, .inl fh)), (a4, .inl (cI, 40, .inl fg)), (a5, .inl (cI, 40, .inl fs)), (k0, .inl (cI, 10, .inl p0)), (k1, .inl (cI, 10, .inl p1)), (k2, .inl (cI, 10, .inl p2)), (k5, .inl (cI, 10, .inl p5)), (pi, .inr (1, [.ref k0, .ref k1, .ref k2, .ref k3, .ref k4, .ref k5, .ref k6, .ref k7, .int num]))] := hD
      have w_10 : r_9 = bIn pa (0 : Int32) (1 : Int32) := w_10
      refine lv_if_ne (tgt := 31) hx hb dX3_borne_24 (by decide) (fun c_12 => ?_) (fun c_12 => ?_)
      · refine lv_aload_n hx hb dX3_borne_31 rfl (lv_at hl 0 rfl) ?_
        refine va_get (D := D) (ci := 3) (v := .ref pi) (C := RX3) (T := TX3) (N := 8) hx hb hts iw_X3_borne_3 hown hK hP 0 rfl rfl 1 (by decide) (hts _ wd_X3_borne_1) (fun _ h9 => h9) rfl dX3_borne_32 ?_
        refine va_getN (D := D) (ci := 1) (v := .ref k0) (C := RX1) (T := TX1) (N := 9) hx hb hts iw_X3_borne_1 hown hK hP 10 rfl rfl 0 (by decide) (va_Nw.use rfl (nwF_147 hN)) (fun _ h9 => h9) rfl dX3_borne_35 ?_
        refine lv_iload_n hx hb dX3_borne_38 rfl (lv_at hl 1 rfl) ?_
        refine va_iald hx hb hK hP 6 0 rfl rfl (pf_X3_borne_1 fs num a day pa r_1 r_5 r_9 hn0 hn1 hs w_2 c_4 w_6 c_8 w_10 c_12) dX3_borne_39 ?_
        refine lv_topi (fun v_13 ev_13 => ?_)
        refine lv_if_ne (tgt := 55) hx hb dX3_borne_40 (by decide) (fun c_14 => ?_) (fun c_14 => ?_)
        · refine lv_ldc2 hx hb hown (hts _ wd_X3_borne_2) dX3_borne_55 ?_
          refine W.widen (k := 0) (n := 0) (Nat.le_of_ble_eq_true rfl) (Nat.le_of_ble_eq_true rfl) ?_
          exact fi_l () hx hb hr hlocks hK (hP.sub [0, 1, 2, 3, 4, 5, 10, 6, 7, 8, 9] rfl) (hD.sub [0, 1, 2, 3, 4, 5, 10, 6, 7, 8, 9] (by decide) rfl) hS trivial dX3_borne_58
        · refine lv_aload_n hx hb dX3_borne_43 rfl (lv_at hl 0 rfl) ?_
          refine va_get (D := D) (ci := 3) (v := .ref pi) (C := RX3) (T := TX3) (N := 8) hx hb hts iw_X3_borne_3 hown hK hP 0 rfl rfl 1 (by decide) (hts _ wd_X3_borne_1) (fun _ h9 => h9) rfl dX3_borne_44 ?_
          refine lv_iload_n hx hb dX3_borne_47 rfl (lv_at hl 1 rfl) ?_
          refine lv_iload_n hx hb dX3_borne_48 rfl (lv_at hl 2 rfl) ?_
          refine cc_i (wc := [(pi, .inr (1, [.ref k0, .ref k1, .ref k2, .ref k3, .ref k4, .ref k5, .ref k6, .ref k7, .int num])), (k5, .inl (cI, 10, .inl p5))]) (wr := [(x, .inr (3, [.ref cu, .ref pi, .ref sq, .ref fo, .ref bo, .int gl, .int td, .int le])), (cu, .inr (0, [.ref a0, .ref a1, .ref a2, .ref a3, .ref a4, .ref a5, .int bw, .int pts])), (a2, .inl (cI, 6, .inl fd)), (a3, .inl (cI, 6, .inl fh)), (a4, .inl (cI, 40, .inl fg)), (a5, .inl (cI, 40, .inl fs)), (k0, .inl (cI, 10, .inl p0)), (k1, .inl (cI, 10, .inl p1)), (k2, .inl (cI, 10, .inl p2))]) (va_runVN (As := [.int a, .int day]) (rest := []) ⟨hx, hb, hml, hown, hts⟩ (c_X1_standsOn l D cI cQ H.size pi k5 k0 k1 k2 k3 k4 k6 k7 num p5 a day (pf_X3_borne_2 fs num p0 a day pa r_1 r_5 r_9 v_13 hn0 hn1 hs w_2 c_4 w_6 c_8 w_10 c_12 ev_13 c_14)) ⟨va_cnB 2 hts gX3_borne_X1_standsOn_n184 rfl rfl rfl (nwM_184 hN) (hts _ wd_X3_borne_5) (by decide +kernel) ⟨Nat.le_of_ble_eq_true rfl, Nat.le_of_ble_eq_true rfl⟩, (hts _ wd_X3_borne_16), (hts _ wd_X3_borne_17)⟩ (preV (wc := [(pi, .inr (1, [.ref k0, .ref k1, .ref k2, .ref k3, .ref k4, .ref k5, .ref k6, .ref k7, .int num])), (k5, .inl (cI, 10, .inl p5))]) (ci := 1) (q0 := 10) hK hP hD hN [10, 9] rfl (by decide) rfl rfl) rfl rfl hl.1 rfl (lv_room (Nat.le_of_ble_eq_true rfl)) dX3_borne_49 ⟨Nat.le_of_ble_eq_true rfl, Nat.le_of_ble_eq_true rfl⟩) hP hD hS hA [10, 9] [0, 1, 2, 3, 4, 5, 6, 7, 8] rfl rfl (by decide) (by decide) (fun r_15 u H locs w_16 hP hD hS => ?_)
          have hP : va_P D vwCl [(x, .inr (3, [.ref cu, .ref pi, .ref sq, .ref fo, .ref bo, .int gl, .int td, .int le])), (cu, .inr (0, [.ref a0, .ref a1, .ref a2, .ref a3, .ref a4, .ref a5, .int bw, .int pts])), (a2, .inl (cI, 6, .inl fd)), (a3, .inl (cI, 6, .inl fh)), (a4, .inl (cI, 40, .inl fg)), (a5, .inl (cI, 40, .inl fs)), (k0, .inl (cI, 10, .inl p0)), (k1, .inl (cI, 10, .inl p1)), (k2, .inl (cI, 10, .inl p2)), (pi, .inr (1, [.ref k0, .ref k1, .ref k2, .ref k3, .ref k4, .ref k5, .ref k6, .ref k7, .int num])), (k5, .inl (cI, 10, .inl p5))] H := hP
          have hD : va_D A [(x, .inr (3, [.ref cu, .ref pi, .ref sq, .ref fo, .ref bo, .int gl, .int td, .int le])), (cu, .inr (0, [.ref a0, .ref a1, .ref a2, .ref a3, .ref a4, .ref a5, .int bw, .int pts])), (a2, .inl (cI, 6, .inl fd)), (a3, .inl (cI, 6, .inl fh)), (a4, .inl (cI, 40, .inl fg)), (a5, .inl (cI, 40, .inl fs)), (k0, .inl (cI, 10, .inl p0)), (k1, .inl (cI, 10, .inl p1)), (k2, .inl (cI, 10, .inl p2)), (pi, .inr (1, [.ref k0, .ref k1, .ref k2, .ref k3, .ref k4, .ref k5, .ref k6, .ref k7, .int num])), (k5, .inl (cI, 10, .inl p5))] := hD
          have w_16 : r_15 = bSt (p5 a.toNatClampNeg) day := w_16
          refine lv_if_ne (tgt := 59) hx hb dX3_borne_52 (by decide) (fun c_18 => ?_) (fun c_18 => ?_)
          · refine lv_aload_n hx hb dX3_borne_59 rfl (lv_at hl 0 rfl) ?_
            refine va_get (D := D) (ci := 3) (v := .ref pi) (C := RX3) (T := TX3) (N := 8) hx hb hts iw_X3_borne_3 hown hK hP 0 rfl rfl 1 (by decide) (hts _ wd_X3_borne_1) (fun _ h9 => h9) rfl dX3_borne_60 ?_
            refine va_getN (D := D) (ci := 1) (v := .ref k2) (C := RX1) (T := TX1) (N := 9) hx hb hts iw_X3_borne_1 hown hK hP 9 rfl rfl 2 (by decide) (va_Nw.use rfl (nwF_153 hN)) (fun _ h9 => h9) rfl dX3_borne_63 ?_
            refine lv_iload_n hx hb dX3_borne_66 rfl (lv_at hl 1 rfl) ?_
            refine va_iald hx hb hK hP 8 0 rfl rfl (pf_X3_borne_3 fs num p0 p5 a day pa r_1 r_5 r_9 v_13 r_15 hn0 hn1 hs w_2 c_4 w_6 c_8 w_10 c_12 ev_13 c_14 w_16 c_18) dX3_borne_67 ?_
            refine lv_topi (fun v_19 ev_19 => ?_)
            refine lv_i2l (v := (v_19).toInt64) hx hb dX3_borne_68 rfl ?_
            refine lv_topl (fun l_20 el_20 => ?_)
            refine lv_lstore (lv' := [(4, .long l_20), (0, .ref x), (1, .int a), (2, .int day), (3, .int pa)]) hx hb dX3_borne_69 hl (by decide) rfl (fun ls hl => ?_)
            refine lv_lconst (v := 1) hx hb dX3_borne_71 rfl ?_
            refine lv_lstore (lv' := [(6, .long 1), (4, .long l_20), (0, .ref x), (1, .int a), (2, .int day), (3, .int pa)]) hx hb dX3_borne_72 hl (by decide) rfl (fun ls hl => ?_)
            refine lv_aload_n hx hb dX3_borne_74 rfl (lv_at hl 2 rfl) ?_
            refine va_get (D := D) (ci := 3) (v := .ref cu) (C := RX3) (T := TX3) (N := 8) hx hb hts iw_X3_borne_3 hown hK hP 0 rfl rfl 0 (by decide) (hts _ wd_X3_borne_3) (fun _ h9 => h9) rfl dX3_borne_75 ?_
            refine lv_aload_n hx hb dX3_borne_78 rfl (lv_at hl 2 rfl) ?_
            refine va_get (D := D) (ci := 3) (v := .ref pi) (C := RX3) (T := TX3) (N := 8) hx hb hts iw_X3_borne_3 hown hK hP 0 rfl rfl 1 (by decide) (hts _ wd_X3_borne_1) (fun _ h9 => h9) rfl dX3_borne_79 ?_
            refine va_getN (D := D) (ci := 1) (v := .ref k5) (C := RX1) (T := TX1) (N := 9) hx hb hts iw_X3_borne_1 hown hK hP 9 rfl rfl 5 (by decide) (va_Nw.use rfl (nwF_162 hN)) (fun _ h9 => h9) rfl dX3_borne_82 ?_
            refine lv_iload_n hx hb dX3_borne_85 rfl (lv_at hl 3 rfl) ?_
            refine va_iald hx hb hK hP 10 0 rfl rfl (pf_X3_borne_4 fs num p0 p2 p5 a day pa r_1 r_5 r_9 v_13 r_15 v_19 l_20 hn0 hn1 hs w_2 c_4 w_6 c_8 w_10 c_12 ev_13 c_14 w_16 c_18 ev_19 el_20) dX3_borne_86 ?_
            refine lv_topi (fun v_21 ev_21 => ?_)
            refine lv_iload_n hx hb dX3_borne_87 rfl (lv_at hl 4 rfl) ?_
            refine cc_i (wc := [(cu, .inr (0, [.ref a0, .ref a1, .ref a2, .ref a3, .ref a4, .ref a5, .int bw, .int pts])), (a2, .inl (cI, 6, .inl fd)), (a3, .inl (cI, 6, .inl fh)), (a4, .inl (cI, 40, .inl fg))]) (wr := [(x, .inr (3, [.ref cu, .ref pi, .ref sq, .ref fo, .ref bo, .int gl, .int td, .int le])), (a5, .inl (cI, 40, .inl fs)), (k0, .inl (cI, 10, .inl p0)), (k1, .inl (cI, 10, .inl p1)), (k2, .inl (cI, 10, .inl p2)), (pi, .inr (1, [.ref k0, .ref k1, .ref k2, .ref k3, .ref k4, .ref k5, .ref k6, .ref k7, .int num])), (k5, .inl (cI, 10, .inl p5))]) (va_runVN (As := [.int v_21, .int day]) (rest := []) ⟨hx, hb, hml, hown, hts⟩ (c_X0_hardnessOn l D cI cQ H.size cu a2 a3 a4 a0 a1 a5 bw pts fd fh fg v_21 day ) ⟨va_cnB 2 hts gX3_borne_X0_hardnessOn_n168 rfl rfl rfl (nwM_168 hN) (hts _ wd_X3_borne_21) (by decide +kernel) ⟨Nat.le_of_ble_eq_true rfl, Nat.le_of_ble_eq_true rfl⟩, (hts _ wd_X3_borne_20), (hts _ wd_X3_borne_22)⟩ (preV (wc := [(cu, .inr (0, [.ref a0, .ref a1, .ref a2, .ref a3, .ref a4, .ref a5, .int bw, .int pts])), (a2, .inl (cI, 6, .inl fd)), (a3, .inl (cI, 6, .inl fh)), (a4, .inl (cI, 40, .inl fg))]) (ci := 0) (q0 := 1) hK hP hD hN [1, 2, 3, 4] rfl (by decide) rfl rfl) rfl rfl hl.1 rfl (lv_room (Nat.le_of_ble_eq_true rfl)) dX3_borne_88 ⟨Nat.le_of_ble_eq_true rfl, Nat.le_of_ble_eq_true rfl⟩) hP hD hS hA [1, 2, 3, 4] [0, 5, 6, 7, 8, 9, 10] rfl rfl (by decide) (by decide) (fun r_22 u H locs w_23 hP hD hS => ?_)
            have hP : va_P D vwCl [(x, .inr (3, [.ref cu, .ref pi, .ref sq, .ref fo, .ref bo, .int gl, .int td, .int le])), (a5, .inl (cI, 40, .inl fs)), (k0, .inl (cI, 10, .inl p0)), (k1, .inl (cI, 10, .inl p1)), (k2, .inl (cI, 10, .inl p2)), (pi, .inr (1, [.ref k0, .ref k1, .ref k2, .ref k3, .ref k4, .ref k5, .ref k6, .ref k7, .int num])), (k5, .inl (cI, 10, .inl p5)), (cu, .inr (0, [.ref a0, .ref a1, .ref a2, .ref a3, .ref a4, .ref a5, .int bw, .int pts])), (a2, .inl (cI, 6, .inl fd)), (a3, .inl (cI, 6, .inl fh)), (a4, .inl (cI, 40, .inl fg))] H := hP
            have hD : va_D A [(x, .inr (3, [.ref cu, .ref pi, .ref sq, .ref fo, .ref bo, .int gl, .int td, .int le])), (a5, .inl (cI, 40, .inl fs)), (k0, .inl (cI, 10, .inl p0)), (k1, .inl (cI, 10, .inl p1)), (k2, .inl (cI, 10, .inl p2)), (pi, .inr (1, [.ref k0, .ref k1, .ref k2, .ref k3, .ref k4, .ref k5, .ref k6, .ref k7, .int num])), (k5, .inl (cI, 10, .inl p5)), (cu, .inr (0, [.ref a0, .ref a1, .ref a2, .ref a3, .ref a4, .ref a5, .int bw, .int pts])), (a2, .inl (cI, 6, .inl fd)), (a3, .inl (cI, 6, .inl fh)), (a4, .inl (cI, 40, .inl fg))] := hD
            have w_23 : r_22 = hon fd fh fg pts v_21 day := w_23
            refine lv_istore (lv' := [(8, .int r_22), (6, .long 1), (4, .long l_20), (0, .ref x), (1, .int a), (2, .int day), (3, .int pa)]) hx hb dX3_borne_91 hl (by decide) rfl (fun ls hl => ?_)
            refine lv_iconst (v := 1) hx hb dX3_borne_93 (by decide) ?_
            refine lv_istore (lv' := [(9, .int 1), (8, .int r_22), (6, .long 1), (4, .long l_20), (0, .ref x), (1, .int a), (2, .int day), (3, .int pa)]) hx hb dX3_borne_94 hl (by decide) rfl (fun ls hl => ?_)
            have lp_96 : ∀ (n : Nat) (ku : Int32) (kA : Int64) (kB : Int64) (H : Heap) (locs : List Loc) (ls : Array Slot), 3 - ku.toNatClampNeg < n → (1 ≤ ku) → va_P D vwCl [(x, .inr (3, [.ref cu, .ref pi, .ref sq, .ref fo, .ref bo, .int gl, .int td, .int le])), (cu, .inr (0, [.ref a0, .ref a1, .ref a2, .ref a3, .ref a4, .ref a5, .int bw, .int pts])), (a2, .inl (cI, 6, .inl fd)), (a3, .inl (cI, 6, .inl fh)), (a4, .inl (cI, 40, .inl fg)), (a5, .inl (cI, 40, .inl fs)), (pi, .inr (1, [.ref k0, .ref k1, .ref k2, .ref k3, .ref k4, .ref k5, .ref k6, .ref k7, .int num])), (k0, .inl (cI, 10, .inl p0)), (k1, .inl (cI, 10, .inl p1)), (k2, .inl (cI, 10, .inl p2)), (k5, .inl (cI, 10, .inl p5))] H → va_D A [(x, .inr (3, [.ref cu, .ref pi, .ref sq, .ref fo, .ref bo, .int gl, .int td, .int le])), (cu, .inr (0, [.ref a0, .ref a1, .ref a2, .ref a3, .ref a4, .ref a5, .int bw, .int pts])), (a2, .inl (cI, 6, .inl fd)), (a3, .inl (cI, 6, .inl fh)), (a4, .inl (cI, 40, .inl fg)), (a5, .inl (cI, 40, .inl fs)), (pi, .inr (1, [.ref k0, .ref k1, .ref k2, .ref k3, .ref k4, .ref k5, .ref k6, .ref k7, .int num])), (k0, .inl (cI, 10, .inl p0)), (k1, .inl (cI, 10, .inl p1)), (k2, .inl (cI, 10, .inl p2)), (k5, .inl (cI, 10, .inl p5))] → va_S A s.heap H locs → lv_has ls 13 [(0, .ref x), (1, .int a), (2, .int day), (3, .int pa), (4, .long kA), (6, .long kB), (8, .int r_22), (9, .int ku)] → GW H locs 0 0 (F0 m 96 ls []) := by
              intro n_96
              induction n_96 with
              | zero => intro ku kA kB H locs ls hn_96; exact absurd hn_96 (Nat.not_lt_zero _)
              | succ n_96 ih_96 =>
                intro ku kA kB H locs ls hn_96 hku hP hD hS hl
                refine hIn _ _ _ _ _ ?_
                refine lv_iload hx hb dX3_borne_96 (lv_at hl 7 rfl) ?_
                refine lv_iconst (v := 2) hx hb dX3_borne_98 (by decide) ?_
                refine lv_icmp_gt (tgt := 167) hx hb dX3_borne_99 (by decide) (fun c_25 => ?_) (fun c_25 => ?_)
                · refine lv_lload hx hb dX3_borne_167 (lv_at hl 4 rfl) ?_
                  refine lv_lload hx hb dX3_borne_169 (lv_at hl 5 rfl) ?_
                  refine cc_l (wc := []) (wr := [(x, .inr (3, [.ref cu, .ref pi, .ref sq, .ref fo, .ref bo, .int gl, .int td, .int le])), (cu, .inr (0, [.ref a0, .ref a1, .ref a2, .ref a3, .ref a4, .ref a5, .int bw, .int pts])), (a2, .inl (cI, 6, .inl fd)), (a3, .inl (cI, 6, .inl fh)), (a4, .inl (cI, 40, .inl fg)), (a5, .inl (cI, 40, .inl fs)), (pi, .inr (1, [.ref k0, .ref k1, .ref k2, .ref k3, .ref k4, .ref k5, .ref k6, .ref k7, .int num])), (k0, .inl (cI, 10, .inl p0)), (k1, .inl (cI, 10, .inl p1)), (k2, .inl (cI, 10, .inl p2)), (k5, .inl (cI, 10, .inl p5))]) (va_runS (As := [.long kA, .long kB]) (rest := []) ⟨hx, hb, hml, hown, hts⟩ (c_X3_commonDivisor l D cI cQ H.size kA kB ) (va_cwS 2 hts gX3_borne_X3_commonDivisor rfl rfl rfl (by decide +kernel) ⟨Nat.le_of_ble_eq_true rfl, Nat.le_of_ble_eq_true rfl⟩) (preS (wc := []) hK hP hD hN [] rfl (by decide)) rfl rfl hl.1 rfl (lv_room (Nat.le_of_ble_eq_true rfl)) dX3_borne_171 ⟨Nat.le_of_ble_eq_true rfl, Nat.le_of_ble_eq_true rfl⟩) hP hD hS hA [] [0, 1, 2, 3, 4, 5, 6, 7, 8, 9, 10] rfl rfl (by decide) (by decide) (fun r_26 u H locs w_27 hP hD hS => ?_)
                  have hP : va_P D vwCl [(x, .inr (3, [.ref cu, .ref pi, .ref sq, .ref fo, .ref bo, .int gl, .int td, .int le])), (cu, .inr (0, [.ref a0, .ref a1, .ref a2, .ref a3, .ref a4, .ref a5, .int bw, .int pts])), (a2, .inl (cI, 6, .inl fd)), (a3, .inl (cI, 6, .inl fh)), (a4, .inl (cI, 40, .inl fg)), (a5, .inl (cI, 40, .inl fs)), (pi, .inr (1, [.ref k0, .ref k1, .ref k2, .ref k3, .ref k4, .ref k5, .ref k6, .ref k7, .int num])), (k0, .inl (cI, 10, .inl p0)), (k1, .inl (cI, 10, .inl p1)), (k2, .inl (cI, 10, .inl p2)), (k5, .inl (cI, 10, .inl p5))] H := hP
                  have hD : va_D A [(x, .inr (3, [.ref cu, .ref pi, .ref sq, .ref fo, .ref bo, .int gl, .int td, .int le])), (cu, .inr (0, [.ref a0, .ref a1, .ref a2, .ref a3, .ref a4, .ref a5, .int bw, .int pts])), (a2, .inl (cI, 6, .inl fd)), (a3, .inl (cI, 6, .inl fh)), (a4, .inl (cI, 40, .inl fg)), (a5, .inl (cI, 40, .inl fs)), (pi, .inr (1, [.ref k0, .ref k1, .ref k2, .ref k3, .ref k4, .ref k5, .ref k6, .ref k7, .int num])), (k0, .inl (cI, 10, .inl p0)), (k1, .inl (cI, 10, .inl p1)), (k2, .inl (cI, 10, .inl p2)), (k5, .inl (cI, 10, .inl p5))] := hD
                  refine lv_lstore (lv' := [(9, .long r_26), (0, .ref x), (1, .int a), (2, .int day), (3, .int pa), (4, .long kA), (6, .long kB), (8, .int r_22)]) hx hb dX3_borne_174 hl (by decide) rfl (fun ls hl => ?_)
                  refine lv_lload hx hb dX3_borne_176 (lv_at hl 0 rfl) ?_
                  refine lv_lconst (v := 0) hx hb dX3_borne_178 rfl ?_
                  refine W.lcmp hx hb dX3_borne_179 ?_
                  refine lv_topi (fun v_28 ev_28 => ?_)
                  refine lv_if_ne (tgt := 187) hx hb dX3_borne_180 (by decide) (fun c_29 => ?_) (fun c_29 => ?_)
                  · refine lv_iload_n hx hb dX3_borne_187 rfl (lv_at hl 4 rfl) ?_
                    refine lv_if_ne (tgt := 199) hx hb dX3_borne_188 (by decide) (fun c_30 => ?_) (fun c_30 => ?_)
                    · refine lv_lload hx hb dX3_borne_199 (lv_at hl 6 rfl) ?_
                      refine lv_lload hx hb dX3_borne_201 (lv_at hl 0 rfl) ?_
                      refine lv_ldiv hx hb dX3_borne_203 (pf_X3_borne_5 pts fd fh fg fs num p0 p2 p5 a day pa r_1 r_5 r_9 v_13 r_15 v_19 l_20 v_21 r_22 n_96 ku r_26 v_28 hn0 hn1 hs w_2 c_4 w_6 c_8 w_10 c_12 ev_13 c_14 w_16 c_18 ev_19 el_20 ev_21 w_23 hn_96 hku c_25 ev_28 c_29 c_30) ?_
                      refine lv_topl (fun l_31 el_31 => ?_)
                      refine W.widen (k := 0) (n := 0) (Nat.le_of_ble_eq_true rfl) (Nat.le_of_ble_eq_true rfl) ?_
                      exact fi_l () hx hb hr hlocks hK (hP.sub [0, 1, 2, 3, 4, 5, 6, 7, 8, 9, 10] rfl) (hD.sub [0, 1, 2, 3, 4, 5, 6, 7, 8, 9, 10] (by decide) rfl) hS trivial dX3_borne_204
                    · refine lv_lload hx hb dX3_borne_191 (lv_at hl 5 rfl) ?_
                      refine lv_lload hx hb dX3_borne_193 (lv_at hl 0 rfl) ?_
                      refine lv_ldiv hx hb dX3_borne_195 (pf_X3_borne_6 pts fd fh fg fs num p0 p2 p5 a day pa r_1 r_5 r_9 v_13 r_15 v_19 l_20 v_21 r_22 n_96 ku r_26 v_28 hn0 hn1 hs w_2 c_4 w_6 c_8 w_10 c_12 ev_13 c_14 w_16 c_18 ev_19 el_20 ev_21 w_23 hn_96 hku c_25 ev_28 c_29 c_30) ?_
                      refine lv_topl (fun l_32 el_32 => ?_)
                      refine lv_goto (tgt := 204) hx hb dX3_borne_196 (by decide) ?_
                      refine W.widen (k := 0) (n := 0) (Nat.le_of_ble_eq_true rfl) (Nat.le_of_ble_eq_true rfl) ?_
                      exact fi_l () hx hb hr hlocks hK (hP.sub [0, 1, 2, 3, 4, 5, 6, 7, 8, 9, 10] rfl) (hD.sub [0, 1, 2, 3, 4, 5, 6, 7, 8, 9, 10] (by decide) rfl) hS trivial dX3_borne_204
                  · refine lv_ldc2 hx hb hown (hts _ wd_X3_borne_2) dX3_borne_183 ?_
                    refine W.widen (k := 0) (n := 0) (Nat.le_of_ble_eq_true rfl) (Nat.le_of_ble_eq_true rfl) ?_
                    exact fi_l () hx hb hr hlocks hK (hP.sub [0, 1, 2, 3, 4, 5, 6, 7, 8, 9, 10] rfl) (hD.sub [0, 1, 2, 3, 4, 5, 6, 7, 8, 9, 10] (by decide) rfl) hS trivial dX3_borne_186
                · refine lv_aload_n hx hb dX3_borne_102 rfl (lv_at hl 0 rfl) ?_
                  refine va_get (D := D) (ci := 3) (v := .ref pi) (C := RX3) (T := TX3) (N := 8) hx hb hts iw_X3_borne_3 hown hK hP 0 rfl rfl 1 (by decide) (hts _ wd_X3_borne_1) (fun _ h9 => h9) rfl dX3_borne_103 ?_
                  refine va_getN (D := D) (ci := 1) (v := .ref k1) (C := RX1) (T := TX1) (N := 9) hx hb hts iw_X3_borne_1 hown hK hP 6 rfl rfl 1 (by decide) (va_Nw.use rfl (nwF_150 hN)) (fun _ h9 => h9) rfl dX3_borne_106 ?_
                  refine lv_iload_n hx hb dX3_borne_109 rfl (lv_at hl 1 rfl) ?_
                  refine va_iald hx hb hK hP 8 0 rfl rfl (pf_X3_borne_7 pts fd fh fg fs num p0 p2 p5 a day pa r_1 r_5 r_9 v_13 r_15 v_19 l_20 v_21 r_22 n_96 ku hn0 hn1 hs w_2 c_4 w_6 c_8 w_10 c_12 ev_13 c_14 w_16 c_18 ev_19 el_20 ev_21 w_23 hn_96 hku c_25) dX3_borne_110 ?_
                  refine lv_topi (fun v_33 ev_33 => ?_)
                  refine lv_iload hx hb dX3_borne_111 (lv_at hl 7 rfl) ?_
                  refine lv_iadd hx hb dX3_borne_113 ?_
                  refine lv_topi (fun v_34 ev_34 => ?_)
                  refine lv_istore (lv' := [(10, .int v_34), (0, .ref x), (1, .int a), (2, .int day), (3, .int pa), (4, .long kA), (6, .long kB), (8, .int r_22), (9, .int ku)]) hx hb dX3_borne_114 hl (by decide) rfl (fun ls hl => ?_)
                  refine lv_aload_n hx hb dX3_borne_116 rfl (lv_at hl 1 rfl) ?_
                  refine lv_iload hx hb dX3_borne_117 (lv_at hl 0 rfl) ?_
                  refine lv_iload_n hx hb dX3_borne_119 rfl (lv_at hl 3 rfl) ?_
                  refine cc_l (wc := [(x, .inr (3, [.ref cu, .ref pi, .ref sq, .ref fo, .ref bo, .int gl, .int td, .int le])), (cu, .inr (0, [.ref a0, .ref a1, .ref a2, .ref a3, .ref a4, .ref a5, .int bw, .int pts])), (a2, .inl (cI, 6, .inl fd)), (a3, .inl (cI, 6, .inl fh)), (a4, .inl (cI, 40, .inl fg)), (pi, .inr (1, [.ref k0, .ref k1, .ref k2, .ref k3, .ref k4, .ref k5, .ref k6, .ref k7, .int num])), (k0, .inl (cI, 10, .inl p0)), (k1, .inl (cI, 10, .inl p1)), (k5, .inl (cI, 10, .inl p5))]) (wr := [(a5, .inl (cI, 40, .inl fs)), (k2, .inl (cI, 10, .inl p2))]) (va_runV (As := [.int v_34, .int day]) (rest := []) ⟨hx, hb, hml, hown, hts⟩ (c_X3_hardnessBelow l D cI cQ H.size x cu a2 a3 a4 pi k0 k1 k5 sq fo bo gl td le a0 a1 a5 bw pts fd fh fg k2 k3 k4 k6 k7 num p0 p1 p5 v_34 day (pf_X3_borne_8 pts fd fh fg fs num p0 p1 p2 p5 a day pa r_1 r_5 r_9 v_13 r_15 v_19 l_20 v_21 r_22 n_96 ku v_33 v_34 hn0 hn1 hs w_2 c_4 w_6 c_8 w_10 c_12 ev_13 c_14 w_16 c_18 ev_19 el_20 ev_21 w_23 hn_96 hku c_25 ev_33 ev_34) (pf_X3_borne_9 pts fd fh fg fs num p0 p1 p2 p5 a day pa r_1 r_5 r_9 v_13 r_15 v_19 l_20 v_21 r_22 n_96 ku v_33 v_34 hn0 hn1 hs w_2 c_4 w_6 c_8 w_10 c_12 ev_13 c_14 w_16 c_18 ev_19 el_20 ev_21 w_23 hn_96 hku c_25 ev_33 ev_34)) (cwV 2 hts gX3_borne_X3_hardnessBelow rfl rfl rfl (by decide +kernel) ⟨Nat.le_of_ble_eq_true rfl, Nat.le_of_ble_eq_true rfl⟩) (preV (wc := [(x, .inr (3, [.ref cu, .ref pi, .ref sq, .ref fo, .ref bo, .int gl, .int td, .int le])), (cu, .inr (0, [.ref a0, .ref a1, .ref a2, .ref a3, .ref a4, .ref a5, .int bw, .int pts])), (a2, .inl (cI, 6, .inl fd)), (a3, .inl (cI, 6, .inl fh)), (a4, .inl (cI, 40, .inl fg)), (pi, .inr (1, [.ref k0, .ref k1, .ref k2, .ref k3, .ref k4, .ref k5, .ref k6, .ref k7, .int num])), (k0, .inl (cI, 10, .inl p0)), (k1, .inl (cI, 10, .inl p1)), (k5, .inl (cI, 10, .inl p5))]) (ci := 3) (q0 := 0) hK hP hD hN [0, 1, 2, 3, 4, 6, 7, 8, 10] rfl (by decide) rfl rfl) rfl rfl hl.1 rfl (lv_room (Nat.le_of_ble_eq_true rfl)) dX3_borne_120 ⟨Nat.le_of_ble_eq_true rfl, Nat.le_of_ble_eq_true rfl⟩) hP hD hS hA [0, 1, 2, 3, 4, 6, 7, 8, 10] [5, 9] rfl rfl (by decide) (by decide) (fun r_35 u H locs w_36 hP hD hS => ?_)
                  have hP : va_P D vwCl [(a5, .inl (cI, 40, .inl fs)), (k2, .inl (cI, 10, .inl p2)), (x, .inr (3, [.ref cu, .ref pi, .ref sq, .ref fo, .ref bo, .int gl, .int td, .int le])), (cu, .inr (0, [.ref a0, .ref a1, .ref a2, .ref a3, .ref a4, .ref a5, .int bw, .int pts])), (a2, .inl (cI, 6, .inl fd)), (a3, .inl (cI, 6, .inl fh)), (a4, .inl (cI, 40, .inl fg)), (pi, .inr (1, [.ref k0, .ref k1, .ref k2, .ref k3, .ref k4, .ref k5, .ref k6, .ref k7, .int num])), (k0, .inl (cI, 10, .inl p0)), (k1, .inl (cI, 10, .inl p1)), (k5, .inl (cI, 10, .inl p5))] H := hP
                  have hD : va_D A [(a5, .inl (cI, 40, .inl fs)), (k2, .inl (cI, 10, .inl p2)), (x, .inr (3, [.ref cu, .ref pi, .ref sq, .ref fo, .ref bo, .int gl, .int td, .int le])), (cu, .inr (0, [.ref a0, .ref a1, .ref a2, .ref a3, .ref a4, .ref a5, .int bw, .int pts])), (a2, .inl (cI, 6, .inl fd)), (a3, .inl (cI, 6, .inl fh)), (a4, .inl (cI, 40, .inl fg)), (pi, .inr (1, [.ref k0, .ref k1, .ref k2, .ref k3, .ref k4, .ref k5, .ref k6, .ref k7, .int num])), (k0, .inl (cI, 10, .inl p0)), (k1, .inl (cI, 10, .inl p1)), (k5, .inl (cI, 10, .inl p5))] := hD
                  refine lv_lstore (lv' := [(11, .long r_35), (10, .int v_34), (0, .ref x), (1, .int a), (2, .int day), (3, .int pa), (4, .long kA), (6, .long kB), (8, .int r_22), (9, .int ku)]) hx hb dX3_borne_123 hl (by decide) rfl (fun ls hl => ?_)
                  refine lv_lload hx hb dX3_borne_125 (lv_at hl 0 rfl) ?_
                  refine lv_lconst (v := 0) hx hb dX3_borne_127 rfl ?_
                  refine W.lcmp hx hb dX3_borne_128 ?_
                  refine lv_topi (fun v_37 ev_37 => ?_)
                  refine lv_if_le (tgt := 161) hx hb dX3_borne_129 (by decide) (fun c_38 => ?_) (fun c_38 => ?_)
                  · obtain ⟨v_39, ev_39⟩ : ∃ y : Int32, y = ku + 1 := ⟨_, rfl⟩
                    refine lv_iinc (v := v_39) (lv' := [(9, .int v_39), (11, .long r_35), (10, .int v_34), (0, .ref x), (1, .int a), (2, .int day), (3, .int pa), (4, .long kA), (6, .long kB), (8, .int r_22)]) hx hb dX3_borne_161 hl (k := 9) rfl (by rw [ev_39]; rfl) (by decide) rfl (fun ls hl => ?_)
                    refine lv_goto (tgt := 96) hx hb dX3_borne_164 (by decide) ?_
                    exact hOut _ _ _ _ _ (ih_96 v_39 kA kB _ _ _ (pf_X3_borne_10 pts fd fh fg fs num p0 p1 p2 p5 a day pa r_1 r_5 r_9 v_13 r_15 v_19 l_20 v_21 r_22 n_96 ku v_33 v_34 r_35 v_37 v_39 hn0 hn1 hs w_2 c_4 w_6 c_8 w_10 c_12 ev_13 c_14 w_16 c_18 ev_19 el_20 ev_21 w_23 hn_96 hku c_25 ev_33 ev_34 ev_37 c_38 ev_39) (pf_X3_borne_11 pts fd fh fg fs num p0 p1 p2 p5 a day pa r_1 r_5 r_9 v_13 r_15 v_19 l_20 v_21 r_22 n_96 ku v_33 v_34 r_35 v_37 v_39 hn0 hn1 hs w_2 c_4 w_6 c_8 w_10 c_12 ev_13 c_14 w_16 c_18 ev_19 el_20 ev_21 w_23 hn_96 hku c_25 ev_33 ev_34 ev_37 c_38 ev_39) (hP.sub [2, 3, 4, 5, 6, 0, 7, 8, 9, 1, 10] rfl) (hD.sub [2, 3, 4, 5, 6, 0, 7, 8, 9, 1, 10] (by decide) rfl) hS (lv_sub hl [3, 4, 5, 6, 7, 8, 9, 0] rfl))
                  · refine lv_lload hx hb dX3_borne_132 (lv_at hl 6 rfl) ?_
                    refine lv_lload hx hb dX3_borne_134 (lv_at hl 0 rfl) ?_
                    refine lv_lmul hx hb dX3_borne_136 ?_
                    refine lv_topl (fun l_40 el_40 => ?_)
                    refine lv_lload hx hb dX3_borne_137 (lv_at hl 7 rfl) ?_
                    refine lv_aload_n hx hb dX3_borne_139 rfl (lv_at hl 2 rfl) ?_
                    refine lv_iload hx hb dX3_borne_140 (lv_at hl 1 rfl) ?_
                    refine lv_iload_n hx hb dX3_borne_142 rfl (lv_at hl 4 rfl) ?_
                    refine cc_l (wc := [(x, .inr (3, [.ref cu, .ref pi, .ref sq, .ref fo, .ref bo, .int gl, .int td, .int le])), (cu, .inr (0, [.ref a0, .ref a1, .ref a2, .ref a3, .ref a4, .ref a5, .int bw, .int pts])), (a5, .inl (cI, 40, .inl fs)), (pi, .inr (1, [.ref k0, .ref k1, .ref k2, .ref k3, .ref k4, .ref k5, .ref k6, .ref k7, .int num])), (k0, .inl (cI, 10, .inl p0)), (k1, .inl (cI, 10, .inl p1)), (k2, .inl (cI, 10, .inl p2)), (k5, .inl (cI, 10, .inl p5))]) (wr := [(a2, .inl (cI, 6, .inl fd)), (a3, .inl (cI, 6, .inl fh)), (a4, .inl (cI, 40, .inl fg))]) (va_runV (As := [.int v_34, .int day]) (rest := [.long kB, .long l_40]) ⟨hx, hb, hml, hown, hts⟩ (c_X3_loadOf l D cI cQ H.size x cu a5 pi k0 k1 k2 k5 sq fo bo gl td le a0 a1 a2 a3 a4 bw pts fs k3 k4 k6 k7 num p0 p1 p2 p5 v_34 day (pf_X3_borne_12 pts fd fh fg fs num p0 p1 p2 p5 a day pa r_1 r_5 r_9 v_13 r_15 v_19 l_20 v_21 r_22 n_96 ku kA v_33 v_34 r_35 v_37 l_40 hn0 hn1 hs w_2 c_4 w_6 c_8 w_10 c_12 ev_13 c_14 w_16 c_18 ev_19 el_20 ev_21 w_23 hn_96 hku c_25 ev_33 ev_34 ev_37 c_38 el_40) (pf_X3_borne_13 pts fd fh fg fs num p0 p1 p2 p5 a day pa r_1 r_5 r_9 v_13 r_15 v_19 l_20 v_21 r_22 n_96 ku kA v_33 v_34 r_35 v_37 l_40 hn0 hn1 hs w_2 c_4 w_6 c_8 w_10 c_12 ev_13 c_14 w_16 c_18 ev_19 el_20 ev_21 w_23 hn_96 hku c_25 ev_33 ev_34 ev_37 c_38 el_40) (pf_X3_borne_14 pts fd fh fg fs num p0 p1 p2 p5 a day pa r_1 r_5 r_9 v_13 r_15 v_19 l_20 v_21 r_22 n_96 ku kA v_33 v_34 r_35 v_37 l_40 hn0 hn1 hs w_2 c_4 w_6 c_8 w_10 c_12 ev_13 c_14 w_16 c_18 ev_19 el_20 ev_21 w_23 hn_96 hku c_25 ev_33 ev_34 ev_37 c_38 el_40)) (cwV 2 hts gX3_borne_X3_loadOf rfl rfl rfl (by decide +kernel) ⟨Nat.le_of_ble_eq_true rfl, Nat.le_of_ble_eq_true rfl⟩) (preV (wc := [(x, .inr (3, [.ref cu, .ref pi, .ref sq, .ref fo, .ref bo, .int gl, .int td, .int le])), (cu, .inr (0, [.ref a0, .ref a1, .ref a2, .ref a3, .ref a4, .ref a5, .int bw, .int pts])), (a5, .inl (cI, 40, .inl fs)), (pi, .inr (1, [.ref k0, .ref k1, .ref k2, .ref k3, .ref k4, .ref k5, .ref k6, .ref k7, .int num])), (k0, .inl (cI, 10, .inl p0)), (k1, .inl (cI, 10, .inl p1)), (k2, .inl (cI, 10, .inl p2)), (k5, .inl (cI, 10, .inl p5))]) (ci := 3) (q0 := 2) hK hP hD hN [2, 3, 0, 7, 8, 9, 1, 10] rfl (by decide) rfl rfl) rfl rfl hl.1 rfl (lv_room (Nat.le_of_ble_eq_true rfl)) dX3_borne_143 ⟨Nat.le_of_ble_eq_true rfl, Nat.le_of_ble_eq_true rfl⟩) hP hD hS hA [2, 3, 0, 7, 8, 9, 1, 10] [4, 5, 6] rfl rfl (by decide) (by decide) (fun r_41 u H locs w_42 hP hD hS => ?_)
                    have hP : va_P D vwCl [(a2, .inl (cI, 6, .inl fd)), (a3, .inl (cI, 6, .inl fh)), (a4, .inl (cI, 40, .inl fg)), (x, .inr (3, [.ref cu, .ref pi, .ref sq, .ref fo, .ref bo, .int gl, .int td, .int le])), (cu, .inr (0, [.ref a0, .ref a1, .ref a2, .ref a3, .ref a4, .ref a5, .int bw, .int pts])), (a5, .inl (cI, 40, .inl fs)), (pi, .inr (1, [.ref k0, .ref k1, .ref k2, .ref k3, .ref k4, .ref k5, .ref k6, .ref k7, .int num])), (k0, .inl (cI, 10, .inl p0)), (k1, .inl (cI, 10, .inl p1)), (k2, .inl (cI, 10, .inl p2)), (k5, .inl (cI, 10, .inl p5))] H := hP
                    have hD : va_D A [(a2, .inl (cI, 6, .inl fd)), (a3, .inl (cI, 6, .inl fh)), (a4, .inl (cI, 40, .inl fg)), (x, .inr (3, [.ref cu, .ref pi, .ref sq, .ref fo, .ref bo, .int gl, .int td, .int le])), (cu, .inr (0, [.ref a0, .ref a1, .ref a2, .ref a3, .ref a4, .ref a5, .int bw, .int pts])), (a5, .inl (cI, 40, .inl fs)), (pi, .inr (1, [.ref k0, .ref k1, .ref k2, .ref k3, .ref k4, .ref k5, .ref k6, .ref k7, .int num])), (k0, .inl (cI, 10, .inl p0)), (k1, .inl (cI, 10, .inl p1)), (k2, .inl (cI, 10, .inl p2)), (k5, .inl (cI, 10, .inl p5))] := hD
                    refine lv_lmul hx hb dX3_borne_146 ?_
                    refine lv_topl (fun l_43 el_43 => ?_)
                    refine lv_iload hx hb dX3_borne_147 (lv_at hl 8 rfl) ?_
                    refine lv_i2l (v := (r_22).toInt64) hx hb dX3_borne_149 rfl ?_
                    refine lv_topl (fun l_44 el_44 => ?_)
                    refine lv_lmul hx hb dX3_borne_150 ?_
                    refine lv_topl (fun l_45 el_45 => ?_)
                    refine lv_ladd hx hb dX3_borne_151 ?_
                    refine lv_topl (fun l_46 el_46 => ?_)
                    refine lv_lstore (lv' := [(4, .long l_46), (11, .long r_35), (10, .int v_34), (0, .ref x), (1, .int a), (2, .int day), (3, .int pa), (6, .long kB), (8, .int r_22), (9, .int ku)]) hx hb dX3_borne_152 hl (by decide) rfl (fun ls hl => ?_)
                    refine lv_lload hx hb dX3_borne_154 (lv_at hl 7 rfl) ?_
                    refine lv_lload hx hb dX3_borne_156 (lv_at hl 1 rfl) ?_
                    refine lv_lmul hx hb dX3_borne_158 ?_
                    refine lv_topl (fun l_47 el_47 => ?_)
                    refine lv_lstore (lv' := [(6, .long l_47), (4, .long l_46), (11, .long r_35), (10, .int v_34), (0, .ref x), (1, .int a), (2, .int day), (3, .int pa), (8, .int r_22), (9, .int ku)]) hx hb dX3_borne_159 hl (by decide) rfl (fun ls hl => ?_)
                    obtain ⟨v_48, ev_48⟩ : ∃ y : Int32, y = ku + 1 := ⟨_, rfl⟩
                    refine lv_iinc (v := v_48) (lv' := [(9, .int v_48), (6, .long l_47), (4, .long l_46), (11, .long r_35), (10, .int v_34), (0, .ref x), (1, .int a), (2, .int day), (3, .int pa), (8, .int r_22)]) hx hb dX3_borne_161 hl (k := 9) rfl (by rw [ev_48]; rfl) (by decide) rfl (fun ls hl => ?_)
                    refine lv_goto (tgt := 96) hx hb dX3_borne_164 (by decide) ?_
                    exact hOut _ _ _ _ _ (ih_96 v_48 l_46 l_47 _ _ _ (pf_X3_borne_15 pts fd fh fg fs num p0 p1 p2 p5 a day pa r_1 r_5 r_9 v_13 r_15 v_19 l_20 v_21 r_22 n_96 ku kA kB v_33 v_34 r_35 v_37 l_40 r_41 l_43 l_44 l_45 l_46 l_47 v_48 hn0 hn1 hs w_2 c_4 w_6 c_8 w_10 c_12 ev_13 c_14 w_16 c_18 ev_19 el_20 ev_21 w_23 hn_96 hku c_25 ev_33 ev_34 ev_37 c_38 el_40 el_43 el_44 el_45 el_46 el_47 ev_48) (pf_X3_borne_16 pts fd fh fg fs num p0 p1 p2 p5 a day pa r_1 r_5 r_9 v_13 r_15 v_19 l_20 v_21 r_22 n_96 ku kA kB v_33 v_34 r_35 v_37 l_40 r_41 l_43 l_44 l_45 l_46 l_47 v_48 hn0 hn1 hs w_2 c_4 w_6 c_8 w_10 c_12 ev_13 c_14 w_16 c_18 ev_19 el_20 ev_21 w_23 hn_96 hku c_25 ev_33 ev_34 ev_37 c_38 el_40 el_43 el_44 el_45 el_46 el_47 ev_48) (hP.sub [3, 4, 0, 1, 2, 5, 6, 7, 8, 9, 10] rfl) (hD.sub [3, 4, 0, 1, 2, 5, 6, 7, 8, 9, 10] (by decide) rfl) hS (lv_sub hl [5, 6, 7, 8, 2, 1, 9, 0] rfl))
            exact hOut _ _ _ _ _ (lp_96 (3 - (1 : Int32).toNatClampNeg + 1) 1 l_20 1 _ _ _ (Nat.lt_succ_self _) (pf_X3_borne_17 pts fd fh fg fs num p0 p2 p5 a day pa r_1 r_5 r_9 v_13 r_15 v_19 l_20 v_21 r_22 hn0 hn1 hs w_2 c_4 w_6 c_8 w_10 c_12 ev_13 c_14 w_16 c_18 ev_19 el_20 ev_21 w_23) (hP.sub [0, 7, 8, 9, 10, 1, 5, 2, 3, 4, 6] rfl) (hD.sub [0, 7, 8, 9, 10, 1, 5, 2, 3, 4, 6] (by decide) rfl) hS (lv_sub hl [4, 5, 6, 7, 3, 2, 1, 0] rfl))
          · refine lv_ldc2 hx hb hown (hts _ wd_X3_borne_2) dX3_borne_55 ?_
            refine W.widen (k := 0) (n := 0) (Nat.le_of_ble_eq_true rfl) (Nat.le_of_ble_eq_true rfl) ?_
            exact fi_l () hx hb hr hlocks hK (hP.sub [0, 1, 2, 3, 4, 5, 9, 6, 7, 8, 10] rfl) (hD.sub [0, 1, 2, 3, 4, 5, 9, 6, 7, 8, 10] (by decide) rfl) hS trivial dX3_borne_58
      · refine lv_ldc2 hx hb hown (hts _ wd_X3_borne_2) dX3_borne_27 ?_
        refine W.widen (k := 0) (n := 0) (Nat.le_of_ble_eq_true rfl) (Nat.le_of_ble_eq_true rfl) ?_
        exact fi_l () hx hb hr hlocks hK (hP.sub [0, 1, 2, 3, 4, 5, 10, 6, 7, 8, 9] rfl) (hD.sub [0, 1, 2, 3, 4, 5, 10, 6, 7, 8, 9] (by decide) rfl) hS trivial dX3_borne_30

theorem iw_X3_init_0 : ∀ w ∈ wsX00, w ∈ wsX3_init := fun w h => (List.mem_cons_of_mem _ (List.mem_append_left _ (List.mem_append_left _ (List.mem_append_left _ (List.mem_append_right _ h)))))
theorem iw_X3_init_1 : ∀ w ∈ wsX10, w ∈ wsX3_init := fun w h => (List.mem_cons_of_mem _ (List.mem_append_left _ (List.mem_append_right _ h)))
theorem iw_X3_init_2 : ∀ w ∈ wsX20, w ∈ wsX3_init := fun w h => (List.mem_cons_of_mem _ (List.mem_append_right _ h))
theorem iw_X3_init_3 : ∀ w ∈ wsX30, w ∈ wsX3_init := fun w h => (List.mem_cons_of_mem _ (List.mem_append_left _ (List.mem_append_left _ (List.mem_append_right _ h))))
theorem wd_X3_init_1 : (.methodLink RX3 5 objectInit : Cond) ∈ wsX3_init := List.mem_of_getElem? (i := 1) rfl
theorem wd_X3_init_2 : (.instanceMethod objectInit : Cond) ∈ wsX3_init := List.mem_of_getElem? (i := 2) rfl
theorem wd_X3_init_3 : (.code objectInit ⟨#[0xb1]⟩ 1 none : Cond) ∈ wsX3_init := List.mem_of_getElem? (i := 3) rfl
theorem wd_X3_init_4 : (.classLink RX3 11 RX0 : Cond) ∈ wsX3_init := List.mem_of_getElem? (i := 4) rfl
theorem wd_X3_init_5 : (.instantiable RX0 8 : Cond) ∈ wsX3_init := List.mem_of_getElem? (i := 5) rfl
theorem wd_X3_init_6 : (.initialized RX0 : Cond) ∈ wsX3_init := List.mem_of_getElem? (i := 6) rfl
theorem wd_X3_init_7 : (.fieldLink RX3 14 "PourPlan" "curing" "LPourPlan$Curing;" : Cond) ∈ wsX3_init := List.mem_of_getElem? (i := 7) rfl
theorem wd_X3_init_8 : (.classLink RX3 18 RX1 : Cond) ∈ wsX3_init := List.mem_of_getElem? (i := 8) rfl
theorem wd_X3_init_9 : (.instantiable RX1 9 : Cond) ∈ wsX3_init := List.mem_of_getElem? (i := 9) rfl
theorem wd_X3_init_10 : (.initialized RX1 : Cond) ∈ wsX3_init := List.mem_of_getElem? (i := 10) rfl
theorem wd_X3_init_11 : (.fieldLink RX3 21 "PourPlan" "pieces" "LPourPlan$Pieces;" : Cond) ∈ wsX3_init := List.mem_of_getElem? (i := 11) rfl
theorem wd_X3_init_12 : (.classLink RX3 25 RX2 : Cond) ∈ wsX3_init := List.mem_of_getElem? (i := 12) rfl
theorem wd_X3_init_13 : (.instantiable RX2 2 : Cond) ∈ wsX3_init := List.mem_of_getElem? (i := 13) rfl
theorem wd_X3_init_14 : (.initialized RX2 : Cond) ∈ wsX3_init := List.mem_of_getElem? (i := 14) rfl
theorem wd_X3_init_15 : (.fieldLink RX3 28 "PourPlan" "sequence" "LPourPlan$Sequence;" : Cond) ∈ wsX3_init := List.mem_of_getElem? (i := 15) rfl
theorem wd_X3_init_16 : (.arrayClass .int : Cond) ∈ wsX3_init := List.mem_of_getElem? (i := 16) rfl
theorem wd_X3_init_17 : (.fieldLink RX3 32 "PourPlan" "forms" "[I" : Cond) ∈ wsX3_init := List.mem_of_getElem? (i := 17) rfl
theorem wd_X3_init_18 : (.fieldLink RX3 36 "PourPlan" "bestOrder" "[I" : Cond) ∈ wsX3_init := List.mem_of_getElem? (i := 18) rfl
theorem wd_X3_init_19 : (.fieldLink RX3 39 "PourPlan" "gangLimit" "I" : Cond) ∈ wsX3_init := List.mem_of_getElem? (i := 19) rfl
theorem wd_X3_init_20 : (.fieldLink RX3 43 "PourPlan" "today" "I" : Cond) ∈ wsX3_init := List.mem_of_getElem? (i := 20) rfl
theorem wd_X3_init_21 : (.fieldLink RX3 46 "PourPlan" "latestEnd" "I" : Cond) ∈ wsX3_init := List.mem_of_getElem? (i := 21) rfl
theorem wd_X3_init_22 : (.instanceMethod yX0_init : Cond) ∈ wsX3_init := List.mem_of_getElem? (i := 22) rfl
theorem wd_X3_init_49 : (.instanceMethod yX1_init : Cond) ∈ wsX3_init := List.mem_of_getElem? (i := 49) rfl
theorem wd_X3_init_62 : (.instanceMethod yX2_init : Cond) ∈ wsX3_init := List.mem_of_getElem? (i := 62) rfl
set_option maxHeartbeats 1000000 in
theorem pf_X3_init_1 (gw_10 : Nat → Int32) (gl_11 : Nat → Int32) (gs_15 : Nat → Int32) (g3_34 : Nat → Int32) (h_16 : (∀ j, j < 40 → gw_10 j = 20)) (h_17 : gl_11 0 = 500) (h_18 : gl_11 1 = 300) (h_19 : okS gs_15) (w_22 : okSz g3_34) : (∀ j, j < 40 → gw_10 j = 20) := by
  assumption
set_option maxHeartbeats 1000000 in
theorem pf_X3_init_2 (gw_10 : Nat → Int32) (gl_11 : Nat → Int32) (gs_15 : Nat → Int32) (g3_34 : Nat → Int32) (h_16 : (∀ j, j < 40 → gw_10 j = 20)) (h_17 : gl_11 0 = 500) (h_18 : gl_11 1 = 300) (h_19 : okS gs_15) (w_22 : okSz g3_34) : gl_11 0 = 500 := by
  assumption
set_option maxHeartbeats 1000000 in
theorem pf_X3_init_3 (gw_10 : Nat → Int32) (gl_11 : Nat → Int32) (gs_15 : Nat → Int32) (g3_34 : Nat → Int32) (h_16 : (∀ j, j < 40 → gw_10 j = 20)) (h_17 : gl_11 0 = 500) (h_18 : gl_11 1 = 300) (h_19 : okS gs_15) (w_22 : okSz g3_34) : gl_11 1 = 300 := by
  assumption
set_option maxHeartbeats 1000000 in
theorem pf_X3_init_4 (gw_10 : Nat → Int32) (gl_11 : Nat → Int32) (gs_15 : Nat → Int32) (g3_34 : Nat → Int32) (h_16 : (∀ j, j < 40 → gw_10 j = 20)) (h_17 : gl_11 0 = 500) (h_18 : gl_11 1 = 300) (h_19 : okS gs_15) (w_22 : okSz g3_34) : okS gs_15 := by
  assumption
set_option maxHeartbeats 1000000 in
theorem pf_X3_init_5 (gw_10 : Nat → Int32) (gl_11 : Nat → Int32) (gs_15 : Nat → Int32) (g3_34 : Nat → Int32) (h_16 : (∀ j, j < 40 → gw_10 j = 20)) (h_17 : gl_11 0 = 500) (h_18 : gl_11 1 = 300) (h_19 : okS gs_15) (w_22 : okSz g3_34) : okSz g3_34 := by
  assumption
set_option maxHeartbeats 1000000 in
theorem pf_X3_init_6 (gw_10 : Nat → Int32) (gl_11 : Nat → Int32) (gs_15 : Nat → Int32) (g3_34 : Nat → Int32) (h_16 : (∀ j, j < 40 → gw_10 j = 20)) (h_17 : gl_11 0 = 500) (h_18 : gl_11 1 = 300) (h_19 : okS gs_15) (w_22 : okSz g3_34) : (∀ j, j < 3 → (upd (upd (upd (fun _ => (0 : Int32)) 0 10) 1 10) 2 10) j = 10) := by
  intro j hj
  have h3 : j = 0 ∨ j = 1 ∨ j = 2 := by omega
  rcases h3 with rfl | rfl | rfl <;> simp [upd]
set_option maxHeartbeats 4000000 in
set_option maxRecDepth 100000 in
theorem c_X3_init (l : Launch) (D : va_G) (cI cQ : ClassId) (sz : Nat) (x : Nat) : CtV l yX3_init wsX3_init 4 91 30 351 [.ref x] D [(cI, .int), (cQ, .array .int)] [(x, .inr (3, [.null, .null, .null, .null, .null, .int 0, .int 0, .int 0]))] sz (fun (u : Nat × Nat × Nat × Nat × Nat × Nat × Nat × Nat × Nat × Nat × Nat × Nat × Nat × Nat × Nat × Nat × Nat × Nat × Nat × Nat × (Nat → Int32) × (Nat → Int32) × (Nat → Int32) × (Nat → Int32) × (Nat → Int32) × (Nat → Int32) × (Nat → Int32) × (Nat → Int32) × (Nat → Int32) × (Nat → Int32) × (Nat → Int32) × (Nat → Int32) × (Nat → Int32) × (Nat → Nat) × (Nat → Nat → Int32) × (Nat → Int32) × (Nat → Int32) × (Nat → Int32)) => (∀ j, j < 40 → u.2.2.2.2.2.2.2.2.2.2.2.2.2.2.2.2.2.2.2.2.1 j = 20) ∧ u.2.2.2.2.2.2.2.2.2.2.2.2.2.2.2.2.2.2.2.2.2.1 0 = 500 ∧ u.2.2.2.2.2.2.2.2.2.2.2.2.2.2.2.2.2.2.2.2.2.1 1 = 300 ∧ okS u.2.2.2.2.2.2.2.2.2.2.2.2.2.2.2.2.2.2.2.2.2.2.2.2.2.1 ∧ okSz u.2.2.2.2.2.2.2.2.2.2.2.2.2.2.2.2.2.2.2.2.2.2.2.2.2.2.2.2.2.1 ∧ (∀ j, j < 3 → u.2.2.2.2.2.2.2.2.2.2.2.2.2.2.2.2.2.2.2.2.2.2.2.2.2.2.2.2.2.2.2.2.2.2.2.2.1 j = 10)) (fun (u : Nat × Nat × Nat × Nat × Nat × Nat × Nat × Nat × Nat × Nat × Nat × Nat × Nat × Nat × Nat × Nat × Nat × Nat × Nat × Nat × (Nat → Int32) × (Nat → Int32) × (Nat → Int32) × (Nat → Int32) × (Nat → Int32) × (Nat → Int32) × (Nat → Int32) × (Nat → Int32) × (Nat → Int32) × (Nat → Int32) × (Nat → Int32) × (Nat → Int32) × (Nat → Int32) × (Nat → Nat) × (Nat → Nat → Int32) × (Nat → Int32) × (Nat → Int32) × (Nat → Int32)) => [(x, .inr (3, [.ref u.1, .ref u.2.1, .ref u.2.2.1, .ref u.2.2.2.1, .ref u.2.2.2.2.1, .int 100, .int 0, .int 0])), (u.1, .inr (0, [.ref u.2.2.2.2.2.1, .ref u.2.2.2.2.2.2.1, .ref u.2.2.2.2.2.2.2.1, .ref u.2.2.2.2.2.2.2.2.1, .ref u.2.2.2.2.2.2.2.2.2.1, .ref u.2.2.2.2.2.2.2.2.2.2.1, .int 0, .int 0])), (u.2.2.2.2.2.1, .inl (cI, 40, .inl u.2.2.2.2.2.2.2.2.2.2.2.2.2.2.2.2.2.2.2.2.1)), (u.2.2.2.2.2.2.1, .inl (cI, 2, .inl u.2.2.2.2.2.2.2.2.2.2.2.2.2.2.2.2.2.2.2.2.2.1)), (u.2.2.2.2.2.2.2.1, .inl (cI, 6, .inl u.2.2.2.2.2.2.2.2.2.2.2.2.2.2.2.2.2.2.2.2.2.2.1)), (u.2.2.2.2.2.2.2.2.1, .inl (cI, 6, .inl u.2.2.2.2.2.2.2.2.2.2.2.2.2.2.2.2.2.2.2.2.2.2.2.1)), (u.2.2.2.2.2.2.2.2.2.1, .inl (cI, 40, .inl u.2.2.2.2.2.2.2.2.2.2.2.2.2.2.2.2.2.2.2.2.2.2.2.2.1)), (u.2.2.2.2.2.2.2.2.2.2.1, .inl (cI, 40, .inl u.2.2.2.2.2.2.2.2.2.2.2.2.2.2.2.2.2.2.2.2.2.2.2.2.2.1)), (u.2.1, .inr (1, [.ref u.2.2.2.2.2.2.2.2.2.2.2.1, .ref u.2.2.2.2.2.2.2.2.2.2.2.2.1, .ref u.2.2.2.2.2.2.2.2.2.2.2.2.2.1, .ref u.2.2.2.2.2.2.2.2.2.2.2.2.2.2.1, .ref u.2.2.2.2.2.2.2.2.2.2.2.2.2.2.2.1, .ref u.2.2.2.2.2.2.2.2.2.2.2.2.2.2.2.2.1, .ref u.2.2.2.2.2.2.2.2.2.2.2.2.2.2.2.2.2.1, .ref u.2.2.2.2.2.2.2.2.2.2.2.2.2.2.2.2.2.2.1, .int 0])), (u.2.2.2.2.2.2.2.2.2.2.2.1, .inl (cI, 10, .inl u.2.2.2.2.2.2.2.2.2.2.2.2.2.2.2.2.2.2.2.2.2.2.2.2.2.2.1)), (u.2.2.2.2.2.2.2.2.2.2.2.2.1, .inl (cI, 10, .inl u.2.2.2.2.2.2.2.2.2.2.2.2.2.2.2.2.2.2.2.2.2.2.2.2.2.2.2.1)), (u.2.2.2.2.2.2.2.2.2.2.2.2.2.1, .inl (cI, 10, .inl u.2.2.2.2.2.2.2.2.2.2.2.2.2.2.2.2.2.2.2.2.2.2.2.2.2.2.2.2.1)), (u.2.2.2.2.2.2.2.2.2.2.2.2.2.2.1, .inl (cI, 10, .inl u.2.2.2.2.2.2.2.2.2.2.2.2.2.2.2.2.2.2.2.2.2.2.2.2.2.2.2.2.2.1)), (u.2.2.2.2.2.2.2.2.2.2.2.2.2.2.2.1, .inl (cI, 10, .inl u.2.2.2.2.2.2.2.2.2.2.2.2.2.2.2.2.2.2.2.2.2.2.2.2.2.2.2.2.2.2.1)), (u.2.2.2.2.2.2.2.2.2.2.2.2.2.2.2.2.1, .inl (cI, 10, .inl u.2.2.2.2.2.2.2.2.2.2.2.2.2.2.2.2.2.2.2.2.2.2.2.2.2.2.2.2.2.2.2.1)), (u.2.2.2.2.2.2.2.2.2.2.2.2.2.2.2.2.2.2.1, .inl (cI, 10, .inl u.2.2.2.2.2.2.2.2.2.2.2.2.2.2.2.2.2.2.2.2.2.2.2.2.2.2.2.2.2.2.2.2.1)), (u.2.2.2.2.2.2.2.2.2.2.2.2.2.2.2.2.2.1, .inl (cQ, 10, .inr (.inr (.inr (.inr (fun i => if i < 10 then some (u.2.2.2.2.2.2.2.2.2.2.2.2.2.2.2.2.2.2.2.2.2.2.2.2.2.2.2.2.2.2.2.2.2.1 i) else none)))))), ((u.2.2.2.2.2.2.2.2.2.2.2.2.2.2.2.2.2.2.2.2.2.2.2.2.2.2.2.2.2.2.2.2.2.1 0), .inl (cI, 10, .inl (u.2.2.2.2.2.2.2.2.2.2.2.2.2.2.2.2.2.2.2.2.2.2.2.2.2.2.2.2.2.2.2.2.2.2.1 0))), ((u.2.2.2.2.2.2.2.2.2.2.2.2.2.2.2.2.2.2.2.2.2.2.2.2.2.2.2.2.2.2.2.2.2.1 1), .inl (cI, 10, .inl (u.2.2.2.2.2.2.2.2.2.2.2.2.2.2.2.2.2.2.2.2.2.2.2.2.2.2.2.2.2.2.2.2.2.2.1 1))), ((u.2.2.2.2.2.2.2.2.2.2.2.2.2.2.2.2.2.2.2.2.2.2.2.2.2.2.2.2.2.2.2.2.2.1 2), .inl (cI, 10, .inl (u.2.2.2.2.2.2.2.2.2.2.2.2.2.2.2.2.2.2.2.2.2.2.2.2.2.2.2.2.2.2.2.2.2.2.1 2))), ((u.2.2.2.2.2.2.2.2.2.2.2.2.2.2.2.2.2.2.2.2.2.2.2.2.2.2.2.2.2.2.2.2.2.1 3), .inl (cI, 10, .inl (u.2.2.2.2.2.2.2.2.2.2.2.2.2.2.2.2.2.2.2.2.2.2.2.2.2.2.2.2.2.2.2.2.2.2.1 3))), ((u.2.2.2.2.2.2.2.2.2.2.2.2.2.2.2.2.2.2.2.2.2.2.2.2.2.2.2.2.2.2.2.2.2.1 4), .inl (cI, 10, .inl (u.2.2.2.2.2.2.2.2.2.2.2.2.2.2.2.2.2.2.2.2.2.2.2.2.2.2.2.2.2.2.2.2.2.2.1 4))), ((u.2.2.2.2.2.2.2.2.2.2.2.2.2.2.2.2.2.2.2.2.2.2.2.2.2.2.2.2.2.2.2.2.2.1 5), .inl (cI, 10, .inl (u.2.2.2.2.2.2.2.2.2.2.2.2.2.2.2.2.2.2.2.2.2.2.2.2.2.2.2.2.2.2.2.2.2.2.1 5))), ((u.2.2.2.2.2.2.2.2.2.2.2.2.2.2.2.2.2.2.2.2.2.2.2.2.2.2.2.2.2.2.2.2.2.1 6), .inl (cI, 10, .inl (u.2.2.2.2.2.2.2.2.2.2.2.2.2.2.2.2.2.2.2.2.2.2.2.2.2.2.2.2.2.2.2.2.2.2.1 6))), ((u.2.2.2.2.2.2.2.2.2.2.2.2.2.2.2.2.2.2.2.2.2.2.2.2.2.2.2.2.2.2.2.2.2.1 7), .inl (cI, 10, .inl (u.2.2.2.2.2.2.2.2.2.2.2.2.2.2.2.2.2.2.2.2.2.2.2.2.2.2.2.2.2.2.2.2.2.2.1 7))), ((u.2.2.2.2.2.2.2.2.2.2.2.2.2.2.2.2.2.2.2.2.2.2.2.2.2.2.2.2.2.2.2.2.2.1 8), .inl (cI, 10, .inl (u.2.2.2.2.2.2.2.2.2.2.2.2.2.2.2.2.2.2.2.2.2.2.2.2.2.2.2.2.2.2.2.2.2.2.1 8))), ((u.2.2.2.2.2.2.2.2.2.2.2.2.2.2.2.2.2.2.2.2.2.2.2.2.2.2.2.2.2.2.2.2.2.1 9), .inl (cI, 10, .inl (u.2.2.2.2.2.2.2.2.2.2.2.2.2.2.2.2.2.2.2.2.2.2.2.2.2.2.2.2.2.2.2.2.2.2.1 9))), (u.2.2.1, .inr (2, [.ref u.2.2.2.2.2.2.2.2.2.2.2.2.2.2.2.2.2.2.2.1, .int 0])), (u.2.2.2.2.2.2.2.2.2.2.2.2.2.2.2.2.2.2.2.1, .inl (cI, 10, .inl u.2.2.2.2.2.2.2.2.2.2.2.2.2.2.2.2.2.2.2.2.2.2.2.2.2.2.2.2.2.2.2.2.2.2.2.1)), (u.2.2.2.1, .inl (cI, 3, .inl u.2.2.2.2.2.2.2.2.2.2.2.2.2.2.2.2.2.2.2.2.2.2.2.2.2.2.2.2.2.2.2.2.2.2.2.2.1)), (u.2.2.2.2.1, .inl (cI, 5, .inl u.2.2.2.2.2.2.2.2.2.2.2.2.2.2.2.2.2.2.2.2.2.2.2.2.2.2.2.2.2.2.2.2.2.2.2.2.2))]) := by
  refine Met.ofW (cc := cX3_init) (maxL := 1) (ret := none) (by decide) rfl ?_
  intro p e s m args below meth c s₁ B hml hv
  obtain ⟨rfl, hsz, hP, hK, hD0, hN⟩ := hv
  have hx := B.exec
  have hb := B.bytes
  have hr := B.returns
  have hts := atoms_spec (ws := wsX3_init) B.pre
  have hown : s.vm.findClass RX3 = some m.cls := findClass_of_methodNamed B.named
  have hlocks := B.notSynchronized
  have hin : meth.name = "<init>" := (name_of_methodNamed B.named B.method).1
  subst hsz
  have hD := hD0.self (sz := s.heap.size)
  generalize hAe : va_A [(x, .inr (3, [.null, .null, .null, .null, .null, .int 0, .int 0, .int 0]))] s.heap.size = A at hD ⊢
  have hA : ∀ q : Nat, s.heap.size ≤ q → A q := fun q h => by rw [← hAe]; exact Or.inr h
  have hS : va_S A s.heap s.heap [] := va_S.rf
  have hl := lv_entry ([.ref x]) (n := 1) (Nat.le_of_ble_eq_true rfl)
  rw [lg_entry_eq]
  generalize (lg_sl ([.ref x]) ++ List.replicate (1 - (lg_sl ([.ref x])).length) Slot.unset).toArray = ls at hl ⊢
  have hl : lv_has ls 1 [(0, .ref x)] := hl
  have hP0 := hP
  refine lv_aload_n hx hb dX3_init_0 rfl (lv_at hl 0 rfl) ?_
  refine W.objInit hx hb hown (hts _ wd_X3_init_1) (hts _ wd_X3_init_2) (hts _ wd_X3_init_3) rfl (by rw [hml]; exact hl.1) rfl dX3_init_1 (Nat.le_of_ble_eq_true rfl) (Nat.le_of_ble_eq_true rfl) ?_
  refine W.eq (g2 := F0 m 4 ls []) rfl ?_
  refine lv_aload_n hx hb dX3_init_4 rfl (lv_at hl 0 rfl) ?_
  refine va_new (ci := 0) (fs := [.null, .null, .null, .null, .null, .null, .int 0, .int 0]) (C := RX0) (T := TX0) (N := 8) hx hb hts iw_X3_init_0 tyX0 tyX0_ok hown (hts _ wd_X3_init_4) (hts _ wd_X3_init_5) (hts _ wd_X3_init_6) hK hP hD hS hA rfl (fun j hj => by rcases (show j = 0 ∨ j = 1 ∨ j = 2 ∨ j = 3 ∨ j = 4 ∨ j = 5 ∨ j = 6 ∨ j = 7 by omega) with rfl | rfl | rfl | rfl | rfl | rfl | rfl | rfl <;> rfl) (Nat.le_of_ble_eq_true rfl) (Nat.le_of_ble_eq_true rfl) dX3_init_5 (fun q_1 H hP hD hS => ?_)
  have hP : va_P D vwCl [(x, .inr (3, [.null, .null, .null, .null, .null, .int 0, .int 0, .int 0])), (q_1, .inr (0, [.null, .null, .null, .null, .null, .null, .int 0, .int 0]))] H := hP
  have hD : va_D A [(x, .inr (3, [.null, .null, .null, .null, .null, .int 0, .int 0, .int 0])), (q_1, .inr (0, [.null, .null, .null, .null, .null, .null, .int 0, .int 0]))] := hD
  refine W.widen (k := 1) (n := 8) (Nat.le_of_ble_eq_true rfl) (Nat.le_of_ble_eq_true rfl) ?_
  refine lv_dup hx hb dX3_init_8 rfl ?_
  refine cc_v (wc := [(q_1, .inr (0, [.null, .null, .null, .null, .null, .null, .int 0, .int 0]))]) (wr := [(x, .inr (3, [.null, .null, .null, .null, .null, .int 0, .int 0, .int 0]))]) (va_runIN (As := []) (rest := [.ref q_1, .ref x]) ⟨hx, hb, hml, hown, hts⟩ (c_X0_init l D cI cQ H.size q_1 ) ⟨va_cnB 0 hts gX3_init_X0_init_n13 rfl rfl rfl (nwM_13 hN) (hts _ wd_X3_init_6) (by decide +kernel) ⟨Nat.le_of_ble_eq_true rfl, Nat.le_of_ble_eq_true rfl⟩, rfl, (hts _ wd_X3_init_22)⟩ (preS (wc := [(q_1, .inr (0, [.null, .null, .null, .null, .null, .null, .int 0, .int 0]))]) hK hP hD hN [1] rfl (by decide)) rfl rfl hl.1 rfl (lv_room (Nat.le_of_ble_eq_true rfl)) dX3_init_9 ⟨Nat.le_of_ble_eq_true rfl, Nat.le_of_ble_eq_true rfl⟩) hP hD hS hA [1] [0] rfl rfl (by decide) (by decide) (fun u H locs w_3 hP hD hS => ?_)
  obtain ⟨b0_4, b1_5, b2_6, b3_7, b4_8, b5_9, gw_10, gl_11, gd_12, gh_13, gg_14, gs_15⟩ := u
  have hP : va_P D vwCl [(x, .inr (3, [.null, .null, .null, .null, .null, .int 0, .int 0, .int 0])), (q_1, .inr (0, [.ref b0_4, .ref b1_5, .ref b2_6, .ref b3_7, .ref b4_8, .ref b5_9, .int 0, .int 0])), (b0_4, .inl (cI, 40, .inl gw_10)), (b1_5, .inl (cI, 2, .inl gl_11)), (b2_6, .inl (cI, 6, .inl gd_12)), (b3_7, .inl (cI, 6, .inl gh_13)), (b4_8, .inl (cI, 40, .inl gg_14)), (b5_9, .inl (cI, 40, .inl gs_15))] H := hP
  have hD : va_D A [(x, .inr (3, [.null, .null, .null, .null, .null, .int 0, .int 0, .int 0])), (q_1, .inr (0, [.ref b0_4, .ref b1_5, .ref b2_6, .ref b3_7, .ref b4_8, .ref b5_9, .int 0, .int 0])), (b0_4, .inl (cI, 40, .inl gw_10)), (b1_5, .inl (cI, 2, .inl gl_11)), (b2_6, .inl (cI, 6, .inl gd_12)), (b3_7, .inl (cI, 6, .inl gh_13)), (b4_8, .inl (cI, 40, .inl gg_14)), (b5_9, .inl (cI, 40, .inl gs_15))] := hD
  have w_3 : (∀ j, j < 40 → gw_10 j = 20) ∧ gl_11 0 = 500 ∧ gl_11 1 = 300 ∧ okS gs_15 := w_3
  obtain ⟨h_16, h_17, h_18, h_19⟩ := w_3
  refine W.widen (k := 7) (n := 142) (Nat.le_of_ble_eq_true rfl) (Nat.le_of_ble_eq_true rfl) ?_
  refine va_putF (D := D) (ci := 3) (v := .ref q_1) (ty := .object "PourPlan$Curing") (C := RX3) (T := TX3) (N := 8) hx hb hts iw_X3_init_3 tyX3 tyX3_ok nmX3 hown hK hP hD hS 0 rfl rfl 0 (by decide) (hts _ wd_X3_init_7) (fun _ h9 => h9) rfl hin rfl (by decide +kernel) rfl rfl (Nat.le_of_ble_eq_true rfl) dX3_init_12 (fun H locs hP hD hS => ?_)
  have hP : va_P D vwCl [(x, .inr (3, [.ref q_1, .null, .null, .null, .null, .int 0, .int 0, .int 0])), (q_1, .inr (0, [.ref b0_4, .ref b1_5, .ref b2_6, .ref b3_7, .ref b4_8, .ref b5_9, .int 0, .int 0])), (b0_4, .inl (cI, 40, .inl gw_10)), (b1_5, .inl (cI, 2, .inl gl_11)), (b2_6, .inl (cI, 6, .inl gd_12)), (b3_7, .inl (cI, 6, .inl gh_13)), (b4_8, .inl (cI, 40, .inl gg_14)), (b5_9, .inl (cI, 40, .inl gs_15))] H := hP
  have hD : va_D A [(x, .inr (3, [.ref q_1, .null, .null, .null, .null, .int 0, .int 0, .int 0])), (q_1, .inr (0, [.ref b0_4, .ref b1_5, .ref b2_6, .ref b3_7, .ref b4_8, .ref b5_9, .int 0, .int 0])), (b0_4, .inl (cI, 40, .inl gw_10)), (b1_5, .inl (cI, 2, .inl gl_11)), (b2_6, .inl (cI, 6, .inl gd_12)), (b3_7, .inl (cI, 6, .inl gh_13)), (b4_8, .inl (cI, 40, .inl gg_14)), (b5_9, .inl (cI, 40, .inl gs_15))] := hD
  refine lv_aload_n hx hb dX3_init_15 rfl (lv_at hl 0 rfl) ?_
  refine va_new (ci := 1) (fs := [.null, .null, .null, .null, .null, .null, .null, .null, .int 0]) (C := RX1) (T := TX1) (N := 9) hx hb hts iw_X3_init_1 tyX1 tyX1_ok hown (hts _ wd_X3_init_8) (hts _ wd_X3_init_9) (hts _ wd_X3_init_10) hK hP hD hS hA rfl (fun j hj => by rcases (show j = 0 ∨ j = 1 ∨ j = 2 ∨ j = 3 ∨ j = 4 ∨ j = 5 ∨ j = 6 ∨ j = 7 ∨ j = 8 by omega) with rfl | rfl | rfl | rfl | rfl | rfl | rfl | rfl | rfl <;> rfl) (Nat.le_of_ble_eq_true rfl) (Nat.le_of_ble_eq_true rfl) dX3_init_16 (fun q_20 H hP hD hS => ?_)
  have hP : va_P D vwCl [(x, .inr (3, [.ref q_1, .null, .null, .null, .null, .int 0, .int 0, .int 0])), (q_1, .inr (0, [.ref b0_4, .ref b1_5, .ref b2_6, .ref b3_7, .ref b4_8, .ref b5_9, .int 0, .int 0])), (b0_4, .inl (cI, 40, .inl gw_10)), (b1_5, .inl (cI, 2, .inl gl_11)), (b2_6, .inl (cI, 6, .inl gd_12)), (b3_7, .inl (cI, 6, .inl gh_13)), (b4_8, .inl (cI, 40, .inl gg_14)), (b5_9, .inl (cI, 40, .inl gs_15)), (q_20, .inr (1, [.null, .null, .null, .null, .null, .null, .null, .null, .int 0]))] H := hP
  have hD : va_D A [(x, .inr (3, [.ref q_1, .null, .null, .null, .null, .int 0, .int 0, .int 0])), (q_1, .inr (0, [.ref b0_4, .ref b1_5, .ref b2_6, .ref b3_7, .ref b4_8, .ref b5_9, .int 0, .int 0])), (b0_4, .inl (cI, 40, .inl gw_10)), (b1_5, .inl (cI, 2, .inl gl_11)), (b2_6, .inl (cI, 6, .inl gd_12)), (b3_7, .inl (cI, 6, .inl gh_13)), (b4_8, .inl (cI, 40, .inl gg_14)), (b5_9, .inl (cI, 40, .inl gs_15)), (q_20, .inr (1, [.null, .null, .null, .null, .null, .null, .null, .null, .int 0]))] := hD
  refine W.widen (k := 8) (n := 151) (Nat.le_of_ble_eq_true rfl) (Nat.le_of_ble_eq_true rfl) ?_
  refine lv_dup hx hb dX3_init_19 rfl ?_
  refine cc_v (wc := [(q_20, .inr (1, [.null, .null, .null, .null, .null, .null, .null, .null, .int 0]))]) (wr := [(x, .inr (3, [.ref q_1, .null, .null, .null, .null, .int 0, .int 0, .int 0])), (q_1, .inr (0, [.ref b0_4, .ref b1_5, .ref b2_6, .ref b3_7, .ref b4_8, .ref b5_9, .int 0, .int 0])), (b0_4, .inl (cI, 40, .inl gw_10)), (b1_5, .inl (cI, 2, .inl gl_11)), (b2_6, .inl (cI, 6, .inl gd_12)), (b3_7, .inl (cI, 6, .inl gh_13)), (b4_8, .inl (cI, 40, .inl gg_14)), (b5_9, .inl (cI, 40, .inl gs_15))]) (va_runIN (As := []) (rest := [.ref q_20, .ref x]) ⟨hx, hb, hml, hown, hts⟩ (c_X1_init l D cI cQ H.size q_20 ) ⟨va_cnB 0 hts gX3_init_X1_init_n20 rfl rfl rfl (nwM_20 hN) (hts _ wd_X3_init_10) (by decide +kernel) ⟨Nat.le_of_ble_eq_true rfl, Nat.le_of_ble_eq_true rfl⟩, rfl, (hts _ wd_X3_init_49)⟩ (preS (wc := [(q_20, .inr (1, [.null, .null, .null, .null, .null, .null, .null, .null, .int 0]))]) hK hP hD hN [8] rfl (by decide)) rfl rfl hl.1 rfl (lv_room (Nat.le_of_ble_eq_true rfl)) dX3_init_20 ⟨Nat.le_of_ble_eq_true rfl, Nat.le_of_ble_eq_true rfl⟩) hP hD hS hA [8] [0, 1, 2, 3, 4, 5, 6, 7] rfl rfl (by decide) (by decide) (fun u H locs w_22 hP hD hS => ?_)
  obtain ⟨b0_23, b1_24, b2_25, b3_26, b4_27, b5_28, b6_29, b7_30, g0_31, g1_32, g2_33, g3_34, g4_35, g5_36, g7_37, RR_38, MM_39⟩ := u
  have hP : va_P D vwCl [(x, .inr (3, [.ref q_1, .null, .null, .null, .null, .int 0, .int 0, .int 0])), (q_1, .inr (0, [.ref b0_4, .ref b1_5, .ref b2_6, .ref b3_7, .ref b4_8, .ref b5_9, .int 0, .int 0])), (b0_4, .inl (cI, 40, .inl gw_10)), (b1_5, .inl (cI, 2, .inl gl_11)), (b2_6, .inl (cI, 6, .inl gd_12)), (b3_7, .inl (cI, 6, .inl gh_13)), (b4_8, .inl (cI, 40, .inl gg_14)), (b5_9, .inl (cI, 40, .inl gs_15)), (q_20, .inr (1, [.ref b0_23, .ref b1_24, .ref b2_25, .ref b3_26, .ref b4_27, .ref b5_28, .ref b6_29, .ref b7_30, .int 0])), (b0_23, .inl (cI, 10, .inl g0_31)), (b1_24, .inl (cI, 10, .inl g1_32)), (b2_25, .inl (cI, 10, .inl g2_33)), (b3_26, .inl (cI, 10, .inl g3_34)), (b4_27, .inl (cI, 10, .inl g4_35)), (b5_28, .inl (cI, 10, .inl g5_36)), (b7_30, .inl (cI, 10, .inl g7_37)), (b6_29, .inl (cQ, 10, .inr (.inr (.inr (.inr (fun i => if i < 10 then some (RR_38 i) else none)))))), ((RR_38 0), .inl (cI, 10, .inl (MM_39 0))), ((RR_38 1), .inl (cI, 10, .inl (MM_39 1))), ((RR_38 2), .inl (cI, 10, .inl (MM_39 2))), ((RR_38 3), .inl (cI, 10, .inl (MM_39 3))), ((RR_38 4), .inl (cI, 10, .inl (MM_39 4))), ((RR_38 5), .inl (cI, 10, .inl (MM_39 5))), ((RR_38 6), .inl (cI, 10, .inl (MM_39 6))), ((RR_38 7), .inl (cI, 10, .inl (MM_39 7))), ((RR_38 8), .inl (cI, 10, .inl (MM_39 8))), ((RR_38 9), .inl (cI, 10, .inl (MM_39 9)))] H := hP
  have hD : va_D A [(x, .inr (3, [.ref q_1, .null, .null, .null, .null, .int 0, .int 0, .int 0])), (q_1, .inr (0, [.ref b0_4, .ref b1_5, .ref b2_6, .ref b3_7, .ref b4_8, .ref b5_9, .int 0, .int 0])), (b0_4, .inl (cI, 40, .inl gw_10)), (b1_5, .inl (cI, 2, .inl gl_11)), (b2_6, .inl (cI, 6, .inl gd_12)), (b3_7, .inl (cI, 6, .inl gh_13)), (b4_8, .inl (cI, 40, .inl gg_14)), (b5_9, .inl (cI, 40, .inl gs_15)), (q_20, .inr (1, [.ref b0_23, .ref b1_24, .ref b2_25, .ref b3_26, .ref b4_27, .ref b5_28, .ref b6_29, .ref b7_30, .int 0])), (b0_23, .inl (cI, 10, .inl g0_31)), (b1_24, .inl (cI, 10, .inl g1_32)), (b2_25, .inl (cI, 10, .inl g2_33)), (b3_26, .inl (cI, 10, .inl g3_34)), (b4_27, .inl (cI, 10, .inl g4_35)), (b5_28, .inl (cI, 10, .inl g5_36)), (b7_30, .inl (cI, 10, .inl g7_37)), (b6_29, .inl (cQ, 10, .inr (.inr (.inr (.inr (fun i => if i < 10 then some (RR_38 i) else none)))))), ((RR_38 0), .inl (cI, 10, .inl (MM_39 0))), ((RR_38 1), .inl (cI, 10, .inl (MM_39 1))), ((RR_38 2), .inl (cI, 10, .inl (MM_39 2))), ((RR_38 3), .inl (cI, 10, .inl (MM_39 3))), ((RR_38 4), .inl (cI, 10, .inl (MM_39 4))), ((RR_38 5), .inl (cI, 10, .inl (MM_39 5))), ((RR_38 6), .inl (cI, 10, .inl (MM_39 6))), ((RR_38 7), .inl (cI, 10, .inl (MM_39 7))), ((RR_38 8), .inl (cI, 10, .inl (MM_39 8))), ((RR_38 9), .inl (cI, 10, .inl (MM_39 9)))] := hD
  have w_22 : okSz g3_34 := w_22
  refine W.widen (k := 26) (n := 331) (Nat.le_of_ble_eq_true rfl) (Nat.le_of_ble_eq_true rfl) ?_
  refine va_putF (D := D) (ci := 3) (v := .ref q_20) (ty := .object "PourPlan$Pieces") (C := RX3) (T := TX3) (N := 8) hx hb hts iw_X3_init_3 tyX3 tyX3_ok nmX3 hown hK hP hD hS 0 rfl rfl 1 (by decide) (hts _ wd_X3_init_11) (fun _ h9 => h9) rfl hin rfl (by decide +kernel) rfl rfl (Nat.le_of_ble_eq_true rfl) dX3_init_23 (fun H locs hP hD hS => ?_)
  have hP : va_P D vwCl [(x, .inr (3, [.ref q_1, .ref q_20, .null, .null, .null, .int 0, .int 0, .int 0])), (q_1, .inr (0, [.ref b0_4, .ref b1_5, .ref b2_6, .ref b3_7, .ref b4_8, .ref b5_9, .int 0, .int 0])), (b0_4, .inl (cI, 40, .inl gw_10)), (b1_5, .inl (cI, 2, .inl gl_11)), (b2_6, .inl (cI, 6, .inl gd_12)), (b3_7, .inl (cI, 6, .inl gh_13)), (b4_8, .inl (cI, 40, .inl gg_14)), (b5_9, .inl (cI, 40, .inl gs_15)), (q_20, .inr (1, [.ref b0_23, .ref b1_24, .ref b2_25, .ref b3_26, .ref b4_27, .ref b5_28, .ref b6_29, .ref b7_30, .int 0])), (b0_23, .inl (cI, 10, .inl g0_31)), (b1_24, .inl (cI, 10, .inl g1_32)), (b2_25, .inl (cI, 10, .inl g2_33)), (b3_26, .inl (cI, 10, .inl g3_34)), (b4_27, .inl (cI, 10, .inl g4_35)), (b5_28, .inl (cI, 10, .inl g5_36)), (b7_30, .inl (cI, 10, .inl g7_37)), (b6_29, .inl (cQ, 10, .inr (.inr (.inr (.inr (fun i => if i < 10 then some (RR_38 i) else none)))))), ((RR_38 0), .inl (cI, 10, .inl (MM_39 0))), ((RR_38 1), .inl (cI, 10, .inl (MM_39 1))), ((RR_38 2), .inl (cI, 10, .inl (MM_39 2))), ((RR_38 3), .inl (cI, 10, .inl (MM_39 3))), ((RR_38 4), .inl (cI, 10, .inl (MM_39 4))), ((RR_38 5), .inl (cI, 10, .inl (MM_39 5))), ((RR_38 6), .inl (cI, 10, .inl (MM_39 6))), ((RR_38 7), .inl (cI, 10, .inl (MM_39 7))), ((RR_38 8), .inl (cI, 10, .inl (MM_39 8))), ((RR_38 9), .inl (cI, 10, .inl (MM_39 9)))] H := hP
  have hD : va_D A [(x, .inr (3, [.ref q_1, .ref q_20, .null, .null, .null, .int 0, .int 0, .int 0])), (q_1, .inr (0, [.ref b0_4, .ref b1_5, .ref b2_6, .ref b3_7, .ref b4_8, .ref b5_9, .int 0, .int 0])), (b0_4, .inl (cI, 40, .inl gw_10)), (b1_5, .inl (cI, 2, .inl gl_11)), (b2_6, .inl (cI, 6, .inl gd_12)), (b3_7, .inl (cI, 6, .inl gh_13)), (b4_8, .inl (cI, 40, .inl gg_14)), (b5_9, .inl (cI, 40, .inl gs_15)), (q_20, .inr (1, [.ref b0_23, .ref b1_24, .ref b2_25, .ref b3_26, .ref b4_27, .ref b5_28, .ref b6_29, .ref b7_30, .int 0])), (b0_23, .inl (cI, 10, .inl g0_31)), (b1_24, .inl (cI, 10, .inl g1_32)), (b2_25, .inl (cI, 10, .inl g2_33)), (b3_26, .inl (cI, 10, .inl g3_34)), (b4_27, .inl (cI, 10, .inl g4_35)), (b5_28, .inl (cI, 10, .inl g5_36)), (b7_30, .inl (cI, 10, .inl g7_37)), (b6_29, .inl (cQ, 10, .inr (.inr (.inr (.inr (fun i => if i < 10 then some (RR_38 i) else none)))))), ((RR_38 0), .inl (cI, 10, .inl (MM_39 0))), ((RR_38 1), .inl (cI, 10, .inl (MM_39 1))), ((RR_38 2), .inl (cI, 10, .inl (MM_39 2))), ((RR_38 3), .inl (cI, 10, .inl (MM_39 3))), ((RR_38 4), .inl (cI, 10, .inl (MM_39 4))), ((RR_38 5), .inl (cI, 10, .inl (MM_39 5))), ((RR_38 6), .inl (cI, 10, .inl (MM_39 6))), ((RR_38 7), .inl (cI, 10, .inl (MM_39 7))), ((RR_38 8), .inl (cI, 10, .inl (MM_39 8))), ((RR_38 9), .inl (cI, 10, .inl (MM_39 9)))] := hD
  refine lv_aload_n hx hb dX3_init_26 rfl (lv_at hl 0 rfl) ?_
  refine va_new (ci := 2) (fs := [.null, .int 0]) (C := RX2) (T := TX2) (N := 2) hx hb hts iw_X3_init_2 tyX2 tyX2_ok hown (hts _ wd_X3_init_12) (hts _ wd_X3_init_13) (hts _ wd_X3_init_14) hK hP hD hS hA rfl (fun j hj => by rcases (show j = 0 ∨ j = 1 by omega) with rfl | rfl <;> rfl) (Nat.le_of_ble_eq_true rfl) (Nat.le_of_ble_eq_true rfl) dX3_init_27 (fun q_41 H hP hD hS => ?_)
  have hP : va_P D vwCl [(x, .inr (3, [.ref q_1, .ref q_20, .null, .null, .null, .int 0, .int 0, .int 0])), (q_1, .inr (0, [.ref b0_4, .ref b1_5, .ref b2_6, .ref b3_7, .ref b4_8, .ref b5_9, .int 0, .int 0])), (b0_4, .inl (cI, 40, .inl gw_10)), (b1_5, .inl (cI, 2, .inl gl_11)), (b2_6, .inl (cI, 6, .inl gd_12)), (b3_7, .inl (cI, 6, .inl gh_13)), (b4_8, .inl (cI, 40, .inl gg_14)), (b5_9, .inl (cI, 40, .inl gs_15)), (q_20, .inr (1, [.ref b0_23, .ref b1_24, .ref b2_25, .ref b3_26, .ref b4_27, .ref b5_28, .ref b6_29, .ref b7_30, .int 0])), (b0_23, .inl (cI, 10, .inl g0_31)), (b1_24, .inl (cI, 10, .inl g1_32)), (b2_25, .inl (cI, 10, .inl g2_33)), (b3_26, .inl (cI, 10, .inl g3_34)), (b4_27, .inl (cI, 10, .inl g4_35)), (b5_28, .inl (cI, 10, .inl g5_36)), (b7_30, .inl (cI, 10, .inl g7_37)), (b6_29, .inl (cQ, 10, .inr (.inr (.inr (.inr (fun i => if i < 10 then some (RR_38 i) else none)))))), ((RR_38 0), .inl (cI, 10, .inl (MM_39 0))), ((RR_38 1), .inl (cI, 10, .inl (MM_39 1))), ((RR_38 2), .inl (cI, 10, .inl (MM_39 2))), ((RR_38 3), .inl (cI, 10, .inl (MM_39 3))), ((RR_38 4), .inl (cI, 10, .inl (MM_39 4))), ((RR_38 5), .inl (cI, 10, .inl (MM_39 5))), ((RR_38 6), .inl (cI, 10, .inl (MM_39 6))), ((RR_38 7), .inl (cI, 10, .inl (MM_39 7))), ((RR_38 8), .inl (cI, 10, .inl (MM_39 8))), ((RR_38 9), .inl (cI, 10, .inl (MM_39 9))), (q_41, .inr (2, [.null, .int 0]))] H := hP
  have hD : va_D A [(x, .inr (3, [.ref q_1, .ref q_20, .null, .null, .null, .int 0, .int 0, .int 0])), (q_1, .inr (0, [.ref b0_4, .ref b1_5, .ref b2_6, .ref b3_7, .ref b4_8, .ref b5_9, .int 0, .int 0])), (b0_4, .inl (cI, 40, .inl gw_10)), (b1_5, .inl (cI, 2, .inl gl_11)), (b2_6, .inl (cI, 6, .inl gd_12)), (b3_7, .inl (cI, 6, .inl gh_13)), (b4_8, .inl (cI, 40, .inl gg_14)), (b5_9, .inl (cI, 40, .inl gs_15)), (q_20, .inr (1, [.ref b0_23, .ref b1_24, .ref b2_25, .ref b3_26, .ref b4_27, .ref b5_28, .ref b6_29, .ref b7_30, .int 0])), (b0_23, .inl (cI, 10, .inl g0_31)), (b1_24, .inl (cI, 10, .inl g1_32)), (b2_25, .inl (cI, 10, .inl g2_33)), (b3_26, .inl (cI, 10, .inl g3_34)), (b4_27, .inl (cI, 10, .inl g4_35)), (b5_28, .inl (cI, 10, .inl g5_36)), (b7_30, .inl (cI, 10, .inl g7_37)), (b6_29, .inl (cQ, 10, .inr (.inr (.inr (.inr (fun i => if i < 10 then some (RR_38 i) else none)))))), ((RR_38 0), .inl (cI, 10, .inl (MM_39 0))), ((RR_38 1), .inl (cI, 10, .inl (MM_39 1))), ((RR_38 2), .inl (cI, 10, .inl (MM_39 2))), ((RR_38 3), .inl (cI, 10, .inl (MM_39 3))), ((RR_38 4), .inl (cI, 10, .inl (MM_39 4))), ((RR_38 5), .inl (cI, 10, .inl (MM_39 5))), ((RR_38 6), .inl (cI, 10, .inl (MM_39 6))), ((RR_38 7), .inl (cI, 10, .inl (MM_39 7))), ((RR_38 8), .inl (cI, 10, .inl (MM_39 8))), ((RR_38 9), .inl (cI, 10, .inl (MM_39 9))), (q_41, .inr (2, [.null, .int 0]))] := hD
  refine W.widen (k := 27) (n := 333) (Nat.le_of_ble_eq_true rfl) (Nat.le_of_ble_eq_true rfl) ?_
  refine lv_dup hx hb dX3_init_30 rfl ?_
  refine cc_v (wc := [(q_41, .inr (2, [.null, .int 0]))]) (wr := [(x, .inr (3, [.ref q_1, .ref q_20, .null, .null, .null, .int 0, .int 0, .int 0])), (q_1, .inr (0, [.ref b0_4, .ref b1_5, .ref b2_6, .ref b3_7, .ref b4_8, .ref b5_9, .int 0, .int 0])), (b0_4, .inl (cI, 40, .inl gw_10)), (b1_5, .inl (cI, 2, .inl gl_11)), (b2_6, .inl (cI, 6, .inl gd_12)), (b3_7, .inl (cI, 6, .inl gh_13)), (b4_8, .inl (cI, 40, .inl gg_14)), (b5_9, .inl (cI, 40, .inl gs_15)), (q_20, .inr (1, [.ref b0_23, .ref b1_24, .ref b2_25, .ref b3_26, .ref b4_27, .ref b5_28, .ref b6_29, .ref b7_30, .int 0])), (b0_23, .inl (cI, 10, .inl g0_31)), (b1_24, .inl (cI, 10, .inl g1_32)), (b2_25, .inl (cI, 10, .inl g2_33)), (b3_26, .inl (cI, 10, .inl g3_34)), (b4_27, .inl (cI, 10, .inl g4_35)), (b5_28, .inl (cI, 10, .inl g5_36)), (b7_30, .inl (cI, 10, .inl g7_37)), (b6_29, .inl (cQ, 10, .inr (.inr (.inr (.inr (fun i => if i < 10 then some (RR_38 i) else none)))))), ((RR_38 0), .inl (cI, 10, .inl (MM_39 0))), ((RR_38 1), .inl (cI, 10, .inl (MM_39 1))), ((RR_38 2), .inl (cI, 10, .inl (MM_39 2))), ((RR_38 3), .inl (cI, 10, .inl (MM_39 3))), ((RR_38 4), .inl (cI, 10, .inl (MM_39 4))), ((RR_38 5), .inl (cI, 10, .inl (MM_39 5))), ((RR_38 6), .inl (cI, 10, .inl (MM_39 6))), ((RR_38 7), .inl (cI, 10, .inl (MM_39 7))), ((RR_38 8), .inl (cI, 10, .inl (MM_39 8))), ((RR_38 9), .inl (cI, 10, .inl (MM_39 9)))]) (va_runIN (As := []) (rest := [.ref q_41, .ref x]) ⟨hx, hb, hml, hown, hts⟩ (c_X2_init l D cI cQ H.size q_41 ) ⟨va_cnB 0 hts gX3_init_X2_init_n27 rfl rfl rfl (nwM_27 hN) (hts _ wd_X3_init_14) (by decide +kernel) ⟨Nat.le_of_ble_eq_true rfl, Nat.le_of_ble_eq_true rfl⟩, rfl, (hts _ wd_X3_init_62)⟩ (preS (wc := [(q_41, .inr (2, [.null, .int 0]))]) hK hP hD hN [27] rfl (by decide)) rfl rfl hl.1 rfl (lv_room (Nat.le_of_ble_eq_true rfl)) dX3_init_31 ⟨Nat.le_of_ble_eq_true rfl, Nat.le_of_ble_eq_true rfl⟩) hP hD hS hA [27] [0, 1, 2, 3, 4, 5, 6, 7, 8, 9, 10, 11, 12, 13, 14, 15, 16, 17, 18, 19, 20, 21, 22, 23, 24, 25, 26] rfl rfl (by decide) (by decide) (fun u H locs w_43 hP hD hS => ?_)
  obtain ⟨b0_44, g0_45⟩ := u
  have hP : va_P D vwCl [(x, .inr (3, [.ref q_1, .ref q_20, .null, .null, .null, .int 0, .int 0, .int 0])), (q_1, .inr (0, [.ref b0_4, .ref b1_5, .ref b2_6, .ref b3_7, .ref b4_8, .ref b5_9, .int 0, .int 0])), (b0_4, .inl (cI, 40, .inl gw_10)), (b1_5, .inl (cI, 2, .inl gl_11)), (b2_6, .inl (cI, 6, .inl gd_12)), (b3_7, .inl (cI, 6, .inl gh_13)), (b4_8, .inl (cI, 40, .inl gg_14)), (b5_9, .inl (cI, 40, .inl gs_15)), (q_20, .inr (1, [.ref b0_23, .ref b1_24, .ref b2_25, .ref b3_26, .ref b4_27, .ref b5_28, .ref b6_29, .ref b7_30, .int 0])), (b0_23, .inl (cI, 10, .inl g0_31)), (b1_24, .inl (cI, 10, .inl g1_32)), (b2_25, .inl (cI, 10, .inl g2_33)), (b3_26, .inl (cI, 10, .inl g3_34)), (b4_27, .inl (cI, 10, .inl g4_35)), (b5_28, .inl (cI, 10, .inl g5_36)), (b7_30, .inl (cI, 10, .inl g7_37)), (b6_29, .inl (cQ, 10, .inr (.inr (.inr (.inr (fun i => if i < 10 then some (RR_38 i) else none)))))), ((RR_38 0), .inl (cI, 10, .inl (MM_39 0))), ((RR_38 1), .inl (cI, 10, .inl (MM_39 1))), ((RR_38 2), .inl (cI, 10, .inl (MM_39 2))), ((RR_38 3), .inl (cI, 10, .inl (MM_39 3))), ((RR_38 4), .inl (cI, 10, .inl (MM_39 4))), ((RR_38 5), .inl (cI, 10, .inl (MM_39 5))), ((RR_38 6), .inl (cI, 10, .inl (MM_39 6))), ((RR_38 7), .inl (cI, 10, .inl (MM_39 7))), ((RR_38 8), .inl (cI, 10, .inl (MM_39 8))), ((RR_38 9), .inl (cI, 10, .inl (MM_39 9))), (q_41, .inr (2, [.ref b0_44, .int 0])), (b0_44, .inl (cI, 10, .inl g0_45))] H := hP
  have hD : va_D A [(x, .inr (3, [.ref q_1, .ref q_20, .null, .null, .null, .int 0, .int 0, .int 0])), (q_1, .inr (0, [.ref b0_4, .ref b1_5, .ref b2_6, .ref b3_7, .ref b4_8, .ref b5_9, .int 0, .int 0])), (b0_4, .inl (cI, 40, .inl gw_10)), (b1_5, .inl (cI, 2, .inl gl_11)), (b2_6, .inl (cI, 6, .inl gd_12)), (b3_7, .inl (cI, 6, .inl gh_13)), (b4_8, .inl (cI, 40, .inl gg_14)), (b5_9, .inl (cI, 40, .inl gs_15)), (q_20, .inr (1, [.ref b0_23, .ref b1_24, .ref b2_25, .ref b3_26, .ref b4_27, .ref b5_28, .ref b6_29, .ref b7_30, .int 0])), (b0_23, .inl (cI, 10, .inl g0_31)), (b1_24, .inl (cI, 10, .inl g1_32)), (b2_25, .inl (cI, 10, .inl g2_33)), (b3_26, .inl (cI, 10, .inl g3_34)), (b4_27, .inl (cI, 10, .inl g4_35)), (b5_28, .inl (cI, 10, .inl g5_36)), (b7_30, .inl (cI, 10, .inl g7_37)), (b6_29, .inl (cQ, 10, .inr (.inr (.inr (.inr (fun i => if i < 10 then some (RR_38 i) else none)))))), ((RR_38 0), .inl (cI, 10, .inl (MM_39 0))), ((RR_38 1), .inl (cI, 10, .inl (MM_39 1))), ((RR_38 2), .inl (cI, 10, .inl (MM_39 2))), ((RR_38 3), .inl (cI, 10, .inl (MM_39 3))), ((RR_38 4), .inl (cI, 10, .inl (MM_39 4))), ((RR_38 5), .inl (cI, 10, .inl (MM_39 5))), ((RR_38 6), .inl (cI, 10, .inl (MM_39 6))), ((RR_38 7), .inl (cI, 10, .inl (MM_39 7))), ((RR_38 8), .inl (cI, 10, .inl (MM_39 8))), ((RR_38 9), .inl (cI, 10, .inl (MM_39 9))), (q_41, .inr (2, [.ref b0_44, .int 0])), (b0_44, .inl (cI, 10, .inl g0_45))] := hD
  refine W.widen (k := 28) (n := 343) (Nat.le_of_ble_eq_true rfl) (Nat.le_of_ble_eq_true rfl) ?_
  refine va_putF (D := D) (ci := 3) (v := .ref q_41) (ty := .object "PourPlan$Sequence") (C := RX3) (T := TX3) (N := 8) hx hb hts iw_X3_init_3 tyX3 tyX3_ok nmX3 hown hK hP hD hS 0 rfl rfl 2 (by decide) (hts _ wd_X3_init_15) (fun _ h9 => h9) rfl hin rfl (by decide +kernel) rfl rfl (Nat.le_of_ble_eq_true rfl) dX3_init_34 (fun H locs hP hD hS => ?_)
  have hP : va_P D vwCl [(x, .inr (3, [.ref q_1, .ref q_20, .ref q_41, .null, .null, .int 0, .int 0, .int 0])), (q_1, .inr (0, [.ref b0_4, .ref b1_5, .ref b2_6, .ref b3_7, .ref b4_8, .ref b5_9, .int 0, .int 0])), (b0_4, .inl (cI, 40, .inl gw_10)), (b1_5, .inl (cI, 2, .inl gl_11)), (b2_6, .inl (cI, 6, .inl gd_12)), (b3_7, .inl (cI, 6, .inl gh_13)), (b4_8, .inl (cI, 40, .inl gg_14)), (b5_9, .inl (cI, 40, .inl gs_15)), (q_20, .inr (1, [.ref b0_23, .ref b1_24, .ref b2_25, .ref b3_26, .ref b4_27, .ref b5_28, .ref b6_29, .ref b7_30, .int 0])), (b0_23, .inl (cI, 10, .inl g0_31)), (b1_24, .inl (cI, 10, .inl g1_32)), (b2_25, .inl (cI, 10, .inl g2_33)), (b3_26, .inl (cI, 10, .inl g3_34)), (b4_27, .inl (cI, 10, .inl g4_35)), (b5_28, .inl (cI, 10, .inl g5_36)), (b7_30, .inl (cI, 10, .inl g7_37)), (b6_29, .inl (cQ, 10, .inr (.inr (.inr (.inr (fun i => if i < 10 then some (RR_38 i) else none)))))), ((RR_38 0), .inl (cI, 10, .inl (MM_39 0))), ((RR_38 1), .inl (cI, 10, .inl (MM_39 1))), ((RR_38 2), .inl (cI, 10, .inl (MM_39 2))), ((RR_38 3), .inl (cI, 10, .inl (MM_39 3))), ((RR_38 4), .inl (cI, 10, .inl (MM_39 4))), ((RR_38 5), .inl (cI, 10, .inl (MM_39 5))), ((RR_38 6), .inl (cI, 10, .inl (MM_39 6))), ((RR_38 7), .inl (cI, 10, .inl (MM_39 7))), ((RR_38 8), .inl (cI, 10, .inl (MM_39 8))), ((RR_38 9), .inl (cI, 10, .inl (MM_39 9))), (q_41, .inr (2, [.ref b0_44, .int 0])), (b0_44, .inl (cI, 10, .inl g0_45))] H := hP
  have hD : va_D A [(x, .inr (3, [.ref q_1, .ref q_20, .ref q_41, .null, .null, .int 0, .int 0, .int 0])), (q_1, .inr (0, [.ref b0_4, .ref b1_5, .ref b2_6, .ref b3_7, .ref b4_8, .ref b5_9, .int 0, .int 0])), (b0_4, .inl (cI, 40, .inl gw_10)), (b1_5, .inl (cI, 2, .inl gl_11)), (b2_6, .inl (cI, 6, .inl gd_12)), (b3_7, .inl (cI, 6, .inl gh_13)), (b4_8, .inl (cI, 40, .inl gg_14)), (b5_9, .inl (cI, 40, .inl gs_15)), (q_20, .inr (1, [.ref b0_23, .ref b1_24, .ref b2_25, .ref b3_26, .ref b4_27, .ref b5_28, .ref b6_29, .ref b7_30, .int 0])), (b0_23, .inl (cI, 10, .inl g0_31)), (b1_24, .inl (cI, 10, .inl g1_32)), (b2_25, .inl (cI, 10, .inl g2_33)), (b3_26, .inl (cI, 10, .inl g3_34)), (b4_27, .inl (cI, 10, .inl g4_35)), (b5_28, .inl (cI, 10, .inl g5_36)), (b7_30, .inl (cI, 10, .inl g7_37)), (b6_29, .inl (cQ, 10, .inr (.inr (.inr (.inr (fun i => if i < 10 then some (RR_38 i) else none)))))), ((RR_38 0), .inl (cI, 10, .inl (MM_39 0))), ((RR_38 1), .inl (cI, 10, .inl (MM_39 1))), ((RR_38 2), .inl (cI, 10, .inl (MM_39 2))), ((RR_38 3), .inl (cI, 10, .inl (MM_39 3))), ((RR_38 4), .inl (cI, 10, .inl (MM_39 4))), ((RR_38 5), .inl (cI, 10, .inl (MM_39 5))), ((RR_38 6), .inl (cI, 10, .inl (MM_39 6))), ((RR_38 7), .inl (cI, 10, .inl (MM_39 7))), ((RR_38 8), .inl (cI, 10, .inl (MM_39 8))), ((RR_38 9), .inl (cI, 10, .inl (MM_39 9))), (q_41, .inr (2, [.ref b0_44, .int 0])), (b0_44, .inl (cI, 10, .inl g0_45))] := hD
  refine lv_aload_n hx hb dX3_init_37 rfl (lv_at hl 0 rfl) ?_
  refine lv_iconst (v := 3) hx hb dX3_init_38 (by decide) ?_
  refine va_newa (atype := .int) (a0 := (3, .inl (fun _ => (0 : Int32)))) (N' := 3) hx hb (hts _ wd_X3_init_16) rfl hK hP hD hS hA (fun _ => rfl) (by decide) (by decide) (by decide) (Nat.le_of_ble_eq_true rfl) (Nat.le_of_ble_eq_true rfl) dX3_init_39 (fun q_46 cA H hK hP hD hS => ?_)
  have ecA := (cA_is (t0 := 0) (t1 := 2) hK rfl rfl).symm
  subst ecA
  have hK := hK.sub (tys' := [(cI, .int), (cQ, .array .int)]) [0, 1] rfl
  have hP : va_P D vwCl [(x, .inr (3, [.ref q_1, .ref q_20, .ref q_41, .null, .null, .int 0, .int 0, .int 0])), (q_1, .inr (0, [.ref b0_4, .ref b1_5, .ref b2_6, .ref b3_7, .ref b4_8, .ref b5_9, .int 0, .int 0])), (b0_4, .inl (cI, 40, .inl gw_10)), (b1_5, .inl (cI, 2, .inl gl_11)), (b2_6, .inl (cI, 6, .inl gd_12)), (b3_7, .inl (cI, 6, .inl gh_13)), (b4_8, .inl (cI, 40, .inl gg_14)), (b5_9, .inl (cI, 40, .inl gs_15)), (q_20, .inr (1, [.ref b0_23, .ref b1_24, .ref b2_25, .ref b3_26, .ref b4_27, .ref b5_28, .ref b6_29, .ref b7_30, .int 0])), (b0_23, .inl (cI, 10, .inl g0_31)), (b1_24, .inl (cI, 10, .inl g1_32)), (b2_25, .inl (cI, 10, .inl g2_33)), (b3_26, .inl (cI, 10, .inl g3_34)), (b4_27, .inl (cI, 10, .inl g4_35)), (b5_28, .inl (cI, 10, .inl g5_36)), (b7_30, .inl (cI, 10, .inl g7_37)), (b6_29, .inl (cQ, 10, .inr (.inr (.inr (.inr (fun i => if i < 10 then some (RR_38 i) else none)))))), ((RR_38 0), .inl (cI, 10, .inl (MM_39 0))), ((RR_38 1), .inl (cI, 10, .inl (MM_39 1))), ((RR_38 2), .inl (cI, 10, .inl (MM_39 2))), ((RR_38 3), .inl (cI, 10, .inl (MM_39 3))), ((RR_38 4), .inl (cI, 10, .inl (MM_39 4))), ((RR_38 5), .inl (cI, 10, .inl (MM_39 5))), ((RR_38 6), .inl (cI, 10, .inl (MM_39 6))), ((RR_38 7), .inl (cI, 10, .inl (MM_39 7))), ((RR_38 8), .inl (cI, 10, .inl (MM_39 8))), ((RR_38 9), .inl (cI, 10, .inl (MM_39 9))), (q_41, .inr (2, [.ref b0_44, .int 0])), (b0_44, .inl (cI, 10, .inl g0_45)), (q_46, .inl (cI, 3, .inl (fun _ => (0 : Int32))))] H := hP
  have hD : va_D A [(x, .inr (3, [.ref q_1, .ref q_20, .ref q_41, .null, .null, .int 0, .int 0, .int 0])), (q_1, .inr (0, [.ref b0_4, .ref b1_5, .ref b2_6, .ref b3_7, .ref b4_8, .ref b5_9, .int 0, .int 0])), (b0_4, .inl (cI, 40, .inl gw_10)), (b1_5, .inl (cI, 2, .inl gl_11)), (b2_6, .inl (cI, 6, .inl gd_12)), (b3_7, .inl (cI, 6, .inl gh_13)), (b4_8, .inl (cI, 40, .inl gg_14)), (b5_9, .inl (cI, 40, .inl gs_15)), (q_20, .inr (1, [.ref b0_23, .ref b1_24, .ref b2_25, .ref b3_26, .ref b4_27, .ref b5_28, .ref b6_29, .ref b7_30, .int 0])), (b0_23, .inl (cI, 10, .inl g0_31)), (b1_24, .inl (cI, 10, .inl g1_32)), (b2_25, .inl (cI, 10, .inl g2_33)), (b3_26, .inl (cI, 10, .inl g3_34)), (b4_27, .inl (cI, 10, .inl g4_35)), (b5_28, .inl (cI, 10, .inl g5_36)), (b7_30, .inl (cI, 10, .inl g7_37)), (b6_29, .inl (cQ, 10, .inr (.inr (.inr (.inr (fun i => if i < 10 then some (RR_38 i) else none)))))), ((RR_38 0), .inl (cI, 10, .inl (MM_39 0))), ((RR_38 1), .inl (cI, 10, .inl (MM_39 1))), ((RR_38 2), .inl (cI, 10, .inl (MM_39 2))), ((RR_38 3), .inl (cI, 10, .inl (MM_39 3))), ((RR_38 4), .inl (cI, 10, .inl (MM_39 4))), ((RR_38 5), .inl (cI, 10, .inl (MM_39 5))), ((RR_38 6), .inl (cI, 10, .inl (MM_39 6))), ((RR_38 7), .inl (cI, 10, .inl (MM_39 7))), ((RR_38 8), .inl (cI, 10, .inl (MM_39 8))), ((RR_38 9), .inl (cI, 10, .inl (MM_39 9))), (q_41, .inr (2, [.ref b0_44, .int 0])), (b0_44, .inl (cI, 10, .inl g0_45)), (q_46, .inl (cI, 3, .inl (fun _ => (0 : Int32))))] := hD
  refine W.widen (k := 29) (n := 346) (Nat.le_of_ble_eq_true rfl) (Nat.le_of_ble_eq_true rfl) ?_
  refine lv_dup hx hb dX3_init_41 rfl ?_
  refine lv_iconst (v := 0) hx hb dX3_init_42 (by decide) ?_
  refine lv_bipush (v := 10) hx hb dX3_init_43 (by decide) ?_
  refine va_iast hx hb hK hP hD hS 29 0 rfl rfl (by unfold vp_in; decide) dX3_init_45 (fun H locs hP hD hS => ?_)
  have hP : va_P D vwCl [(x, .inr (3, [.ref q_1, .ref q_20, .ref q_41, .null, .null, .int 0, .int 0, .int 0])), (q_1, .inr (0, [.ref b0_4, .ref b1_5, .ref b2_6, .ref b3_7, .ref b4_8, .ref b5_9, .int 0, .int 0])), (b0_4, .inl (cI, 40, .inl gw_10)), (b1_5, .inl (cI, 2, .inl gl_11)), (b2_6, .inl (cI, 6, .inl gd_12)), (b3_7, .inl (cI, 6, .inl gh_13)), (b4_8, .inl (cI, 40, .inl gg_14)), (b5_9, .inl (cI, 40, .inl gs_15)), (q_20, .inr (1, [.ref b0_23, .ref b1_24, .ref b2_25, .ref b3_26, .ref b4_27, .ref b5_28, .ref b6_29, .ref b7_30, .int 0])), (b0_23, .inl (cI, 10, .inl g0_31)), (b1_24, .inl (cI, 10, .inl g1_32)), (b2_25, .inl (cI, 10, .inl g2_33)), (b3_26, .inl (cI, 10, .inl g3_34)), (b4_27, .inl (cI, 10, .inl g4_35)), (b5_28, .inl (cI, 10, .inl g5_36)), (b7_30, .inl (cI, 10, .inl g7_37)), (b6_29, .inl (cQ, 10, .inr (.inr (.inr (.inr (fun i => if i < 10 then some (RR_38 i) else none)))))), ((RR_38 0), .inl (cI, 10, .inl (MM_39 0))), ((RR_38 1), .inl (cI, 10, .inl (MM_39 1))), ((RR_38 2), .inl (cI, 10, .inl (MM_39 2))), ((RR_38 3), .inl (cI, 10, .inl (MM_39 3))), ((RR_38 4), .inl (cI, 10, .inl (MM_39 4))), ((RR_38 5), .inl (cI, 10, .inl (MM_39 5))), ((RR_38 6), .inl (cI, 10, .inl (MM_39 6))), ((RR_38 7), .inl (cI, 10, .inl (MM_39 7))), ((RR_38 8), .inl (cI, 10, .inl (MM_39 8))), ((RR_38 9), .inl (cI, 10, .inl (MM_39 9))), (q_41, .inr (2, [.ref b0_44, .int 0])), (b0_44, .inl (cI, 10, .inl g0_45)), (q_46, .inl (cI, 3, .inl (upd (fun _ => (0 : Int32)) 0 10)))] H := hP
  have hD : va_D A [(x, .inr (3, [.ref q_1, .ref q_20, .ref q_41, .null, .null, .int 0, .int 0, .int 0])), (q_1, .inr (0, [.ref b0_4, .ref b1_5, .ref b2_6, .ref b3_7, .ref b4_8, .ref b5_9, .int 0, .int 0])), (b0_4, .inl (cI, 40, .inl gw_10)), (b1_5, .inl (cI, 2, .inl gl_11)), (b2_6, .inl (cI, 6, .inl gd_12)), (b3_7, .inl (cI, 6, .inl gh_13)), (b4_8, .inl (cI, 40, .inl gg_14)), (b5_9, .inl (cI, 40, .inl gs_15)), (q_20, .inr (1, [.ref b0_23, .ref b1_24, .ref b2_25, .ref b3_26, .ref b4_27, .ref b5_28, .ref b6_29, .ref b7_30, .int 0])), (b0_23, .inl (cI, 10, .inl g0_31)), (b1_24, .inl (cI, 10, .inl g1_32)), (b2_25, .inl (cI, 10, .inl g2_33)), (b3_26, .inl (cI, 10, .inl g3_34)), (b4_27, .inl (cI, 10, .inl g4_35)), (b5_28, .inl (cI, 10, .inl g5_36)), (b7_30, .inl (cI, 10, .inl g7_37)), (b6_29, .inl (cQ, 10, .inr (.inr (.inr (.inr (fun i => if i < 10 then some (RR_38 i) else none)))))), ((RR_38 0), .inl (cI, 10, .inl (MM_39 0))), ((RR_38 1), .inl (cI, 10, .inl (MM_39 1))), ((RR_38 2), .inl (cI, 10, .inl (MM_39 2))), ((RR_38 3), .inl (cI, 10, .inl (MM_39 3))), ((RR_38 4), .inl (cI, 10, .inl (MM_39 4))), ((RR_38 5), .inl (cI, 10, .inl (MM_39 5))), ((RR_38 6), .inl (cI, 10, .inl (MM_39 6))), ((RR_38 7), .inl (cI, 10, .inl (MM_39 7))), ((RR_38 8), .inl (cI, 10, .inl (MM_39 8))), ((RR_38 9), .inl (cI, 10, .inl (MM_39 9))), (q_41, .inr (2, [.ref b0_44, .int 0])), (b0_44, .inl (cI, 10, .inl g0_45)), (q_46, .inl (cI, 3, .inl (upd (fun _ => (0 : Int32)) 0 10)))] := hD
  refine lv_dup hx hb dX3_init_46 rfl ?_
  refine lv_iconst (v := 1) hx hb dX3_init_47 (by decide) ?_
  refine lv_bipush (v := 10) hx hb dX3_init_48 (by decide) ?_
  refine va_iast hx hb hK hP hD hS 29 0 rfl rfl (by unfold vp_in; decide) dX3_init_50 (fun H locs hP hD hS => ?_)
  have hP : va_P D vwCl [(x, .inr (3, [.ref q_1, .ref q_20, .ref q_41, .null, .null, .int 0, .int 0, .int 0])), (q_1, .inr (0, [.ref b0_4, .ref b1_5, .ref b2_6, .ref b3_7, .ref b4_8, .ref b5_9, .int 0, .int 0])), (b0_4, .inl (cI, 40, .inl gw_10)), (b1_5, .inl (cI, 2, .inl gl_11)), (b2_6, .inl (cI, 6, .inl gd_12)), (b3_7, .inl (cI, 6, .inl gh_13)), (b4_8, .inl (cI, 40, .inl gg_14)), (b5_9, .inl (cI, 40, .inl gs_15)), (q_20, .inr (1, [.ref b0_23, .ref b1_24, .ref b2_25, .ref b3_26, .ref b4_27, .ref b5_28, .ref b6_29, .ref b7_30, .int 0])), (b0_23, .inl (cI, 10, .inl g0_31)), (b1_24, .inl (cI, 10, .inl g1_32)), (b2_25, .inl (cI, 10, .inl g2_33)), (b3_26, .inl (cI, 10, .inl g3_34)), (b4_27, .inl (cI, 10, .inl g4_35)), (b5_28, .inl (cI, 10, .inl g5_36)), (b7_30, .inl (cI, 10, .inl g7_37)), (b6_29, .inl (cQ, 10, .inr (.inr (.inr (.inr (fun i => if i < 10 then some (RR_38 i) else none)))))), ((RR_38 0), .inl (cI, 10, .inl (MM_39 0))), ((RR_38 1), .inl (cI, 10, .inl (MM_39 1))), ((RR_38 2), .inl (cI, 10, .inl (MM_39 2))), ((RR_38 3), .inl (cI, 10, .inl (MM_39 3))), ((RR_38 4), .inl (cI, 10, .inl (MM_39 4))), ((RR_38 5), .inl (cI, 10, .inl (MM_39 5))), ((RR_38 6), .inl (cI, 10, .inl (MM_39 6))), ((RR_38 7), .inl (cI, 10, .inl (MM_39 7))), ((RR_38 8), .inl (cI, 10, .inl (MM_39 8))), ((RR_38 9), .inl (cI, 10, .inl (MM_39 9))), (q_41, .inr (2, [.ref b0_44, .int 0])), (b0_44, .inl (cI, 10, .inl g0_45)), (q_46, .inl (cI, 3, .inl (upd (upd (fun _ => (0 : Int32)) 0 10) 1 10)))] H := hP
  have hD : va_D A [(x, .inr (3, [.ref q_1, .ref q_20, .ref q_41, .null, .null, .int 0, .int 0, .int 0])), (q_1, .inr (0, [.ref b0_4, .ref b1_5, .ref b2_6, .ref b3_7, .ref b4_8, .ref b5_9, .int 0, .int 0])), (b0_4, .inl (cI, 40, .inl gw_10)), (b1_5, .inl (cI, 2, .inl gl_11)), (b2_6, .inl (cI, 6, .inl gd_12)), (b3_7, .inl (cI, 6, .inl gh_13)), (b4_8, .inl (cI, 40, .inl gg_14)), (b5_9, .inl (cI, 40, .inl gs_15)), (q_20, .inr (1, [.ref b0_23, .ref b1_24, .ref b2_25, .ref b3_26, .ref b4_27, .ref b5_28, .ref b6_29, .ref b7_30, .int 0])), (b0_23, .inl (cI, 10, .inl g0_31)), (b1_24, .inl (cI, 10, .inl g1_32)), (b2_25, .inl (cI, 10, .inl g2_33)), (b3_26, .inl (cI, 10, .inl g3_34)), (b4_27, .inl (cI, 10, .inl g4_35)), (b5_28, .inl (cI, 10, .inl g5_36)), (b7_30, .inl (cI, 10, .inl g7_37)), (b6_29, .inl (cQ, 10, .inr (.inr (.inr (.inr (fun i => if i < 10 then some (RR_38 i) else none)))))), ((RR_38 0), .inl (cI, 10, .inl (MM_39 0))), ((RR_38 1), .inl (cI, 10, .inl (MM_39 1))), ((RR_38 2), .inl (cI, 10, .inl (MM_39 2))), ((RR_38 3), .inl (cI, 10, .inl (MM_39 3))), ((RR_38 4), .inl (cI, 10, .inl (MM_39 4))), ((RR_38 5), .inl (cI, 10, .inl (MM_39 5))), ((RR_38 6), .inl (cI, 10, .inl (MM_39 6))), ((RR_38 7), .inl (cI, 10, .inl (MM_39 7))), ((RR_38 8), .inl (cI, 10, .inl (MM_39 8))), ((RR_38 9), .inl (cI, 10, .inl (MM_39 9))), (q_41, .inr (2, [.ref b0_44, .int 0])), (b0_44, .inl (cI, 10, .inl g0_45)), (q_46, .inl (cI, 3, .inl (upd (upd (fun _ => (0 : Int32)) 0 10) 1 10)))] := hD
  refine lv_dup hx hb dX3_init_51 rfl ?_
  refine lv_iconst (v := 2) hx hb dX3_init_52 (by decide) ?_
  refine lv_bipush (v := 10) hx hb dX3_init_53 (by decide) ?_
  refine va_iast hx hb hK hP hD hS 29 0 rfl rfl (by unfold vp_in; decide) dX3_init_55 (fun H locs hP hD hS => ?_)
  have hP : va_P D vwCl [(x, .inr (3, [.ref q_1, .ref q_20, .ref q_41, .null, .null, .int 0, .int 0, .int 0])), (q_1, .inr (0, [.ref b0_4, .ref b1_5, .ref b2_6, .ref b3_7, .ref b4_8, .ref b5_9, .int 0, .int 0])), (b0_4, .inl (cI, 40, .inl gw_10)), (b1_5, .inl (cI, 2, .inl gl_11)), (b2_6, .inl (cI, 6, .inl gd_12)), (b3_7, .inl (cI, 6, .inl gh_13)), (b4_8, .inl (cI, 40, .inl gg_14)), (b5_9, .inl (cI, 40, .inl gs_15)), (q_20, .inr (1, [.ref b0_23, .ref b1_24, .ref b2_25, .ref b3_26, .ref b4_27, .ref b5_28, .ref b6_29, .ref b7_30, .int 0])), (b0_23, .inl (cI, 10, .inl g0_31)), (b1_24, .inl (cI, 10, .inl g1_32)), (b2_25, .inl (cI, 10, .inl g2_33)), (b3_26, .inl (cI, 10, .inl g3_34)), (b4_27, .inl (cI, 10, .inl g4_35)), (b5_28, .inl (cI, 10, .inl g5_36)), (b7_30, .inl (cI, 10, .inl g7_37)), (b6_29, .inl (cQ, 10, .inr (.inr (.inr (.inr (fun i => if i < 10 then some (RR_38 i) else none)))))), ((RR_38 0), .inl (cI, 10, .inl (MM_39 0))), ((RR_38 1), .inl (cI, 10, .inl (MM_39 1))), ((RR_38 2), .inl (cI, 10, .inl (MM_39 2))), ((RR_38 3), .inl (cI, 10, .inl (MM_39 3))), ((RR_38 4), .inl (cI, 10, .inl (MM_39 4))), ((RR_38 5), .inl (cI, 10, .inl (MM_39 5))), ((RR_38 6), .inl (cI, 10, .inl (MM_39 6))), ((RR_38 7), .inl (cI, 10, .inl (MM_39 7))), ((RR_38 8), .inl (cI, 10, .inl (MM_39 8))), ((RR_38 9), .inl (cI, 10, .inl (MM_39 9))), (q_41, .inr (2, [.ref b0_44, .int 0])), (b0_44, .inl (cI, 10, .inl g0_45)), (q_46, .inl (cI, 3, .inl (upd (upd (upd (fun _ => (0 : Int32)) 0 10) 1 10) 2 10)))] H := hP
  have hD : va_D A [(x, .inr (3, [.ref q_1, .ref q_20, .ref q_41, .null, .null, .int 0, .int 0, .int 0])), (q_1, .inr (0, [.ref b0_4, .ref b1_5, .ref b2_6, .ref b3_7, .ref b4_8, .ref b5_9, .int 0, .int 0])), (b0_4, .inl (cI, 40, .inl gw_10)), (b1_5, .inl (cI, 2, .inl gl_11)), (b2_6, .inl (cI, 6, .inl gd_12)), (b3_7, .inl (cI, 6, .inl gh_13)), (b4_8, .inl (cI, 40, .inl gg_14)), (b5_9, .inl (cI, 40, .inl gs_15)), (q_20, .inr (1, [.ref b0_23, .ref b1_24, .ref b2_25, .ref b3_26, .ref b4_27, .ref b5_28, .ref b6_29, .ref b7_30, .int 0])), (b0_23, .inl (cI, 10, .inl g0_31)), (b1_24, .inl (cI, 10, .inl g1_32)), (b2_25, .inl (cI, 10, .inl g2_33)), (b3_26, .inl (cI, 10, .inl g3_34)), (b4_27, .inl (cI, 10, .inl g4_35)), (b5_28, .inl (cI, 10, .inl g5_36)), (b7_30, .inl (cI, 10, .inl g7_37)), (b6_29, .inl (cQ, 10, .inr (.inr (.inr (.inr (fun i => if i < 10 then some (RR_38 i) else none)))))), ((RR_38 0), .inl (cI, 10, .inl (MM_39 0))), ((RR_38 1), .inl (cI, 10, .inl (MM_39 1))), ((RR_38 2), .inl (cI, 10, .inl (MM_39 2))), ((RR_38 3), .inl (cI, 10, .inl (MM_39 3))), ((RR_38 4), .inl (cI, 10, .inl (MM_39 4))), ((RR_38 5), .inl (cI, 10, .inl (MM_39 5))), ((RR_38 6), .inl (cI, 10, .inl (MM_39 6))), ((RR_38 7), .inl (cI, 10, .inl (MM_39 7))), ((RR_38 8), .inl (cI, 10, .inl (MM_39 8))), ((RR_38 9), .inl (cI, 10, .inl (MM_39 9))), (q_41, .inr (2, [.ref b0_44, .int 0])), (b0_44, .inl (cI, 10, .inl g0_45)), (q_46, .inl (cI, 3, .inl (upd (upd (upd (fun _ => (0 : Int32)) 0 10) 1 10) 2 10)))] := hD
  refine va_putF (D := D) (ci := 3) (v := .ref q_46) (ty := .array .int) (C := RX3) (T := TX3) (N := 8) hx hb hts iw_X3_init_3 tyX3 tyX3_ok nmX3 hown hK hP hD hS 0 rfl rfl 3 (by decide) (hts _ wd_X3_init_17) (fun _ h9 => h9) rfl hin rfl (by decide +kernel) rfl rfl (Nat.le_of_ble_eq_true rfl) dX3_init_56 (fun H locs hP hD hS => ?_)
  have hP : va_P D vwCl [(x, .inr (3, [.ref q_1, .ref q_20, .ref q_41, .ref q_46, .null, .int 0, .int 0, .int 0])), (q_1, .inr (0, [.ref b0_4, .ref b1_5, .ref b2_6, .ref b3_7, .ref b4_8, .ref b5_9, .int 0, .int 0])), (b0_4, .inl (cI, 40, .inl gw_10)), (b1_5, .inl (cI, 2, .inl gl_11)), (b2_6, .inl (cI, 6, .inl gd_12)), (b3_7, .inl (cI, 6, .inl gh_13)), (b4_8, .inl (cI, 40, .inl gg_14)), (b5_9, .inl (cI, 40, .inl gs_15)), (q_20, .inr (1, [.ref b0_23, .ref b1_24, .ref b2_25, .ref b3_26, .ref b4_27, .ref b5_28, .ref b6_29, .ref b7_30, .int 0])), (b0_23, .inl (cI, 10, .inl g0_31)), (b1_24, .inl (cI, 10, .inl g1_32)), (b2_25, .inl (cI, 10, .inl g2_33)), (b3_26, .inl (cI, 10, .inl g3_34)), (b4_27, .inl (cI, 10, .inl g4_35)), (b5_28, .inl (cI, 10, .inl g5_36)), (b7_30, .inl (cI, 10, .inl g7_37)), (b6_29, .inl (cQ, 10, .inr (.inr (.inr (.inr (fun i => if i < 10 then some (RR_38 i) else none)))))), ((RR_38 0), .inl (cI, 10, .inl (MM_39 0))), ((RR_38 1), .inl (cI, 10, .inl (MM_39 1))), ((RR_38 2), .inl (cI, 10, .inl (MM_39 2))), ((RR_38 3), .inl (cI, 10, .inl (MM_39 3))), ((RR_38 4), .inl (cI, 10, .inl (MM_39 4))), ((RR_38 5), .inl (cI, 10, .inl (MM_39 5))), ((RR_38 6), .inl (cI, 10, .inl (MM_39 6))), ((RR_38 7), .inl (cI, 10, .inl (MM_39 7))), ((RR_38 8), .inl (cI, 10, .inl (MM_39 8))), ((RR_38 9), .inl (cI, 10, .inl (MM_39 9))), (q_41, .inr (2, [.ref b0_44, .int 0])), (b0_44, .inl (cI, 10, .inl g0_45)), (q_46, .inl (cI, 3, .inl (upd (upd (upd (fun _ => (0 : Int32)) 0 10) 1 10) 2 10)))] H := hP
  have hD : va_D A [(x, .inr (3, [.ref q_1, .ref q_20, .ref q_41, .ref q_46, .null, .int 0, .int 0, .int 0])), (q_1, .inr (0, [.ref b0_4, .ref b1_5, .ref b2_6, .ref b3_7, .ref b4_8, .ref b5_9, .int 0, .int 0])), (b0_4, .inl (cI, 40, .inl gw_10)), (b1_5, .inl (cI, 2, .inl gl_11)), (b2_6, .inl (cI, 6, .inl gd_12)), (b3_7, .inl (cI, 6, .inl gh_13)), (b4_8, .inl (cI, 40, .inl gg_14)), (b5_9, .inl (cI, 40, .inl gs_15)), (q_20, .inr (1, [.ref b0_23, .ref b1_24, .ref b2_25, .ref b3_26, .ref b4_27, .ref b5_28, .ref b6_29, .ref b7_30, .int 0])), (b0_23, .inl (cI, 10, .inl g0_31)), (b1_24, .inl (cI, 10, .inl g1_32)), (b2_25, .inl (cI, 10, .inl g2_33)), (b3_26, .inl (cI, 10, .inl g3_34)), (b4_27, .inl (cI, 10, .inl g4_35)), (b5_28, .inl (cI, 10, .inl g5_36)), (b7_30, .inl (cI, 10, .inl g7_37)), (b6_29, .inl (cQ, 10, .inr (.inr (.inr (.inr (fun i => if i < 10 then some (RR_38 i) else none)))))), ((RR_38 0), .inl (cI, 10, .inl (MM_39 0))), ((RR_38 1), .inl (cI, 10, .inl (MM_39 1))), ((RR_38 2), .inl (cI, 10, .inl (MM_39 2))), ((RR_38 3), .inl (cI, 10, .inl (MM_39 3))), ((RR_38 4), .inl (cI, 10, .inl (MM_39 4))), ((RR_38 5), .inl (cI, 10, .inl (MM_39 5))), ((RR_38 6), .inl (cI, 10, .inl (MM_39 6))), ((RR_38 7), .inl (cI, 10, .inl (MM_39 7))), ((RR_38 8), .inl (cI, 10, .inl (MM_39 8))), ((RR_38 9), .inl (cI, 10, .inl (MM_39 9))), (q_41, .inr (2, [.ref b0_44, .int 0])), (b0_44, .inl (cI, 10, .inl g0_45)), (q_46, .inl (cI, 3, .inl (upd (upd (upd (fun _ => (0 : Int32)) 0 10) 1 10) 2 10)))] := hD
  refine lv_aload_n hx hb dX3_init_59 rfl (lv_at hl 0 rfl) ?_
  refine lv_iconst (v := 5) hx hb dX3_init_60 (by decide) ?_
  refine va_newa (atype := .int) (a0 := (5, .inl (fun _ => (0 : Int32)))) (N' := 5) hx hb (hts _ wd_X3_init_16) rfl hK hP hD hS hA (fun _ => rfl) (by decide) (by decide) (by decide) (Nat.le_of_ble_eq_true rfl) (Nat.le_of_ble_eq_true rfl) dX3_init_61 (fun q_47 cA H hK hP hD hS => ?_)
  have ecA := (cA_is (t0 := 0) (t1 := 2) hK rfl rfl).symm
  subst ecA
  have hK := hK.sub (tys' := [(cI, .int), (cQ, .array .int)]) [0, 1] rfl
  have hP : va_P D vwCl [(x, .inr (3, [.ref q_1, .ref q_20, .ref q_41, .ref q_46, .null, .int 0, .int 0, .int 0])), (q_1, .inr (0, [.ref b0_4, .ref b1_5, .ref b2_6, .ref b3_7, .ref b4_8, .ref b5_9, .int 0, .int 0])), (b0_4, .inl (cI, 40, .inl gw_10)), (b1_5, .inl (cI, 2, .inl gl_11)), (b2_6, .inl (cI, 6, .inl gd_12)), (b3_7, .inl (cI, 6, .inl gh_13)), (b4_8, .inl (cI, 40, .inl gg_14)), (b5_9, .inl (cI, 40, .inl gs_15)), (q_20, .inr (1, [.ref b0_23, .ref b1_24, .ref b2_25, .ref b3_26, .ref b4_27, .ref b5_28, .ref b6_29, .ref b7_30, .int 0])), (b0_23, .inl (cI, 10, .inl g0_31)), (b1_24, .inl (cI, 10, .inl g1_32)), (b2_25, .inl (cI, 10, .inl g2_33)), (b3_26, .inl (cI, 10, .inl g3_34)), (b4_27, .inl (cI, 10, .inl g4_35)), (b5_28, .inl (cI, 10, .inl g5_36)), (b7_30, .inl (cI, 10, .inl g7_37)), (b6_29, .inl (cQ, 10, .inr (.inr (.inr (.inr (fun i => if i < 10 then some (RR_38 i) else none)))))), ((RR_38 0), .inl (cI, 10, .inl (MM_39 0))), ((RR_38 1), .inl (cI, 10, .inl (MM_39 1))), ((RR_38 2), .inl (cI, 10, .inl (MM_39 2))), ((RR_38 3), .inl (cI, 10, .inl (MM_39 3))), ((RR_38 4), .inl (cI, 10, .inl (MM_39 4))), ((RR_38 5), .inl (cI, 10, .inl (MM_39 5))), ((RR_38 6), .inl (cI, 10, .inl (MM_39 6))), ((RR_38 7), .inl (cI, 10, .inl (MM_39 7))), ((RR_38 8), .inl (cI, 10, .inl (MM_39 8))), ((RR_38 9), .inl (cI, 10, .inl (MM_39 9))), (q_41, .inr (2, [.ref b0_44, .int 0])), (b0_44, .inl (cI, 10, .inl g0_45)), (q_46, .inl (cI, 3, .inl (upd (upd (upd (fun _ => (0 : Int32)) 0 10) 1 10) 2 10))), (q_47, .inl (cI, 5, .inl (fun _ => (0 : Int32))))] H := hP
  have hD : va_D A [(x, .inr (3, [.ref q_1, .ref q_20, .ref q_41, .ref q_46, .null, .int 0, .int 0, .int 0])), (q_1, .inr (0, [.ref b0_4, .ref b1_5, .ref b2_6, .ref b3_7, .ref b4_8, .ref b5_9, .int 0, .int 0])), (b0_4, .inl (cI, 40, .inl gw_10)), (b1_5, .inl (cI, 2, .inl gl_11)), (b2_6, .inl (cI, 6, .inl gd_12)), (b3_7, .inl (cI, 6, .inl gh_13)), (b4_8, .inl (cI, 40, .inl gg_14)), (b5_9, .inl (cI, 40, .inl gs_15)), (q_20, .inr (1, [.ref b0_23, .ref b1_24, .ref b2_25, .ref b3_26, .ref b4_27, .ref b5_28, .ref b6_29, .ref b7_30, .int 0])), (b0_23, .inl (cI, 10, .inl g0_31)), (b1_24, .inl (cI, 10, .inl g1_32)), (b2_25, .inl (cI, 10, .inl g2_33)), (b3_26, .inl (cI, 10, .inl g3_34)), (b4_27, .inl (cI, 10, .inl g4_35)), (b5_28, .inl (cI, 10, .inl g5_36)), (b7_30, .inl (cI, 10, .inl g7_37)), (b6_29, .inl (cQ, 10, .inr (.inr (.inr (.inr (fun i => if i < 10 then some (RR_38 i) else none)))))), ((RR_38 0), .inl (cI, 10, .inl (MM_39 0))), ((RR_38 1), .inl (cI, 10, .inl (MM_39 1))), ((RR_38 2), .inl (cI, 10, .inl (MM_39 2))), ((RR_38 3), .inl (cI, 10, .inl (MM_39 3))), ((RR_38 4), .inl (cI, 10, .inl (MM_39 4))), ((RR_38 5), .inl (cI, 10, .inl (MM_39 5))), ((RR_38 6), .inl (cI, 10, .inl (MM_39 6))), ((RR_38 7), .inl (cI, 10, .inl (MM_39 7))), ((RR_38 8), .inl (cI, 10, .inl (MM_39 8))), ((RR_38 9), .inl (cI, 10, .inl (MM_39 9))), (q_41, .inr (2, [.ref b0_44, .int 0])), (b0_44, .inl (cI, 10, .inl g0_45)), (q_46, .inl (cI, 3, .inl (upd (upd (upd (fun _ => (0 : Int32)) 0 10) 1 10) 2 10))), (q_47, .inl (cI, 5, .inl (fun _ => (0 : Int32))))] := hD
  refine W.widen (k := 30) (n := 351) (Nat.le_of_ble_eq_true rfl) (Nat.le_of_ble_eq_true rfl) ?_
  refine va_putF (D := D) (ci := 3) (v := .ref q_47) (ty := .array .int) (C := RX3) (T := TX3) (N := 8) hx hb hts iw_X3_init_3 tyX3 tyX3_ok nmX3 hown hK hP hD hS 0 rfl rfl 4 (by decide) (hts _ wd_X3_init_18) (fun _ h9 => h9) rfl hin rfl (by decide +kernel) rfl rfl (Nat.le_of_ble_eq_true rfl) dX3_init_63 (fun H locs hP hD hS => ?_)
  have hP : va_P D vwCl [(x, .inr (3, [.ref q_1, .ref q_20, .ref q_41, .ref q_46, .ref q_47, .int 0, .int 0, .int 0])), (q_1, .inr (0, [.ref b0_4, .ref b1_5, .ref b2_6, .ref b3_7, .ref b4_8, .ref b5_9, .int 0, .int 0])), (b0_4, .inl (cI, 40, .inl gw_10)), (b1_5, .inl (cI, 2, .inl gl_11)), (b2_6, .inl (cI, 6, .inl gd_12)), (b3_7, .inl (cI, 6, .inl gh_13)), (b4_8, .inl (cI, 40, .inl gg_14)), (b5_9, .inl (cI, 40, .inl gs_15)), (q_20, .inr (1, [.ref b0_23, .ref b1_24, .ref b2_25, .ref b3_26, .ref b4_27, .ref b5_28, .ref b6_29, .ref b7_30, .int 0])), (b0_23, .inl (cI, 10, .inl g0_31)), (b1_24, .inl (cI, 10, .inl g1_32)), (b2_25, .inl (cI, 10, .inl g2_33)), (b3_26, .inl (cI, 10, .inl g3_34)), (b4_27, .inl (cI, 10, .inl g4_35)), (b5_28, .inl (cI, 10, .inl g5_36)), (b7_30, .inl (cI, 10, .inl g7_37)), (b6_29, .inl (cQ, 10, .inr (.inr (.inr (.inr (fun i => if i < 10 then some (RR_38 i) else none)))))), ((RR_38 0), .inl (cI, 10, .inl (MM_39 0))), ((RR_38 1), .inl (cI, 10, .inl (MM_39 1))), ((RR_38 2), .inl (cI, 10, .inl (MM_39 2))), ((RR_38 3), .inl (cI, 10, .inl (MM_39 3))), ((RR_38 4), .inl (cI, 10, .inl (MM_39 4))), ((RR_38 5), .inl (cI, 10, .inl (MM_39 5))), ((RR_38 6), .inl (cI, 10, .inl (MM_39 6))), ((RR_38 7), .inl (cI, 10, .inl (MM_39 7))), ((RR_38 8), .inl (cI, 10, .inl (MM_39 8))), ((RR_38 9), .inl (cI, 10, .inl (MM_39 9))), (q_41, .inr (2, [.ref b0_44, .int 0])), (b0_44, .inl (cI, 10, .inl g0_45)), (q_46, .inl (cI, 3, .inl (upd (upd (upd (fun _ => (0 : Int32)) 0 10) 1 10) 2 10))), (q_47, .inl (cI, 5, .inl (fun _ => (0 : Int32))))] H := hP
  have hD : va_D A [(x, .inr (3, [.ref q_1, .ref q_20, .ref q_41, .ref q_46, .ref q_47, .int 0, .int 0, .int 0])), (q_1, .inr (0, [.ref b0_4, .ref b1_5, .ref b2_6, .ref b3_7, .ref b4_8, .ref b5_9, .int 0, .int 0])), (b0_4, .inl (cI, 40, .inl gw_10)), (b1_5, .inl (cI, 2, .inl gl_11)), (b2_6, .inl (cI, 6, .inl gd_12)), (b3_7, .inl (cI, 6, .inl gh_13)), (b4_8, .inl (cI, 40, .inl gg_14)), (b5_9, .inl (cI, 40, .inl gs_15)), (q_20, .inr (1, [.ref b0_23, .ref b1_24, .ref b2_25, .ref b3_26, .ref b4_27, .ref b5_28, .ref b6_29, .ref b7_30, .int 0])), (b0_23, .inl (cI, 10, .inl g0_31)), (b1_24, .inl (cI, 10, .inl g1_32)), (b2_25, .inl (cI, 10, .inl g2_33)), (b3_26, .inl (cI, 10, .inl g3_34)), (b4_27, .inl (cI, 10, .inl g4_35)), (b5_28, .inl (cI, 10, .inl g5_36)), (b7_30, .inl (cI, 10, .inl g7_37)), (b6_29, .inl (cQ, 10, .inr (.inr (.inr (.inr (fun i => if i < 10 then some (RR_38 i) else none)))))), ((RR_38 0), .inl (cI, 10, .inl (MM_39 0))), ((RR_38 1), .inl (cI, 10, .inl (MM_39 1))), ((RR_38 2), .inl (cI, 10, .inl (MM_39 2))), ((RR_38 3), .inl (cI, 10, .inl (MM_39 3))), ((RR_38 4), .inl (cI, 10, .inl (MM_39 4))), ((RR_38 5), .inl (cI, 10, .inl (MM_39 5))), ((RR_38 6), .inl (cI, 10, .inl (MM_39 6))), ((RR_38 7), .inl (cI, 10, .inl (MM_39 7))), ((RR_38 8), .inl (cI, 10, .inl (MM_39 8))), ((RR_38 9), .inl (cI, 10, .inl (MM_39 9))), (q_41, .inr (2, [.ref b0_44, .int 0])), (b0_44, .inl (cI, 10, .inl g0_45)), (q_46, .inl (cI, 3, .inl (upd (upd (upd (fun _ => (0 : Int32)) 0 10) 1 10) 2 10))), (q_47, .inl (cI, 5, .inl (fun _ => (0 : Int32))))] := hD
  refine lv_aload_n hx hb dX3_init_66 rfl (lv_at hl 0 rfl) ?_
  refine lv_bipush (v := 100) hx hb dX3_init_67 (by decide) ?_
  refine va_put (D := D) (ci := 3) (v := .int 100) (ty := .int) (C := RX3) (T := TX3) (N := 8) hx hb hts iw_X3_init_3 tyX3 tyX3_ok nmX3 hown hK hP hD hS 0 rfl rfl 5 (by decide) (hts _ wd_X3_init_19) (fun _ h9 => h9) rfl (by decide +kernel) rfl rfl (Nat.le_of_ble_eq_true rfl) dX3_init_69 (fun H locs hP hD hS => ?_)
  have hP : va_P D vwCl [(x, .inr (3, [.ref q_1, .ref q_20, .ref q_41, .ref q_46, .ref q_47, .int 100, .int 0, .int 0])), (q_1, .inr (0, [.ref b0_4, .ref b1_5, .ref b2_6, .ref b3_7, .ref b4_8, .ref b5_9, .int 0, .int 0])), (b0_4, .inl (cI, 40, .inl gw_10)), (b1_5, .inl (cI, 2, .inl gl_11)), (b2_6, .inl (cI, 6, .inl gd_12)), (b3_7, .inl (cI, 6, .inl gh_13)), (b4_8, .inl (cI, 40, .inl gg_14)), (b5_9, .inl (cI, 40, .inl gs_15)), (q_20, .inr (1, [.ref b0_23, .ref b1_24, .ref b2_25, .ref b3_26, .ref b4_27, .ref b5_28, .ref b6_29, .ref b7_30, .int 0])), (b0_23, .inl (cI, 10, .inl g0_31)), (b1_24, .inl (cI, 10, .inl g1_32)), (b2_25, .inl (cI, 10, .inl g2_33)), (b3_26, .inl (cI, 10, .inl g3_34)), (b4_27, .inl (cI, 10, .inl g4_35)), (b5_28, .inl (cI, 10, .inl g5_36)), (b7_30, .inl (cI, 10, .inl g7_37)), (b6_29, .inl (cQ, 10, .inr (.inr (.inr (.inr (fun i => if i < 10 then some (RR_38 i) else none)))))), ((RR_38 0), .inl (cI, 10, .inl (MM_39 0))), ((RR_38 1), .inl (cI, 10, .inl (MM_39 1))), ((RR_38 2), .inl (cI, 10, .inl (MM_39 2))), ((RR_38 3), .inl (cI, 10, .inl (MM_39 3))), ((RR_38 4), .inl (cI, 10, .inl (MM_39 4))), ((RR_38 5), .inl (cI, 10, .inl (MM_39 5))), ((RR_38 6), .inl (cI, 10, .inl (MM_39 6))), ((RR_38 7), .inl (cI, 10, .inl (MM_39 7))), ((RR_38 8), .inl (cI, 10, .inl (MM_39 8))), ((RR_38 9), .inl (cI, 10, .inl (MM_39 9))), (q_41, .inr (2, [.ref b0_44, .int 0])), (b0_44, .inl (cI, 10, .inl g0_45)), (q_46, .inl (cI, 3, .inl (upd (upd (upd (fun _ => (0 : Int32)) 0 10) 1 10) 2 10))), (q_47, .inl (cI, 5, .inl (fun _ => (0 : Int32))))] H := hP
  have hD : va_D A [(x, .inr (3, [.ref q_1, .ref q_20, .ref q_41, .ref q_46, .ref q_47, .int 100, .int 0, .int 0])), (q_1, .inr (0, [.ref b0_4, .ref b1_5, .ref b2_6, .ref b3_7, .ref b4_8, .ref b5_9, .int 0, .int 0])), (b0_4, .inl (cI, 40, .inl gw_10)), (b1_5, .inl (cI, 2, .inl gl_11)), (b2_6, .inl (cI, 6, .inl gd_12)), (b3_7, .inl (cI, 6, .inl gh_13)), (b4_8, .inl (cI, 40, .inl gg_14)), (b5_9, .inl (cI, 40, .inl gs_15)), (q_20, .inr (1, [.ref b0_23, .ref b1_24, .ref b2_25, .ref b3_26, .ref b4_27, .ref b5_28, .ref b6_29, .ref b7_30, .int 0])), (b0_23, .inl (cI, 10, .inl g0_31)), (b1_24, .inl (cI, 10, .inl g1_32)), (b2_25, .inl (cI, 10, .inl g2_33)), (b3_26, .inl (cI, 10, .inl g3_34)), (b4_27, .inl (cI, 10, .inl g4_35)), (b5_28, .inl (cI, 10, .inl g5_36)), (b7_30, .inl (cI, 10, .inl g7_37)), (b6_29, .inl (cQ, 10, .inr (.inr (.inr (.inr (fun i => if i < 10 then some (RR_38 i) else none)))))), ((RR_38 0), .inl (cI, 10, .inl (MM_39 0))), ((RR_38 1), .inl (cI, 10, .inl (MM_39 1))), ((RR_38 2), .inl (cI, 10, .inl (MM_39 2))), ((RR_38 3), .inl (cI, 10, .inl (MM_39 3))), ((RR_38 4), .inl (cI, 10, .inl (MM_39 4))), ((RR_38 5), .inl (cI, 10, .inl (MM_39 5))), ((RR_38 6), .inl (cI, 10, .inl (MM_39 6))), ((RR_38 7), .inl (cI, 10, .inl (MM_39 7))), ((RR_38 8), .inl (cI, 10, .inl (MM_39 8))), ((RR_38 9), .inl (cI, 10, .inl (MM_39 9))), (q_41, .inr (2, [.ref b0_44, .int 0])), (b0_44, .inl (cI, 10, .inl g0_45)), (q_46, .inl (cI, 3, .inl (upd (upd (upd (fun _ => (0 : Int32)) 0 10) 1 10) 2 10))), (q_47, .inl (cI, 5, .inl (fun _ => (0 : Int32))))] := hD
  refine lv_aload_n hx hb dX3_init_72 rfl (lv_at hl 0 rfl) ?_
  refine lv_iconst (v := 0) hx hb dX3_init_73 (by decide) ?_
  refine va_put (D := D) (ci := 3) (v := .int 0) (ty := .int) (C := RX3) (T := TX3) (N := 8) hx hb hts iw_X3_init_3 tyX3 tyX3_ok nmX3 hown hK hP hD hS 0 rfl rfl 6 (by decide) (hts _ wd_X3_init_20) (fun _ h9 => h9) rfl (by decide +kernel) rfl rfl (Nat.le_of_ble_eq_true rfl) dX3_init_74 (fun H locs hP hD hS => ?_)
  have hP : va_P D vwCl [(x, .inr (3, [.ref q_1, .ref q_20, .ref q_41, .ref q_46, .ref q_47, .int 100, .int 0, .int 0])), (q_1, .inr (0, [.ref b0_4, .ref b1_5, .ref b2_6, .ref b3_7, .ref b4_8, .ref b5_9, .int 0, .int 0])), (b0_4, .inl (cI, 40, .inl gw_10)), (b1_5, .inl (cI, 2, .inl gl_11)), (b2_6, .inl (cI, 6, .inl gd_12)), (b3_7, .inl (cI, 6, .inl gh_13)), (b4_8, .inl (cI, 40, .inl gg_14)), (b5_9, .inl (cI, 40, .inl gs_15)), (q_20, .inr (1, [.ref b0_23, .ref b1_24, .ref b2_25, .ref b3_26, .ref b4_27, .ref b5_28, .ref b6_29, .ref b7_30, .int 0])), (b0_23, .inl (cI, 10, .inl g0_31)), (b1_24, .inl (cI, 10, .inl g1_32)), (b2_25, .inl (cI, 10, .inl g2_33)), (b3_26, .inl (cI, 10, .inl g3_34)), (b4_27, .inl (cI, 10, .inl g4_35)), (b5_28, .inl (cI, 10, .inl g5_36)), (b7_30, .inl (cI, 10, .inl g7_37)), (b6_29, .inl (cQ, 10, .inr (.inr (.inr (.inr (fun i => if i < 10 then some (RR_38 i) else none)))))), ((RR_38 0), .inl (cI, 10, .inl (MM_39 0))), ((RR_38 1), .inl (cI, 10, .inl (MM_39 1))), ((RR_38 2), .inl (cI, 10, .inl (MM_39 2))), ((RR_38 3), .inl (cI, 10, .inl (MM_39 3))), ((RR_38 4), .inl (cI, 10, .inl (MM_39 4))), ((RR_38 5), .inl (cI, 10, .inl (MM_39 5))), ((RR_38 6), .inl (cI, 10, .inl (MM_39 6))), ((RR_38 7), .inl (cI, 10, .inl (MM_39 7))), ((RR_38 8), .inl (cI, 10, .inl (MM_39 8))), ((RR_38 9), .inl (cI, 10, .inl (MM_39 9))), (q_41, .inr (2, [.ref b0_44, .int 0])), (b0_44, .inl (cI, 10, .inl g0_45)), (q_46, .inl (cI, 3, .inl (upd (upd (upd (fun _ => (0 : Int32)) 0 10) 1 10) 2 10))), (q_47, .inl (cI, 5, .inl (fun _ => (0 : Int32))))] H := hP
  have hD : va_D A [(x, .inr (3, [.ref q_1, .ref q_20, .ref q_41, .ref q_46, .ref q_47, .int 100, .int 0, .int 0])), (q_1, .inr (0, [.ref b0_4, .ref b1_5, .ref b2_6, .ref b3_7, .ref b4_8, .ref b5_9, .int 0, .int 0])), (b0_4, .inl (cI, 40, .inl gw_10)), (b1_5, .inl (cI, 2, .inl gl_11)), (b2_6, .inl (cI, 6, .inl gd_12)), (b3_7, .inl (cI, 6, .inl gh_13)), (b4_8, .inl (cI, 40, .inl gg_14)), (b5_9, .inl (cI, 40, .inl gs_15)), (q_20, .inr (1, [.ref b0_23, .ref b1_24, .ref b2_25, .ref b3_26, .ref b4_27, .ref b5_28, .ref b6_29, .ref b7_30, .int 0])), (b0_23, .inl (cI, 10, .inl g0_31)), (b1_24, .inl (cI, 10, .inl g1_32)), (b2_25, .inl (cI, 10, .inl g2_33)), (b3_26, .inl (cI, 10, .inl g3_34)), (b4_27, .inl (cI, 10, .inl g4_35)), (b5_28, .inl (cI, 10, .inl g5_36)), (b7_30, .inl (cI, 10, .inl g7_37)), (b6_29, .inl (cQ, 10, .inr (.inr (.inr (.inr (fun i => if i < 10 then some (RR_38 i) else none)))))), ((RR_38 0), .inl (cI, 10, .inl (MM_39 0))), ((RR_38 1), .inl (cI, 10, .inl (MM_39 1))), ((RR_38 2), .inl (cI, 10, .inl (MM_39 2))), ((RR_38 3), .inl (cI, 10, .inl (MM_39 3))), ((RR_38 4), .inl (cI, 10, .inl (MM_39 4))), ((RR_38 5), .inl (cI, 10, .inl (MM_39 5))), ((RR_38 6), .inl (cI, 10, .inl (MM_39 6))), ((RR_38 7), .inl (cI, 10, .inl (MM_39 7))), ((RR_38 8), .inl (cI, 10, .inl (MM_39 8))), ((RR_38 9), .inl (cI, 10, .inl (MM_39 9))), (q_41, .inr (2, [.ref b0_44, .int 0])), (b0_44, .inl (cI, 10, .inl g0_45)), (q_46, .inl (cI, 3, .inl (upd (upd (upd (fun _ => (0 : Int32)) 0 10) 1 10) 2 10))), (q_47, .inl (cI, 5, .inl (fun _ => (0 : Int32))))] := hD
  refine lv_aload_n hx hb dX3_init_77 rfl (lv_at hl 0 rfl) ?_
  refine lv_iconst (v := 0) hx hb dX3_init_78 (by decide) ?_
  refine va_put (D := D) (ci := 3) (v := .int 0) (ty := .int) (C := RX3) (T := TX3) (N := 8) hx hb hts iw_X3_init_3 tyX3 tyX3_ok nmX3 hown hK hP hD hS 0 rfl rfl 7 (by decide) (hts _ wd_X3_init_21) (fun _ h9 => h9) rfl (by decide +kernel) rfl rfl (Nat.le_of_ble_eq_true rfl) dX3_init_79 (fun H locs hP hD hS => ?_)
  have hP : va_P D vwCl [(x, .inr (3, [.ref q_1, .ref q_20, .ref q_41, .ref q_46, .ref q_47, .int 100, .int 0, .int 0])), (q_1, .inr (0, [.ref b0_4, .ref b1_5, .ref b2_6, .ref b3_7, .ref b4_8, .ref b5_9, .int 0, .int 0])), (b0_4, .inl (cI, 40, .inl gw_10)), (b1_5, .inl (cI, 2, .inl gl_11)), (b2_6, .inl (cI, 6, .inl gd_12)), (b3_7, .inl (cI, 6, .inl gh_13)), (b4_8, .inl (cI, 40, .inl gg_14)), (b5_9, .inl (cI, 40, .inl gs_15)), (q_20, .inr (1, [.ref b0_23, .ref b1_24, .ref b2_25, .ref b3_26, .ref b4_27, .ref b5_28, .ref b6_29, .ref b7_30, .int 0])), (b0_23, .inl (cI, 10, .inl g0_31)), (b1_24, .inl (cI, 10, .inl g1_32)), (b2_25, .inl (cI, 10, .inl g2_33)), (b3_26, .inl (cI, 10, .inl g3_34)), (b4_27, .inl (cI, 10, .inl g4_35)), (b5_28, .inl (cI, 10, .inl g5_36)), (b7_30, .inl (cI, 10, .inl g7_37)), (b6_29, .inl (cQ, 10, .inr (.inr (.inr (.inr (fun i => if i < 10 then some (RR_38 i) else none)))))), ((RR_38 0), .inl (cI, 10, .inl (MM_39 0))), ((RR_38 1), .inl (cI, 10, .inl (MM_39 1))), ((RR_38 2), .inl (cI, 10, .inl (MM_39 2))), ((RR_38 3), .inl (cI, 10, .inl (MM_39 3))), ((RR_38 4), .inl (cI, 10, .inl (MM_39 4))), ((RR_38 5), .inl (cI, 10, .inl (MM_39 5))), ((RR_38 6), .inl (cI, 10, .inl (MM_39 6))), ((RR_38 7), .inl (cI, 10, .inl (MM_39 7))), ((RR_38 8), .inl (cI, 10, .inl (MM_39 8))), ((RR_38 9), .inl (cI, 10, .inl (MM_39 9))), (q_41, .inr (2, [.ref b0_44, .int 0])), (b0_44, .inl (cI, 10, .inl g0_45)), (q_46, .inl (cI, 3, .inl (upd (upd (upd (fun _ => (0 : Int32)) 0 10) 1 10) 2 10))), (q_47, .inl (cI, 5, .inl (fun _ => (0 : Int32))))] H := hP
  have hD : va_D A [(x, .inr (3, [.ref q_1, .ref q_20, .ref q_41, .ref q_46, .ref q_47, .int 100, .int 0, .int 0])), (q_1, .inr (0, [.ref b0_4, .ref b1_5, .ref b2_6, .ref b3_7, .ref b4_8, .ref b5_9, .int 0, .int 0])), (b0_4, .inl (cI, 40, .inl gw_10)), (b1_5, .inl (cI, 2, .inl gl_11)), (b2_6, .inl (cI, 6, .inl gd_12)), (b3_7, .inl (cI, 6, .inl gh_13)), (b4_8, .inl (cI, 40, .inl gg_14)), (b5_9, .inl (cI, 40, .inl gs_15)), (q_20, .inr (1, [.ref b0_23, .ref b1_24, .ref b2_25, .ref b3_26, .ref b4_27, .ref b5_28, .ref b6_29, .ref b7_30, .int 0])), (b0_23, .inl (cI, 10, .inl g0_31)), (b1_24, .inl (cI, 10, .inl g1_32)), (b2_25, .inl (cI, 10, .inl g2_33)), (b3_26, .inl (cI, 10, .inl g3_34)), (b4_27, .inl (cI, 10, .inl g4_35)), (b5_28, .inl (cI, 10, .inl g5_36)), (b7_30, .inl (cI, 10, .inl g7_37)), (b6_29, .inl (cQ, 10, .inr (.inr (.inr (.inr (fun i => if i < 10 then some (RR_38 i) else none)))))), ((RR_38 0), .inl (cI, 10, .inl (MM_39 0))), ((RR_38 1), .inl (cI, 10, .inl (MM_39 1))), ((RR_38 2), .inl (cI, 10, .inl (MM_39 2))), ((RR_38 3), .inl (cI, 10, .inl (MM_39 3))), ((RR_38 4), .inl (cI, 10, .inl (MM_39 4))), ((RR_38 5), .inl (cI, 10, .inl (MM_39 5))), ((RR_38 6), .inl (cI, 10, .inl (MM_39 6))), ((RR_38 7), .inl (cI, 10, .inl (MM_39 7))), ((RR_38 8), .inl (cI, 10, .inl (MM_39 8))), ((RR_38 9), .inl (cI, 10, .inl (MM_39 9))), (q_41, .inr (2, [.ref b0_44, .int 0])), (b0_44, .inl (cI, 10, .inl g0_45)), (q_46, .inl (cI, 3, .inl (upd (upd (upd (fun _ => (0 : Int32)) 0 10) 1 10) 2 10))), (q_47, .inl (cI, 5, .inl (fun _ => (0 : Int32))))] := hD
  refine W.widen (k := 30) (n := 351) (Nat.le_of_ble_eq_true rfl) (Nat.le_of_ble_eq_true rfl) ?_
  exact fi_v (q_1, q_20, q_41, q_46, q_47, b0_4, b1_5, b2_6, b3_7, b4_8, b5_9, b0_23, b1_24, b2_25, b3_26, b4_27, b5_28, b6_29, b7_30, b0_44, gw_10, gl_11, gd_12, gh_13, gg_14, gs_15, g0_31, g1_32, g2_33, g3_34, g4_35, g5_36, g7_37, RR_38, MM_39, g0_45, upd (upd (upd (fun _ => (0 : Int32)) 0 10) 1 10) 2 10, fun _ => (0 : Int32)) hx hb hr hlocks hK (hP.sub [0, 1, 2, 3, 4, 5, 6, 7, 8, 9, 10, 11, 12, 13, 14, 15, 16, 17, 18, 19, 20, 21, 22, 23, 24, 25, 26, 27, 28, 29, 30] rfl) (hD.sub [0, 1, 2, 3, 4, 5, 6, 7, 8, 9, 10, 11, 12, 13, 14, 15, 16, 17, 18, 19, 20, 21, 22, 23, 24, 25, 26, 27, 28, 29, 30] (by decide) rfl) hS ⟨(pf_X3_init_1 gw_10 gl_11 gs_15 g3_34 h_16 h_17 h_18 h_19 w_22), (pf_X3_init_2 gw_10 gl_11 gs_15 g3_34 h_16 h_17 h_18 h_19 w_22), (pf_X3_init_3 gw_10 gl_11 gs_15 g3_34 h_16 h_17 h_18 h_19 w_22), (pf_X3_init_4 gw_10 gl_11 gs_15 g3_34 h_16 h_17 h_18 h_19 w_22), (pf_X3_init_5 gw_10 gl_11 gs_15 g3_34 h_16 h_17 h_18 h_19 w_22), (pf_X3_init_6 gw_10 gl_11 gs_15 g3_34 h_16 h_17 h_18 h_19 w_22)⟩ dX3_init_82
