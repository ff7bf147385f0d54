set_option maxHeartbeats 1000000 in
theorem pf_X3_isIn_1 (v : Int32) (lo : Int32) (hi : Int32) (c_1 : v < lo) : 0 = bIn v lo hi := by
  grind [bIn]
set_option maxHeartbeats 1000000 in
theorem pf_X3_isIn_2 (v : Int32) (lo : Int32) (hi : Int32) (c_1 : ¬ v < lo) (c_2 : hi < v) : 0 = bIn v lo hi := by
  grind [bIn]
set_option maxHeartbeats 1000000 in
theorem pf_X3_isIn_3 (v : Int32) (lo : Int32) (hi : Int32) (c_1 : ¬ v < lo) (c_2 : ¬ hi < v) : 1 = bIn v lo hi := by
  grind [bIn]
set_option maxHeartbeats 4000000 in
set_option maxRecDepth 100000 in
theorem c_X3_isIn (l : Launch) (D : va_G) (cI : ClassId) (sz : Nat) (v : Int32) (lo : Int32) (hi : Int32) : CtI l yX3_isIn wsX3_isIn 0 0 0 0 [.int v, .int lo, .int hi] D [(cI, .int)] [] sz (fun (r : Int32) (u : Unit) => r = bIn v lo hi) (fun (u : Unit) => []) := by
  refine Met.ofW (cc := cX3_isIn) (maxL := 3) (ret := (some .boolean)) (by decide) rfl ?_
  intro p e s m args below meth c s₁ B hml hv
  obtain ⟨rfl, hsz, hP, hK, hD0, hN⟩ := hv
  have hx := B.exec
  have hb := B.bytes
  have hr := B.returns
  have hts := atoms_spec (ws := wsX3_isIn) B.pre
  have hown : s.vm.findClass RX3 = some m.cls := findClass_of_methodNamed B.named
  have hlocks := B.notSynchronized
  subst hsz
  have hD := hD0.self (sz := s.heap.size)
  generalize hAe : va_A [] s.heap.size = A at hD ⊢
  have hA : ∀ q : Nat, s.heap.size ≤ q → A q := fun q h => by rw [← hAe]; exact Or.inr h
  have hS : va_S A s.heap s.heap [] := va_S.rf
  have hl := lv_entry ([.int v, .int lo, .int hi]) (n := 3) (Nat.le_of_ble_eq_true rfl)
  rw [lg_entry_eq]
  generalize (lg_sl ([.int v, .int lo, .int hi]) ++ List.replicate (3 - (lg_sl ([.int v, .int lo, .int hi])).length) Slot.unset).toArray = ls at hl ⊢
  have hl : lv_has ls 3 [(0, .int v), (1, .int lo), (2, .int hi)] := hl
  have hP0 := hP
  refine lv_iload_n hx hb dX3_isIn_0 rfl (lv_at hl 0 rfl) ?_
  refine lv_iload_n hx hb dX3_isIn_1 rfl (lv_at hl 1 rfl) ?_
  refine lv_icmp_lt (tgt := 14) hx hb dX3_isIn_2 (by decide) (fun c_1 => ?_) (fun c_1 => ?_)
  · refine lv_iconst (v := 0) hx hb dX3_isIn_14 (by decide) ?_
    refine W.widen (k := 0) (n := 0) (Nat.le_of_ble_eq_true rfl) (Nat.le_of_ble_eq_true rfl) ?_
    exact fi_z () hx hb hr rfl hlocks hK (hP.sub [] rfl) (hD.sub [] (by decide) rfl) hS (pf_X3_isIn_1 v lo hi c_1) dX3_isIn_15
  · refine lv_iload_n hx hb dX3_isIn_5 rfl (lv_at hl 0 rfl) ?_
    refine lv_iload_n hx hb dX3_isIn_6 rfl (lv_at hl 2 rfl) ?_
    refine lv_icmp_gt (tgt := 14) hx hb dX3_isIn_7 (by decide) (fun c_2 => ?_) (fun c_2 => ?_)
    · refine lv_iconst (v := 0) hx hb dX3_isIn_14 (by decide) ?_
      refine W.widen (k := 0) (n := 0) (Nat.le_of_ble_eq_true rfl) (Nat.le_of_ble_eq_true rfl) ?_
      exact fi_z () hx hb hr rfl hlocks hK (hP.sub [] rfl) (hD.sub [] (by decide) rfl) hS (pf_X3_isIn_2 v lo hi c_1 c_2) dX3_isIn_15
    · refine lv_iconst (v := 1) hx hb dX3_isIn_10 (by decide) ?_
      refine lv_goto (tgt := 15) hx hb dX3_isIn_11 (by decide) ?_
      refine W.widen (k := 0) (n := 0) (Nat.le_of_ble_eq_true rfl) (Nat.le_of_ble_eq_true rfl) ?_
      exact fi_z () hx hb hr rfl hlocks hK (hP.sub [] rfl) (hD.sub [] (by decide) rfl) hS (pf_X3_isIn_3 v lo hi c_1 c_2) dX3_isIn_15

set_option maxHeartbeats 1000000 in
theorem pf_X3_isDay_1 (v : Int32) (r_1 : Int32) (w_2 : r_1 = bIn v 0 39) : r_1 = bIn v 0 39 := by
  grind [bIn]
set_option maxHeartbeats 1000000 in
theorem pf_X3_isDay_2 (v : Int32) (r_1 : Int32) (w_2 : r_1 = bIn v 0 39) : narrow .boolean (.int r_1) = .int r_1 := by
  exact nar_b (by subst_vars; exact bIn_01 _ _ _)
set_option maxHeartbeats 4000000 in
set_option maxRecDepth 100000 in
theorem c_X3_isDay (l : Launch) (D : va_G) (cI : ClassId) (sz : Nat) (v : Int32) : CtI l yX3_isDay wsX3_isDay 1 22 0 0 [.int v] D [(cI, .int)] [] sz (fun (r : Int32) (u : Unit) => r = bIn v 0 39) (fun (u : Unit) => []) := by
  refine Met.ofW (cc := cX3_isDay) (maxL := 1) (ret := (some .boolean)) (by decide) rfl ?_
  intro p e s m args below meth c s₁ B hml hv
  obtain ⟨rfl, hsz, hP, hK, hD0, hN⟩ := hv
  have hx := B.exec
  have hb := B.bytes
  have hr := B.returns
  have hts := atoms_spec (ws := wsX3_isDay) B.pre
  have hown : s.vm.findClass RX3 = some m.cls := findClass_of_methodNamed B.named
  have hlocks := B.notSynchronized
  subst hsz
  have hD := hD0.self (sz := s.heap.size)
  generalize hAe : va_A [] s.heap.size = A at hD ⊢
  have hA : ∀ q : Nat, s.heap.size ≤ q → A q := fun q h => by rw [← hAe]; exact Or.inr h
  have hS : va_S A s.heap s.heap [] := va_S.rf
  have hl := lv_entry ([.int v]) (n := 1) (Nat.le_of_ble_eq_true rfl)
  rw [lg_entry_eq]
  generalize (lg_sl ([.int v]) ++ List.replicate (1 - (lg_sl ([.int v])).length) Slot.unset).toArray = ls at hl ⊢
  have hl : lv_has ls 1 [(0, .int v)] := hl
  have hP0 := hP
  refine lv_iload_n hx hb dX3_isDay_0 rfl (lv_at hl 0 rfl) ?_
  refine lv_iconst (v := 0) hx hb dX3_isDay_1 (by decide) ?_
  refine lv_bipush (v := 39) hx hb dX3_isDay_2 (by decide) ?_
  refine cc_i (wc := []) (wr := []) (va_runS (As := [.int v, .int 0, .int 39]) (rest := []) ⟨hx, hb, hml, hown, hts⟩ (c_X3_isIn l D cI s.heap.size v 0 39 ) (va_cwS 3 hts gX3_isDay_X3_isIn rfl rfl rfl (by decide +kernel) ⟨Nat.le_of_ble_eq_true rfl, Nat.le_of_ble_eq_true rfl⟩) (preS (wc := []) hK hP hD hN [] rfl (by decide)) rfl rfl hl.1 rfl (lv_room (Nat.le_of_ble_eq_true rfl)) dX3_isDay_4 ⟨Nat.le_of_ble_eq_true rfl, Nat.le_of_ble_eq_true rfl⟩) hP hD hS hA [] [] rfl rfl (by decide) (by decide) (fun r_1 u H locs w_2 hP hD hS => ?_)
  have hP : va_P D vwCl [] H := hP
  have hD : va_D A [] := hD
  have w_2 : r_1 = bIn v 0 39 := w_2
  refine W.widen (k := 0) (n := 0) (Nat.le_of_ble_eq_true rfl) (Nat.le_of_ble_eq_true rfl) ?_
  exact fi_z () hx hb hr ((pf_X3_isDay_2 v r_1 w_2)) hlocks hK (hP.sub [] rfl) (hD.sub [] (by decide) rfl) hS (pf_X3_isDay_1 v r_1 w_2) dX3_isDay_7
