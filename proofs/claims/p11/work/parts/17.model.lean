set_option maxHeartbeats 1000000 in
theorem pf_X4_isDay_1 (d : Int32) (c_1 : d < 0) : (0 : Int32) = bDay d := by
  grind [bDay]
set_option maxHeartbeats 1000000 in
theorem pf_X4_isDay_2 (d : Int32) (c_1 : ¬ d < 0) (c_2 : 40 ≤ d) : (0 : Int32) = bDay d := by
  grind [bDay]
set_option maxHeartbeats 1000000 in
theorem pf_X4_isDay_3 (d : Int32) (c_1 : ¬ d < 0) (c_2 : ¬ 40 ≤ d) : (1 : Int32) = bDay d := by
  grind [bDay]
set_option maxHeartbeats 4000000 in
set_option maxRecDepth 100000 in
theorem c_X4_isDay (l : Launch) (D : va_G) (cI cQ : ClassId) (sz : Nat) (d : Int32) : CtI l yX4_isDay wsX4_isDay 0 0 0 0 [.int d] D [(cI, .int), (cQ, .array .int)] [] sz (fun (r : Int32) (u : Unit) => r = bDay d) (fun (u : Unit) => []) := by
  refine Met.ofW (cc := cX4_isDay) (maxL := 1) (ret := (some .boolean)) (by decide) rfl ?_
  intro p e s m args below meth c s₁ B hml hv
  obtain ⟨rfl, hsz, hP, hK, hD0, hN⟩ := hv
  have hx := B.exec
  have hb := B.bytes
  have hr := B.returns
  have hts := atoms_spec (ws := wsX4_isDay) B.pre
  have hown : s.vm.findClass RX4 = some m.cls := findClass_of_methodNamed B.named
  have hlocks := B.notSynchronized
  subst hsz
  have hD := hD0.self (sz := s.heap.size)
  generalize hAe : va_A [] s.heap.size = A at hD ⊢
  have hA : ∀ q : Nat, s.heap.size ≤ q → A q := fun q h => by rw [← hAe]; exact Or.inr h
  have hS : va_S A s.heap s.heap [] := va_S.rf
  have hl := lv_entry ([.int d]) (n := 1) (Nat.le_of_ble_eq_true rfl)
  rw [lg_entry_eq]
  generalize (lg_sl ([.int d]) ++ List.replicate (1 - (lg_sl ([.int d])).length) Slot.unset).toArray = ls at hl ⊢
  have hl : lv_has ls 1 [(0, .int d)] := hl
  have hP0 := hP
  refine lv_iload_n hx hb dX4_isDay_0 rfl (lv_at hl 0 rfl) ?_
  refine lv_if_lt (tgt := 14) hx hb dX4_isDay_1 (by decide) (fun c_1 => ?_) (fun c_1 => ?_)
  · refine lv_iconst (v := 0) hx hb dX4_isDay_14 (by decide) ?_
    refine W.widen (k := 0) (n := 0) (Nat.le_of_ble_eq_true rfl) (Nat.le_of_ble_eq_true rfl) ?_
    exact fi_z () hx hb hr rfl hlocks hK (hP.sub [] rfl) (hD.sub [] (by decide) rfl) hS (pf_X4_isDay_1 d c_1) dX4_isDay_15
  · refine lv_iload_n hx hb dX4_isDay_4 rfl (lv_at hl 0 rfl) ?_
    refine lv_bipush (v := 40) hx hb dX4_isDay_5 (by decide) ?_
    refine lv_icmp_ge (tgt := 14) hx hb dX4_isDay_7 (by decide) (fun c_2 => ?_) (fun c_2 => ?_)
    · refine lv_iconst (v := 0) hx hb dX4_isDay_14 (by decide) ?_
      refine W.widen (k := 0) (n := 0) (Nat.le_of_ble_eq_true rfl) (Nat.le_of_ble_eq_true rfl) ?_
      exact fi_z () hx hb hr rfl hlocks hK (hP.sub [] rfl) (hD.sub [] (by decide) rfl) hS (pf_X4_isDay_2 d c_1 c_2) dX4_isDay_15
    · refine lv_iconst (v := 1) hx hb dX4_isDay_10 (by decide) ?_
      refine lv_goto (tgt := 15) hx hb dX4_isDay_11 (by decide) ?_
      refine W.widen (k := 0) (n := 0) (Nat.le_of_ble_eq_true rfl) (Nat.le_of_ble_eq_true rfl) ?_
      exact fi_z () hx hb hr rfl hlocks hK (hP.sub [] rfl) (hD.sub [] (by decide) rfl) hS (pf_X4_isDay_3 d c_1 c_2) dX4_isDay_15

theorem iw_X4_isPiece_4 : ∀ w ∈ wsX40, w ∈ wsX4_isPiece := fun w h => (List.mem_cons_of_mem _ (List.mem_append_right _ h))
theorem wd_X4_isPiece_1 : (.fieldLink RX4 67 "PourPlanModel" "pieces" "I" : Cond) ∈ wsX4_isPiece := List.mem_of_getElem? (i := 1) rfl
set_option maxHeartbeats 1000000 in
theorem pf_X4_isPiece_1 (num : Int32) (a : Int32) (c_1 : a < 0) : (0 : Int32) = bPi a num := by
  grind [bPi]
set_option maxHeartbeats 1000000 in
theorem pf_X4_isPiece_2 (num : Int32) (a : Int32) (c_1 : ¬ a < 0) (c_2 : num ≤ a) : (0 : Int32) = bPi a num := by
  grind [bPi]
set_option maxHeartbeats 1000000 in
theorem pf_X4_isPiece_3 (num : Int32) (a : Int32) (c_1 : ¬ a < 0) (c_2 : ¬ num ≤ a) : (1 : Int32) = bPi a num := by
  grind [bPi]
set_option maxHeartbeats 4000000 in
set_option maxRecDepth 100000 in
theorem c_X4_isPiece (l : Launch) (D : va_G) (cI cQ : ClassId) (sz : Nat) (y0 : Nat) (m_kind : Nat) (m_floor : Nat) (m_volume : Nat) (m_size : Nat) (m_faces : Nat) (m_when : Nat) (m_ahead : Nat) (m_order : Nat) (m_tried : Nat) (m_chosen : Nat) (m_forms : Nat) (m_warmth : Nat) (m_degrees : Nat) (m_thousandths : Nat) (m_longest : Nat) (num : Int32) (pts : Int32) (nw : Int32) (en : Int32) (gl : Int32) (bw : Int32) (sp : Int32) (be : Int32) (ab : Int64) (bl : Int64) (a : Int32) : CtI l yX4_isPiece wsX4_isPiece 0 0 0 0 [.ref y0, .int a] D [(cI, .int), (cQ, .array .int)] [(y0, .inr (4, [.int num, .int pts, .int nw, .int en, .int gl, .int bw, .int sp, .int be, .ref m_kind, .ref m_floor, .ref m_volume, .ref m_size, .ref m_faces, .ref m_when, .ref m_ahead, .ref m_order, .ref m_tried, .ref m_chosen, .ref m_forms, .ref m_warmth, .ref m_degrees, .ref m_thousandths, .ref m_longest, .long ab, .long bl]))] sz (fun (r : Int32) (u : Unit) => r = bPi a num) (fun (u : Unit) => [(y0, .inr (4, [.int num, .int pts, .int nw, .int en, .int gl, .int bw, .int sp, .int be, .ref m_kind, .ref m_floor, .ref m_volume, .ref m_size, .ref m_faces, .ref m_when, .ref m_ahead, .ref m_order, .ref m_tried, .ref m_chosen, .ref m_forms, .ref m_warmth, .ref m_degrees, .ref m_thousandths, .ref m_longest, .long ab, .long bl]))]) := by
  refine Met.ofW (cc := cX4_isPiece) (maxL := 2) (ret := (some .boolean)) (by decide) rfl ?_
  intro p e s m args below meth c s₁ B hml hv
  obtain ⟨rfl, hsz, hP, hK, hD0, hN⟩ := hv
  have hx := B.exec
  have hb := B.bytes
  have hr := B.returns
  have hts := atoms_spec (ws := wsX4_isPiece) B.pre
  have hown : s.vm.findClass RX4 = some m.cls := findClass_of_methodNamed B.named
  have hlocks := B.notSynchronized
  subst hsz
  have hD := hD0.self (sz := s.heap.size)
  generalize hAe : va_A [(y0, .inr (4, [.int num, .int pts, .int nw, .int en, .int gl, .int bw, .int sp, .int be, .ref m_kind, .ref m_floor, .ref m_volume, .ref m_size, .ref m_faces, .ref m_when, .ref m_ahead, .ref m_order, .ref m_tried, .ref m_chosen, .ref m_forms, .ref m_warmth, .ref m_degrees, .ref m_thousandths, .ref m_longest, .long ab, .long bl]))] s.heap.size = A at hD ⊢
  have hA : ∀ q : Nat, s.heap.size ≤ q → A q := fun q h => by rw [← hAe]; exact Or.inr h
  have hS : va_S A s.heap s.heap [] := va_S.rf
  have hl := lv_entry ([.ref y0, .int a]) (n := 2) (Nat.le_of_ble_eq_true rfl)
  rw [lg_entry_eq]
  generalize (lg_sl ([.ref y0, .int a]) ++ List.replicate (2 - (lg_sl ([.ref y0, .int a])).length) Slot.unset).toArray = ls at hl ⊢
  have hl : lv_has ls 2 [(0, .ref y0), (1, .int a)] := hl
  have hP0 := hP
  refine lv_iload_n hx hb dX4_isPiece_0 rfl (lv_at hl 1 rfl) ?_
  refine lv_if_lt (tgt := 16) hx hb dX4_isPiece_1 (by decide) (fun c_1 => ?_) (fun c_1 => ?_)
  · refine lv_iconst (v := 0) hx hb dX4_isPiece_16 (by decide) ?_
    refine W.widen (k := 0) (n := 0) (Nat.le_of_ble_eq_true rfl) (Nat.le_of_ble_eq_true rfl) ?_
    exact fi_z () hx hb hr rfl hlocks hK (hP.sub [0] rfl) (hD.sub [0] (by decide) rfl) hS (pf_X4_isPiece_1 num a c_1) dX4_isPiece_17
  · refine lv_iload_n hx hb dX4_isPiece_4 rfl (lv_at hl 1 rfl) ?_
    refine lv_aload_n hx hb dX4_isPiece_5 rfl (lv_at hl 0 rfl) ?_
    refine va_get (D := D) (ci := 4) (v := .int num) (C := RX4) (T := TX4) (N := 25) hx hb hts iw_X4_isPiece_4 hown hK hP 0 rfl rfl 0 (by decide) (hts _ wd_X4_isPiece_1) (fun _ h9 => h9) rfl dX4_isPiece_6 ?_
    refine lv_icmp_ge (tgt := 16) hx hb dX4_isPiece_9 (by decide) (fun c_2 => ?_) (fun c_2 => ?_)
    · refine lv_iconst (v := 0) hx hb dX4_isPiece_16 (by decide) ?_
      refine W.widen (k := 0) (n := 0) (Nat.le_of_ble_eq_true rfl) (Nat.le_of_ble_eq_true rfl) ?_
      exact fi_z () hx hb hr rfl hlocks hK (hP.sub [0] rfl) (hD.sub [0] (by decide) rfl) hS (pf_X4_isPiece_2 num a c_1 c_2) dX4_isPiece_17
    · refine lv_iconst (v := 1) hx hb dX4_isPiece_12 (by decide) ?_
      refine lv_goto (tgt := 17) hx hb dX4_isPiece_13 (by decide) ?_
      refine W.widen (k := 0) (n := 0) (Nat.le_of_ble_eq_true rfl) (Nat.le_of_ble_eq_true rfl) ?_
      exact fi_z () hx hb hr rfl hlocks hK (hP.sub [0] rfl) (hD.sub [0] (by decide) rfl) hS (pf_X4_isPiece_3 num a c_1 c_2) dX4_isPiece_17

theorem iw_X4_gang_4 : ∀ w ∈ wsX40, w ∈ wsX4_gang := fun w h => (List.mem_cons_of_mem _ (List.mem_append_right _ h))
theorem wd_X4_gang_1 : (.fieldLink RX4 9 "PourPlanModel" "gang" "I" : Cond) ∈ wsX4_gang := List.mem_of_getElem? (i := 1) rfl
set_option maxHeartbeats 1000000 in
theorem pf_X4_gang_1 (gl : Int32) (n : Int32) (c_1 : n < 1) : (-2 : Int32) = rGang gl n := by
  grind [rGang, sGang]
set_option maxHeartbeats 1000000 in
theorem pf_X4_gang_2 (gl : Int32) (n : Int32) (c_1 : n < 1) : gl = sGang gl n := by
  grind [rGang, sGang]
set_option maxHeartbeats 1000000 in
theorem pf_X4_gang_3 (gl : Int32) (n : Int32) (c_1 : ¬ n < 1) (c_2 : n ≤ 1000) : gl = rGang gl n := by
  grind [rGang, sGang]
set_option maxHeartbeats 1000000 in
theorem pf_X4_gang_4 (gl : Int32) (n : Int32) (c_1 : ¬ n < 1) (c_2 : n ≤ 1000) : n = sGang gl n := by
  grind [rGang, sGang]
set_option maxHeartbeats 1000000 in
theorem pf_X4_gang_5 (gl : Int32) (n : Int32) (c_1 : ¬ n < 1) (c_2 : ¬ n ≤ 1000) : (-2 : Int32) = rGang gl n := by
  grind [rGang, sGang]
set_option maxHeartbeats 1000000 in
theorem pf_X4_gang_6 (gl : Int32) (n : Int32) (c_1 : ¬ n < 1) (c_2 : ¬ n ≤ 1000) : gl = sGang gl n := by
  grind [rGang, sGang]
set_option maxHeartbeats 4000000 in
set_option maxRecDepth 100000 in
theorem c_X4_gang (l : Launch) (D : va_G) (cI cQ : ClassId) (sz : Nat) (y0 : Nat) (m_kind : Nat) (m_floor : Nat) (m_volume : Nat) (m_size : Nat) (m_faces : Nat) (m_when : Nat) (m_ahead : Nat) (m_order : Nat) (m_tried : Nat) (m_chosen : Nat) (m_forms : Nat) (m_warmth : Nat) (m_degrees : Nat) (m_thousandths : Nat) (m_longest : Nat) (num : Int32) (pts : Int32) (nw : Int32) (en : Int32) (gl : Int32) (bw : Int32) (sp : Int32) (be : Int32) (ab : Int64) (bl : Int64) (n : Int32) : CtI l yX4_gang wsX4_gang 0 0 0 0 [.ref y0, .int n] D [(cI, .int), (cQ, .array .int)] [(y0, .inr (4, [.int num, .int pts, .int nw, .int en, .int gl, .int bw, .int sp, .int be, .ref m_kind, .ref m_floor, .ref m_volume, .ref m_size, .ref m_faces, .ref m_when, .ref m_ahead, .ref m_order, .ref m_tried, .ref m_chosen, .ref m_forms, .ref m_warmth, .ref m_degrees, .ref m_thousandths, .ref m_longest, .long ab, .long bl]))] sz (fun (r : Int32) (u : Int32) => r = rGang gl n ∧ u = sGang gl n) (fun (u : Int32) => [(y0, .inr (4, [.int num, .int pts, .int nw, .int en, .int u, .int bw, .int sp, .int be, .ref m_kind, .ref m_floor, .ref m_volume, .ref m_size, .ref m_faces, .ref m_when, .ref m_ahead, .ref m_order, .ref m_tried, .ref m_chosen, .ref m_forms, .ref m_warmth, .ref m_degrees, .ref m_thousandths, .ref m_longest, .long ab, .long bl]))]) := by
  refine Met.ofW (cc := cX4_gang) (maxL := 3) (ret := (some .int)) (by decide) rfl ?_
  intro p e s m args below meth c s₁ B hml hv
  obtain ⟨rfl, hsz, hP, hK, hD0, hN⟩ := hv
  have hx := B.exec
  have hb := B.bytes
  have hr := B.returns
  have hts := atoms_spec (ws := wsX4_gang) B.pre
  have hown : s.vm.findClass RX4 = some m.cls := findClass_of_methodNamed B.named
  have hlocks := B.notSynchronized
  subst hsz
  have hD := hD0.self (sz := s.heap.size)
  generalize hAe : va_A [(y0, .inr (4, [.int num, .int pts, .int nw, .int en, .int gl, .int bw, .int sp, .int be, .ref m_kind, .ref m_floor, .ref m_volume, .ref m_size, .ref m_faces, .ref m_when, .ref m_ahead, .ref m_order, .ref m_tried, .ref m_chosen, .ref m_forms, .ref m_warmth, .ref m_degrees, .ref m_thousandths, .ref m_longest, .long ab, .long bl]))] s.heap.size = A at hD ⊢
  have hA : ∀ q : Nat, s.heap.size ≤ q → A q := fun q h => by rw [← hAe]; exact Or.inr h
  have hS : va_S A s.heap s.heap [] := va_S.rf
  have hl := lv_entry ([.ref y0, .int n]) (n := 3) (Nat.le_of_ble_eq_true rfl)
  rw [lg_entry_eq]
  generalize (lg_sl ([.ref y0, .int n]) ++ List.replicate (3 - (lg_sl ([.ref y0, .int n])).length) Slot.unset).toArray = ls at hl ⊢
  have hl : lv_has ls 3 [(0, .ref y0), (1, .int n)] := hl
  have hP0 := hP
  refine lv_iload_n hx hb dX4_gang_0 rfl (lv_at hl 1 rfl) ?_
  refine lv_iconst (v := 1) hx hb dX4_gang_1 (by decide) ?_
  refine lv_icmp_lt (tgt := 12) hx hb dX4_gang_2 (by decide) (fun c_1 => ?_) (fun c_1 => ?_)
  · refine lv_bipush (v := (-2)) hx hb dX4_gang_12 (by decide) ?_
    refine W.widen (k := 0) (n := 0) (Nat.le_of_ble_eq_true rfl) (Nat.le_of_ble_eq_true rfl) ?_
    exact fi_i gl hx hb hr hlocks hK (hP.sub [0] rfl) (hD.sub [0] (by decide) rfl) hS ⟨(pf_X4_gang_1 gl n c_1), (pf_X4_gang_2 gl n c_1)⟩ dX4_gang_14
  · refine lv_iload_n hx hb dX4_gang_5 rfl (lv_at hl 1 rfl) ?_
    refine lv_sipush (v := 1000) hx hb dX4_gang_6 (by decide) ?_
    refine lv_icmp_le (tgt := 15) hx hb dX4_gang_9 (by decide) (fun c_2 => ?_) (fun c_2 => ?_)
    · refine lv_aload_n hx hb dX4_gang_15 rfl (lv_at hl 0 rfl) ?_
      refine va_get (D := D) (ci := 4) (v := .int gl) (C := RX4) (T := TX4) (N := 25) hx hb hts iw_X4_gang_4 hown hK hP 0 rfl rfl 4 (by decide) (hts _ wd_X4_gang_1) (fun _ h9 => h9) rfl dX4_gang_16 ?_
      refine lv_istore_n (lv' := [(2, .int gl), (0, .ref y0), (1, .int n)]) hx hb dX4_gang_19 rfl hl (by decide) rfl (fun ls hl => ?_)
      refine lv_aload_n hx hb dX4_gang_20 rfl (lv_at hl 1 rfl) ?_
      refine lv_iload_n hx hb dX4_gang_21 rfl (lv_at hl 2 rfl) ?_
      refine va_put (D := D) (ci := 4) (v := .int n) (ty := .int) (C := RX4) (T := TX4) (N := 25) hx hb hts iw_X4_gang_4 tyX4 tyX4_ok nmX4 hown hK hP hD hS 0 rfl rfl 4 (by decide) (hts _ wd_X4_gang_1) (fun _ h9 => h9) rfl (by decide +kernel) rfl rfl (Nat.le_of_ble_eq_true rfl) dX4_gang_22 (fun H locs hP hD hS => ?_)
      have hP : va_P D vwCl [(y0, .inr (4, [.int num, .int pts, .int nw, .int en, .int n, .int bw, .int sp, .int be, .ref m_kind, .ref m_floor, .ref m_volume, .ref m_size, .ref m_faces, .ref m_when, .ref m_ahead, .ref m_order, .ref m_tried, .ref m_chosen, .ref m_forms, .ref m_warmth, .ref m_degrees, .ref m_thousandths, .ref m_longest, .long ab, .long bl]))] H := hP
      have hD : va_D A [(y0, .inr (4, [.int num, .int pts, .int nw, .int en, .int n, .int bw, .int sp, .int be, .ref m_kind, .ref m_floor, .ref m_volume, .ref m_size, .ref m_faces, .ref m_when, .ref m_ahead, .ref m_order, .ref m_tried, .ref m_chosen, .ref m_forms, .ref m_warmth, .ref m_degrees, .ref m_thousandths, .ref m_longest, .long ab, .long bl]))] := hD
      refine lv_iload_n hx hb dX4_gang_25 rfl (lv_at hl 0 rfl) ?_
      refine W.widen (k := 0) (n := 0) (Nat.le_of_ble_eq_true rfl) (Nat.le_of_ble_eq_true rfl) ?_
      exact fi_i n hx hb hr hlocks hK (hP.sub [0] rfl) (hD.sub [0] (by decide) rfl) hS ⟨(pf_X4_gang_3 gl n c_1 c_2), (pf_X4_gang_4 gl n c_1 c_2)⟩ dX4_gang_26
    · refine lv_bipush (v := (-2)) hx hb dX4_gang_12 (by decide) ?_
      refine W.widen (k := 0) (n := 0) (Nat.le_of_ble_eq_true rfl) (Nat.le_of_ble_eq_true rfl) ?_
      exact fi_i gl hx hb hr hlocks hK (hP.sub [0] rfl) (hD.sub [0] (by decide) rfl) hS ⟨(pf_X4_gang_5 gl n c_1 c_2), (pf_X4_gang_6 gl n c_1 c_2)⟩ dX4_gang_14

theorem iw_X4_base_4 : ∀ w ∈ wsX40, w ∈ wsX4_base := fun w h => (List.mem_cons_of_mem _ (List.mem_append_right _ h))
theorem wd_X4_base_1 : (.fieldLink RX4 85 "PourPlanModel" "base" "I" : Cond) ∈ wsX4_base := List.mem_of_getElem? (i := 1) rfl
set_option maxHeartbeats 1000000 in
theorem pf_X4_base_1 (bw : Int32) (b1 : Int32) (c_1 : b1 < 0) : (-2 : Int32) = rBase bw b1 := by
  grind [rBase, sBase]
set_option maxHeartbeats 1000000 in
theorem pf_X4_base_2 (bw : Int32) (b1 : Int32) (c_1 : b1 < 0) : bw = sBase bw b1 := by
  grind [rBase, sBase]
set_option maxHeartbeats 1000000 in
theorem pf_X4_base_3 (bw : Int32) (b1 : Int32) (c_1 : ¬ b1 < 0) (c_2 : b1 ≤ 20) : bw = rBase bw b1 := by
  grind [rBase, sBase]
set_option maxHeartbeats 1000000 in
theorem pf_X4_base_4 (bw : Int32) (b1 : Int32) (c_1 : ¬ b1 < 0) (c_2 : b1 ≤ 20) : b1 = sBase bw b1 := by
  grind [rBase, sBase]
set_option maxHeartbeats 1000000 in
theorem pf_X4_base_5 (bw : Int32) (b1 : Int32) (c_1 : ¬ b1 < 0) (c_2 : ¬ b1 ≤ 20) : (-2 : Int32) = rBase bw b1 := by
  grind [rBase, sBase]
set_option maxHeartbeats 1000000 in
theorem pf_X4_base_6 (bw : Int32) (b1 : Int32) (c_1 : ¬ b1 < 0) (c_2 : ¬ b1 ≤ 20) : bw = sBase bw b1 := by
  grind [rBase, sBase]
set_option maxHeartbeats 4000000 in
set_option maxRecDepth 100000 in
theorem c_X4_base (l : Launch) (D : va_G) (cI cQ : ClassId) (sz : Nat) (y0 : Nat) (m_kind : Nat) (m_floor : Nat) (m_volume : Nat) (m_size : Nat) (m_faces : Nat) (m_when : Nat) (m_ahead : Nat) (m_order : Nat) (m_tried : Nat) (m_chosen : Nat) (m_forms : Nat) (m_warmth : Nat) (m_degrees : Nat) (m_thousandths : Nat) (m_longest : Nat) (num : Int32) (pts : Int32) (nw : Int32) (en : Int32) (gl : Int32) (bw : Int32) (sp : Int32) (be : Int32) (ab : Int64) (bl : Int64) (b1 : Int32) : CtI l yX4_base wsX4_base 0 0 0 0 [.ref y0, .int b1] D [(cI, .int), (cQ, .array .int)] [(y0, .inr (4, [.int num, .int pts, .int nw, .int en, .int gl, .int bw, .int sp, .int be, .ref m_kind, .ref m_floor, .ref m_volume, .ref m_size, .ref m_faces, .ref m_when, .ref m_ahead, .ref m_order, .ref m_tried, .ref m_chosen, .ref m_forms, .ref m_warmth, .ref m_degrees, .ref m_thousandths, .ref m_longest, .long ab, .long bl]))] sz (fun (r : Int32) (u : Int32) => r = rBase bw b1 ∧ u = sBase bw b1) (fun (u : Int32) => [(y0, .inr (4, [.int num, .int pts, .int nw, .int en, .int gl, .int u, .int sp, .int be, .ref m_kind, .ref m_floor, .ref m_volume, .ref m_size, .ref m_faces, .ref m_when, .ref m_ahead, .ref m_order, .ref m_tried, .ref m_chosen, .ref m_forms, .ref m_warmth, .ref m_degrees, .ref m_thousandths, .ref m_longest, .long ab, .long bl]))]) := by
  refine Met.ofW (cc := cX4_base) (maxL := 3) (ret := (some .int)) (by decide) rfl ?_
  intro p e s m args below meth c s₁ B hml hv
  obtain ⟨rfl, hsz, hP, hK, hD0, hN⟩ := hv
  have hx := B.exec
  have hb := B.bytes
  have hr := B.returns
  have hts := atoms_spec (ws := wsX4_base) B.pre
  have hown : s.vm.findClass RX4 = some m.cls := findClass_of_methodNamed B.named
  have hlocks := B.notSynchronized
  subst hsz
  have hD := hD0.self (sz := s.heap.size)
  generalize hAe : va_A [(y0, .inr (4, [.int num, .int pts, .int nw, .int en, .int gl, .int bw, .int sp, .int be, .ref m_kind, .ref m_floor, .ref m_volume, .ref m_size, .ref m_faces, .ref m_when, .ref m_ahead, .ref m_order, .ref m_tried, .ref m_chosen, .ref m_forms, .ref m_warmth, .ref m_degrees, .ref m_thousandths, .ref m_longest, .long ab, .long bl]))] s.heap.size = A at hD ⊢
  have hA : ∀ q : Nat, s.heap.size ≤ q → A q := fun q h => by rw [← hAe]; exact Or.inr h
  have hS : va_S A s.heap s.heap [] := va_S.rf
  have hl := lv_entry ([.ref y0, .int b1]) (n := 3) (Nat.le_of_ble_eq_true rfl)
  rw [lg_entry_eq]
  generalize (lg_sl ([.ref y0, .int b1]) ++ List.replicate (3 - (lg_sl ([.ref y0, .int b1])).length) Slot.unset).toArray = ls at hl ⊢
  have hl : lv_has ls 3 [(0, .ref y0), (1, .int b1)] := hl
  have hP0 := hP
  refine lv_iload_n hx hb dX4_base_0 rfl (lv_at hl 1 rfl) ?_
  refine lv_if_lt (tgt := 10) hx hb dX4_base_1 (by decide) (fun c_1 => ?_) (fun c_1 => ?_)
  · refine lv_bipush (v := (-2)) hx hb dX4_base_10 (by decide) ?_
    refine W.widen (k := 0) (n := 0) (Nat.le_of_ble_eq_true rfl) (Nat.le_of_ble_eq_true rfl) ?_
    exact fi_i bw hx hb hr hlocks hK (hP.sub [0] rfl) (hD.sub [0] (by decide) rfl) hS ⟨(pf_X4_base_1 bw b1 c_1), (pf_X4_base_2 bw b1 c_1)⟩ dX4_base_12
  · refine lv_iload_n hx hb dX4_base_4 rfl (lv_at hl 1 rfl) ?_
    refine lv_bipush (v := 20) hx hb dX4_base_5 (by decide) ?_
    refine lv_icmp_le (tgt := 13) hx hb dX4_base_7 (by decide) (fun c_2 => ?_) (fun c_2 => ?_)
    · refine lv_aload_n hx hb dX4_base_13 rfl (lv_at hl 0 rfl) ?_
      refine va_get (D := D) (ci := 4) (v := .int bw) (C := RX4) (T := TX4) (N := 25) hx hb hts iw_X4_base_4 hown hK hP 0 rfl rfl 5 (by decide) (hts _ wd_X4_base_1) (fun _ h9 => h9) rfl dX4_base_14 ?_
      refine lv_istore_n (lv' := [(2, .int bw), (0, .ref y0), (1, .int b1)]) hx hb dX4_base_17 rfl hl (by decide) rfl (fun ls hl => ?_)
      refine lv_aload_n hx hb dX4_base_18 rfl (lv_at hl 1 rfl) ?_
      refine lv_iload_n hx hb dX4_base_19 rfl (lv_at hl 2 rfl) ?_
      refine va_put (D := D) (ci := 4) (v := .int b1) (ty := .int) (C := RX4) (T := TX4) (N := 25) hx hb hts iw_X4_base_4 tyX4 tyX4_ok nmX4 hown hK hP hD hS 0 rfl rfl 5 (by decide) (hts _ wd_X4_base_1) (fun _ h9 => h9) rfl (by decide +kernel) rfl rfl (Nat.le_of_ble_eq_true rfl) dX4_base_20 (fun H locs hP hD hS => ?_)
      have hP : va_P D vwCl [(y0, .inr (4, [.int num, .int pts, .int nw, .int en, .int gl, .int b1, .int sp, .int be, .ref m_kind, .ref m_floor, .ref m_volume, .ref m_size, .ref m_faces, .ref m_when, .ref m_ahead, .ref m_order, .ref m_tried, .ref m_chosen, .ref m_forms, .ref m_warmth, .ref m_degrees, .ref m_thousandths, .ref m_longest, .long ab, .long bl]))] H := hP
      have hD : va_D A [(y0, .inr (4, [.int num, .int pts, .int nw, .int en, .int gl, .int b1, .int sp, .int be, .ref m_kind, .ref m_floor, .ref m_volume, .ref m_size, .ref m_faces, .ref m_when, .ref m_ahead, .ref m_order, .ref m_tried, .ref m_chosen, .ref m_forms, .ref m_warmth, .ref m_degrees, .ref m_thousandths, .ref m_longest, .long ab, .long bl]))] := hD
      refine lv_iload_n hx hb dX4_base_23 rfl (lv_at hl 0 rfl) ?_
      refine W.widen (k := 0) (n := 0) (Nat.le_of_ble_eq_true rfl) (Nat.le_of_ble_eq_true rfl) ?_
      exact fi_i b1 hx hb hr hlocks hK (hP.sub [0] rfl) (hD.sub [0] (by decide) rfl) hS ⟨(pf_X4_base_3 bw b1 c_1 c_2), (pf_X4_base_4 bw b1 c_1 c_2)⟩ dX4_base_24
    · refine lv_bipush (v := (-2)) hx hb dX4_base_10 (by decide) ?_
      refine W.widen (k := 0) (n := 0) (Nat.le_of_ble_eq_true rfl) (Nat.le_of_ble_eq_true rfl) ?_
      exact fi_i bw hx hb hr hlocks hK (hP.sub [0] rfl) (hD.sub [0] (by decide) rfl) hS ⟨(pf_X4_base_5 bw b1 c_1 c_2), (pf_X4_base_6 bw b1 c_1 c_2)⟩ dX4_base_12

theorem iw_X4_form_4 : ∀ w ∈ wsX40, w ∈ wsX4_form := fun w h => (List.mem_cons_of_mem _ (List.mem_append_right _ h))
theorem wd_X4_form_1 : (.fieldLink RX4 52 "PourPlanModel" "forms" "[I" : Cond) ∈ wsX4_form := List.mem_of_getElem? (i := 1) rfl
set_option maxHeartbeats 1000000 in
theorem pf_X4_form_1 (u_forms : Nat → Int32) (s1 : Int32) (n : Int32) (c_1 : s1 < 0) : (-1 : Int32) = rForm u_forms s1 n := by
  grind [rForm, sForm]
set_option maxHeartbeats 1000000 in
theorem pf_X4_form_2 (u_forms : Nat → Int32) (s1 : Int32) (n : Int32) (c_1 : s1 < 0) : u_forms = sForm u_forms s1 n := by
  grind [rForm, sForm]
set_option maxHeartbeats 1000000 in
theorem pf_X4_form_3 (u_forms : Nat → Int32) (s1 : Int32) (n : Int32) (c_1 : ¬ s1 < 0) (c_2 : s1 ≤ 2) (c_3 : n < 0) : (-2 : Int32) = rForm u_forms s1 n := by
  grind [rForm, sForm]
set_option maxHeartbeats 1000000 in
theorem pf_X4_form_4 (u_forms : Nat → Int32) (s1 : Int32) (n : Int32) (c_1 : ¬ s1 < 0) (c_2 : s1 ≤ 2) (c_3 : n < 0) : u_forms = sForm u_forms s1 n := by
  grind [rForm, sForm]
set_option maxHeartbeats 1000000 in
theorem pf_X4_form_5 (s1 : Int32) (n : Int32) (c_1 : ¬ s1 < 0) (c_2 : s1 ≤ 2) (c_3 : ¬ n < 0) (c_4 : n ≤ 50) : vp_in s1 3 := by
  exact vi_in (M := 3) rfl (by grind [rForm, sForm]) (by grind [rForm, sForm])
set_option maxHeartbeats 1000000 in
theorem pf_X4_form_6 (u_forms : Nat → Int32) (s1 : Int32) (n : Int32) (v_5 : Int32) (c_1 : ¬ s1 < 0) (c_2 : s1 ≤ 2) (c_3 : ¬ n < 0) (c_4 : n ≤ 50) (ev_5 : v_5 = u_forms s1.toNatClampNeg) : vp_in s1 3 := by
  exact vi_in (M := 3) rfl (by grind [rForm, sForm]) (by grind [rForm, sForm])
set_option maxHeartbeats 1000000 in
theorem pf_X4_form_7 (u_forms : Nat → Int32) (s1 : Int32) (n : Int32) (v_5 : Int32) (c_1 : ¬ s1 < 0) (c_2 : s1 ≤ 2) (c_3 : ¬ n < 0) (c_4 : n ≤ 50) (ev_5 : v_5 = u_forms s1.toNatClampNeg) : v_5 = rForm u_forms s1 n := by
  grind [rForm, sForm]
set_option maxHeartbeats 1000000 in
theorem pf_X4_form_8 (u_forms : Nat → Int32) (s1 : Int32) (n : Int32) (v_5 : Int32) (c_1 : ¬ s1 < 0) (c_2 : s1 ≤ 2) (c_3 : ¬ n < 0) (c_4 : n ≤ 50) (ev_5 : v_5 = u_forms s1.toNatClampNeg) : (upd u_forms s1.toNatClampNeg n) = sForm u_forms s1 n := by
  grind [rForm, sForm]
set_option maxHeartbeats 1000000 in
theorem pf_X4_form_9 (u_forms : Nat → Int32) (s1 : Int32) (n : Int32) (c_1 : ¬ s1 < 0) (c_2 : s1 ≤ 2) (c_3 : ¬ n < 0) (c_4 : ¬ n ≤ 50) : (-2 : Int32) = rForm u_forms s1 n := by
  grind [rForm, sForm]
set_option maxHeartbeats 1000000 in
theorem pf_X4_form_10 (u_forms : Nat → Int32) (s1 : Int32) (n : Int32) (c_1 : ¬ s1 < 0) (c_2 : s1 ≤ 2) (c_3 : ¬ n < 0) (c_4 : ¬ n ≤ 50) : u_forms = sForm u_forms s1 n := by
  grind [rForm, sForm]
set_option maxHeartbeats 1000000 in
theorem pf_X4_form_11 (u_forms : Nat → Int32) (s1 : Int32) (n : Int32) (c_1 : ¬ s1 < 0) (c_2 : ¬ s1 ≤ 2) : (-1 : Int32) = rForm u_forms s1 n := by
  grind [rForm, sForm]
set_option maxHeartbeats 1000000 in
theorem pf_X4_form_12 (u_forms : Nat → Int32) (s1 : Int32) (n : Int32) (c_1 : ¬ s1 < 0) (c_2 : ¬ s1 ≤ 2) : u_forms = sForm u_forms s1 n := by
  grind [rForm, sForm]
set_option maxHeartbeats 4000000 in
set_option maxRecDepth 100000 in
theorem c_X4_form (l : Launch) (D : va_G) (cI cQ : ClassId) (sz : Nat) (y0 : Nat) (m_forms : Nat) (m_kind : Nat) (m_floor : Nat) (m_volume : Nat) (m_size : Nat) (m_faces : Nat) (m_when : Nat) (m_ahead : Nat) (m_order : Nat) (m_tried : Nat) (m_chosen : Nat) (m_warmth : Nat) (m_degrees : Nat) (m_thousandths : Nat) (m_longest : Nat) (num : Int32) (pts : Int32) (nw : Int32) (en : Int32) (gl : Int32) (bw : Int32) (sp : Int32) (be : Int32) (ab : Int64) (bl : Int64) (u_forms : Nat → Int32) (s1 : Int32) (n : Int32) : CtI l yX4_form wsX4_form 0 0 0 0 [.ref y0, .int s1, .int n] D [(cI, .int), (cQ, .array .int)] [(y0, .inr (4, [.int num, .int pts, .int nw, .int en, .int gl, .int bw, .int sp, .int be, .ref m_kind, .ref m_floor, .ref m_volume, .ref m_size, .ref m_faces, .ref m_when, .ref m_ahead, .ref m_order, .ref m_tried, .ref m_chosen, .ref m_forms, .ref m_warmth, .ref m_degrees, .ref m_thousandths, .ref m_longest, .long ab, .long bl])), (m_forms, .inl (cI, 3, .inl u_forms))] sz (fun (r : Int32) (u : (Nat → Int32)) => r = rForm u_forms s1 n ∧ u = sForm u_forms s1 n) (fun (u : (Nat → Int32)) => [(y0, .inr (4, [.int num, .int pts, .int nw, .int en, .int gl, .int bw, .int sp, .int be, .ref m_kind, .ref m_floor, .ref m_volume, .ref m_size, .ref m_faces, .ref m_when, .ref m_ahead, .ref m_order, .ref m_tried, .ref m_chosen, .ref m_forms, .ref m_warmth, .ref m_degrees, .ref m_thousandths, .ref m_longest, .long ab, .long bl])), (m_forms, .inl (cI, 3, .inl u))]) := by
  refine Met.ofW (cc := cX4_form) (maxL := 4) (ret := (some .int)) (by decide) rfl ?_
  intro p e s m args below meth c s₁ B hml hv
  obtain ⟨rfl, hsz, hP, hK, hD0, hN⟩ := hv
  have hx := B.exec
  have hb := B.bytes
  have hr := B.returns
  have hts := atoms_spec (ws := wsX4_form) B.pre
  have hown : s.vm.findClass RX4 = some m.cls := findClass_of_methodNamed B.named
  have hlocks := B.notSynchronized
  subst hsz
  have hD := hD0.self (sz := s.heap.size)
  generalize hAe : va_A [(y0, .inr (4, [.int num, .int pts, .int nw, .int en, .int gl, .int bw, .int sp, .int be, .ref m_kind, .ref m_floor, .ref m_volume, .ref m_size, .ref m_faces, .ref m_when, .ref m_ahead, .ref m_order, .ref m_tried, .ref m_chosen, .ref m_forms, .ref m_warmth, .ref m_degrees, .ref m_thousandths, .ref m_longest, .long ab, .long bl])), (m_forms, .inl (cI, 3, .inl u_forms))] s.heap.size = A at hD ⊢
  have hA : ∀ q : Nat, s.heap.size ≤ q → A q := fun q h => by rw [← hAe]; exact Or.inr h
  have hS : va_S A s.heap s.heap [] := va_S.rf
  have hl := lv_entry ([.ref y0, .int s1, .int n]) (n := 4) (Nat.le_of_ble_eq_true rfl)
  rw [lg_entry_eq]
  generalize (lg_sl ([.ref y0, .int s1, .int n]) ++ List.replicate (4 - (lg_sl ([.ref y0, .int s1, .int n])).length) Slot.unset).toArray = ls at hl ⊢
  have hl : lv_has ls 4 [(0, .ref y0), (1, .int s1), (2, .int n)] := hl
  have hP0 := hP
  refine lv_iload_n hx hb dX4_form_0 rfl (lv_at hl 1 rfl) ?_
  refine lv_if_lt (tgt := 9) hx hb dX4_form_1 (by decide) (fun c_1 => ?_) (fun c_1 => ?_)
  · refine lv_iconst (v := (-1)) hx hb dX4_form_9 (by decide) ?_
    refine W.widen (k := 0) (n := 0) (Nat.le_of_ble_eq_true rfl) (Nat.le_of_ble_eq_true rfl) ?_
    exact fi_i u_forms hx hb hr hlocks hK (hP.sub [0, 1] rfl) (hD.sub [0, 1] (by decide) rfl) hS ⟨(pf_X4_form_1 u_forms s1 n c_1), (pf_X4_form_2 u_forms s1 n c_1)⟩ dX4_form_10
  · refine lv_iload_n hx hb dX4_form_4 rfl (lv_at hl 1 rfl) ?_
    refine lv_iconst (v := 2) hx hb dX4_form_5 (by decide) ?_
    refine lv_icmp_le (tgt := 11) hx hb dX4_form_6 (by decide) (fun c_2 => ?_) (fun c_2 => ?_)
    · refine lv_iload_n hx hb dX4_form_11 rfl (lv_at hl 2 rfl) ?_
      refine lv_if_lt (tgt := 21) hx hb dX4_form_12 (by decide) (fun c_3 => ?_) (fun c_3 => ?_)
      · refine lv_bipush (v := (-2)) hx hb dX4_form_21 (by decide) ?_
        refine W.widen (k := 0) (n := 0) (Nat.le_of_ble_eq_true rfl) (Nat.le_of_ble_eq_true rfl) ?_
        exact fi_i u_forms hx hb hr hlocks hK (hP.sub [0, 1] rfl) (hD.sub [0, 1] (by decide) rfl) hS ⟨(pf_X4_form_3 u_forms s1 n c_1 c_2 c_3), (pf_X4_form_4 u_forms s1 n c_1 c_2 c_3)⟩ dX4_form_23
      · refine lv_iload_n hx hb dX4_form_15 rfl (lv_at hl 2 rfl) ?_
        refine lv_bipush (v := 50) hx hb dX4_form_16 (by decide) ?_
        refine lv_icmp_le (tgt := 24) hx hb dX4_form_18 (by decide) (fun c_4 => ?_) (fun c_4 => ?_)
        · refine lv_aload_n hx hb dX4_form_24 rfl (lv_at hl 0 rfl) ?_
          refine va_get (D := D) (ci := 4) (v := .ref m_forms) (C := RX4) (T := TX4) (N := 25) hx hb hts iw_X4_form_4 hown hK hP 0 rfl rfl 18 (by decide) (hts _ wd_X4_form_1) (fun _ h9 => h9) rfl dX4_form_25 ?_
          refine lv_iload_n hx hb dX4_form_28 rfl (lv_at hl 1 rfl) ?_
          refine va_iald hx hb hK hP 1 0 rfl rfl (pf_X4_form_5 s1 n c_1 c_2 c_3 c_4) dX4_form_29 ?_
          refine lv_topi (fun v_5 ev_5 => ?_)
          refine lv_istore_n (lv' := [(3, .int v_5), (0, .ref y0), (1, .int s1), (2, .int n)]) hx hb dX4_form_30 rfl hl (by decide) rfl (fun ls hl => ?_)
          refine lv_aload_n hx hb dX4_form_31 rfl (lv_at hl 1 rfl) ?_
          refine va_get (D := D) (ci := 4) (v := .ref m_forms) (C := RX4) (T := TX4) (N := 25) hx hb hts iw_X4_form_4 hown hK hP 0 rfl rfl 18 (by decide) (hts _ wd_X4_form_1) (fun _ h9 => h9) rfl dX4_form_32 ?_
          refine lv_iload_n hx hb dX4_form_35 rfl (lv_at hl 2 rfl) ?_
          refine lv_iload_n hx hb dX4_form_36 rfl (lv_at hl 3 rfl) ?_
          refine va_iast hx hb hK hP hD hS 1 0 rfl rfl (pf_X4_form_6 u_forms s1 n v_5 c_1 c_2 c_3 c_4 ev_5) dX4_form_37 (fun H locs hP hD hS => ?_)
          have hP : va_P D vwCl [(y0, .inr (4, [.int num, .int pts, .int nw, .int en, .int gl, .int bw, .int sp, .int be, .ref m_kind, .ref m_floor, .ref m_volume, .ref m_size, .ref m_faces, .ref m_when, .ref m_ahead, .ref m_order, .ref m_tried, .ref m_chosen, .ref m_forms, .ref m_warmth, .ref m_degrees, .ref m_thousandths, .ref m_longest, .long ab, .long bl])), (m_forms, .inl (cI, 3, .inl (upd u_forms s1.toNatClampNeg n)))] H := hP
          have hD : va_D A [(y0, .inr (4, [.int num, .int pts, .int nw, .int en, .int gl, .int bw, .int sp, .int be, .ref m_kind, .ref m_floor, .ref m_volume, .ref m_size, .ref m_faces, .ref m_when, .ref m_ahead, .ref m_order, .ref m_tried, .ref m_chosen, .ref m_forms, .ref m_warmth, .ref m_degrees, .ref m_thousandths, .ref m_longest, .long ab, .long bl])), (m_forms, .inl (cI, 3, .inl (upd u_forms s1.toNatClampNeg n)))] := hD
          refine lv_iload_n hx hb dX4_form_38 rfl (lv_at hl 0 rfl) ?_
          refine W.widen (k := 0) (n := 0) (Nat.le_of_ble_eq_true rfl) (Nat.le_of_ble_eq_true rfl) ?_
          exact fi_i (upd u_forms s1.toNatClampNeg n) hx hb hr hlocks hK (hP.sub [0, 1] rfl) (hD.sub [0, 1] (by decide) rfl) hS ⟨(pf_X4_form_7 u_forms s1 n v_5 c_1 c_2 c_3 c_4 ev_5), (pf_X4_form_8 u_forms s1 n v_5 c_1 c_2 c_3 c_4 ev_5)⟩ dX4_form_39
        · refine lv_bipush (v := (-2)) hx hb dX4_form_21 (by decide) ?_
          refine W.widen (k := 0) (n := 0) (Nat.le_of_ble_eq_true rfl) (Nat.le_of_ble_eq_true rfl) ?_
          exact fi_i u_forms hx hb hr hlocks hK (hP.sub [0, 1] rfl) (hD.sub [0, 1] (by decide) rfl) hS ⟨(pf_X4_form_9 u_forms s1 n c_1 c_2 c_3 c_4), (pf_X4_form_10 u_forms s1 n c_1 c_2 c_3 c_4)⟩ dX4_form_23
    · refine lv_iconst (v := (-1)) hx hb dX4_form_9 (by decide) ?_
      refine W.widen (k := 0) (n := 0) (Nat.le_of_ble_eq_true rfl) (Nat.le_of_ble_eq_true rfl) ?_
      exact fi_i u_forms hx hb hr hlocks hK (hP.sub [0, 1] rfl) (hD.sub [0, 1] (by decide) rfl) hS ⟨(pf_X4_form_11 u_forms s1 n c_1 c_2), (pf_X4_form_12 u_forms s1 n c_1 c_2)⟩ dX4_form_10

theorem iw_X4_level_4 : ∀ w ∈ wsX40, w ∈ wsX4_level := fun w h => (List.mem_cons_of_mem _ (List.mem_append_right _ h))
theorem wd_X4_level_1 : (.fieldLink RX4 15 "PourPlanModel" "strip" "I" : Cond) ∈ wsX4_level := List.mem_of_getElem? (i := 1) rfl
theorem wd_X4_level_2 : (.fieldLink RX4 18 "PourPlanModel" "bear" "I" : Cond) ∈ wsX4_level := List.mem_of_getElem? (i := 2) rfl
set_option maxHeartbeats 1000000 in
theorem pf_X4_level_1 (sp : Int32) (be : Int32) (w : Int32) (v : Int32) (c_1 : w < 0) : (-1 : Int32) = rLevel sp be w v := by
  grind [rLevel, sLev0, sLev1]
set_option maxHeartbeats 1000000 in
theorem pf_X4_level_2 (sp : Int32) (w : Int32) (v : Int32) (c_1 : w < 0) : sp = sLev0 sp w v := by
  grind [rLevel, sLev0, sLev1]
set_option maxHeartbeats 1000000 in
theorem pf_X4_level_3 (be : Int32) (w : Int32) (v : Int32) (c_1 : w < 0) : be = sLev1 be w v := by
  grind [rLevel, sLev0, sLev1]
set_option maxHeartbeats 1000000 in
theorem pf_X4_level_4 (sp : Int32) (be : Int32) (w : Int32) (v : Int32) (c_1 : ¬ w < 0) (c_2 : w ≤ 1) (c_3 : v < 0) : (-2 : Int32) = rLevel sp be w v := by
  grind [rLevel, sLev0, sLev1]
set_option maxHeartbeats 1000000 in
theorem pf_X4_level_5 (sp : Int32) (w : Int32) (v : Int32) (c_1 : ¬ w < 0) (c_2 : w ≤ 1) (c_3 : v < 0) : sp = sLev0 sp w v := by
  grind [rLevel, sLev0, sLev1]
set_option maxHeartbeats 1000000 in
theorem pf_X4_level_6 (be : Int32) (w : Int32) (v : Int32) (c_1 : ¬ w < 0) (c_2 : w ≤ 1) (c_3 : v < 0) : be = sLev1 be w v := by
  grind [rLevel, sLev0, sLev1]
set_option maxHeartbeats 1000000 in
theorem pf_X4_level_7 (sp : Int32) (be : Int32) (w : Int32) (v : Int32) (c_1 : ¬ w < 0) (c_2 : w ≤ 1) (c_3 : ¬ v < 0) (c_4 : v ≤ 1000) (c_5 : ¬ w = 0) (c_6 : ¬ w = 0) : be = rLevel sp be w v := by
  grind [rLevel, sLev0, sLev1]
set_option maxHeartbeats 1000000 in
theorem pf_X4_level_8 (sp : Int32) (w : Int32) (v : Int32) (c_1 : ¬ w < 0) (c_2 : w ≤ 1) (c_3 : ¬ v < 0) (c_4 : v ≤ 1000) (c_5 : ¬ w = 0) (c_6 : ¬ w = 0) : sp = sLev0 sp w v := by
  grind [rLevel, sLev0, sLev1]
set_option maxHeartbeats 1000000 in
theorem pf_X4_level_9 (be : Int32) (w : Int32) (v : Int32) (c_1 : ¬ w < 0) (c_2 : w ≤ 1) (c_3 : ¬ v < 0) (c_4 : v ≤ 1000) (c_5 : ¬ w = 0) (c_6 : ¬ w = 0) : v = sLev1 be w v := by
  grind [rLevel, sLev0, sLev1]
set_option maxHeartbeats 1000000 in
theorem pf_X4_level_10 (sp : Int32) (be : Int32) (w : Int32) (v : Int32) (c_1 : ¬ w < 0) (c_2 : w ≤ 1) (c_3 : ¬ v < 0) (c_4 : v ≤ 1000) (c_5 : ¬ w = 0) (c_6 : w = 0) : be = rLevel sp be w v := by
  grind [rLevel, sLev0, sLev1]
set_option maxHeartbeats 1000000 in
theorem pf_X4_level_11 (sp : Int32) (w : Int32) (v : Int32) (c_1 : ¬ w < 0) (c_2 : w ≤ 1) (c_3 : ¬ v < 0) (c_4 : v ≤ 1000) (c_5 : ¬ w = 0) (c_6 : w = 0) : v = sLev0 sp w v := by
  grind [rLevel, sLev0, sLev1]
set_option maxHeartbeats 1000000 in
theorem pf_X4_level_12 (be : Int32) (w : Int32) (v : Int32) (c_1 : ¬ w < 0) (c_2 : w ≤ 1) (c_3 : ¬ v < 0) (c_4 : v ≤ 1000) (c_5 : ¬ w = 0) (c_6 : w = 0) : be = sLev1 be w v := by
  grind [rLevel, sLev0, sLev1]
set_option maxHeartbeats 1000000 in
theorem pf_X4_level_13 (sp : Int32) (be : Int32) (w : Int32) (v : Int32) (c_1 : ¬ w < 0) (c_2 : w ≤ 1) (c_3 : ¬ v < 0) (c_4 : v ≤ 1000) (c_5 : w = 0) (c_7 : ¬ w = 0) : sp = rLevel sp be w v := by
  grind [rLevel, sLev0, sLev1]
set_option maxHeartbeats 1000000 in
theorem pf_X4_level_14 (sp : Int32) (w : Int32) (v : Int32) (c_1 : ¬ w < 0) (c_2 : w ≤ 1) (c_3 : ¬ v < 0) (c_4 : v ≤ 1000) (c_5 : w = 0) (c_7 : ¬ w = 0) : sp = sLev0 sp w v := by
  grind [rLevel, sLev0, sLev1]
set_option maxHeartbeats 1000000 in
theorem pf_X4_level_15 (be : Int32) (w : Int32) (v : Int32) (c_1 : ¬ w < 0) (c_2 : w ≤ 1) (c_3 : ¬ v < 0) (c_4 : v ≤ 1000) (c_5 : w = 0) (c_7 : ¬ w = 0) : v = sLev1 be w v := by
  grind [rLevel, sLev0, sLev1]
set_option maxHeartbeats 1000000 in
theorem pf_X4_level_16 (sp : Int32) (be : Int32) (w : Int32) (v : Int32) (c_1 : ¬ w < 0) (c_2 : w ≤ 1) (c_3 : ¬ v < 0) (c_4 : v ≤ 1000) (c_5 : w = 0) (c_7 : w = 0) : sp = rLevel sp be w v := by
  grind [rLevel, sLev0, sLev1]
set_option maxHeartbeats 1000000 in
theorem pf_X4_level_17 (sp : Int32) (w : Int32) (v : Int32) (c_1 : ¬ w < 0) (c_2 : w ≤ 1) (c_3 : ¬ v < 0) (c_4 : v ≤ 1000) (c_5 : w = 0) (c_7 : w = 0) : v = sLev0 sp w v := by
  grind [rLevel, sLev0, sLev1]
set_option maxHeartbeats 1000000 in
theorem pf_X4_level_18 (be : Int32) (w : Int32) (v : Int32) (c_1 : ¬ w < 0) (c_2 : w ≤ 1) (c_3 : ¬ v < 0) (c_4 : v ≤ 1000) (c_5 : w = 0) (c_7 : w = 0) : be = sLev1 be w v := by
  grind [rLevel, sLev0, sLev1]
set_option maxHeartbeats 1000000 in
theorem pf_X4_level_19 (sp : Int32) (be : Int32) (w : Int32) (v : Int32) (c_1 : ¬ w < 0) (c_2 : w ≤ 1) (c_3 : ¬ v < 0) (c_4 : ¬ v ≤ 1000) : (-2 : Int32) = rLevel sp be w v := by
  grind [rLevel, sLev0, sLev1]
set_option maxHeartbeats 1000000 in
theorem pf_X4_level_20 (sp : Int32) (w : Int32) (v : Int32) (c_1 : ¬ w < 0) (c_2 : w ≤ 1) (c_3 : ¬ v < 0) (c_4 : ¬ v ≤ 1000) : sp = sLev0 sp w v := by
  grind [rLevel, sLev0, sLev1]
set_option maxHeartbeats 1000000 in
theorem pf_X4_level_21 (be : Int32) (w : Int32) (v : Int32) (c_1 : ¬ w < 0) (c_2 : w ≤ 1) (c_3 : ¬ v < 0) (c_4 : ¬ v ≤ 1000) : be = sLev1 be w v := by
  grind [rLevel, sLev0, sLev1]
set_option maxHeartbeats 1000000 in
theorem pf_X4_level_22 (sp : Int32) (be : Int32) (w : Int32) (v : Int32) (c_1 : ¬ w < 0) (c_2 : ¬ w ≤ 1) : (-1 : Int32) = rLevel sp be w v := by
  grind [rLevel, sLev0, sLev1]
set_option maxHeartbeats 1000000 in
theorem pf_X4_level_23 (sp : Int32) (w : Int32) (v : Int32) (c_1 : ¬ w < 0) (c_2 : ¬ w ≤ 1) : sp = sLev0 sp w v := by
  grind [rLevel, sLev0, sLev1]
set_option maxHeartbeats 1000000 in
theorem pf_X4_level_24 (be : Int32) (w : Int32) (v : Int32) (c_1 : ¬ w < 0) (c_2 : ¬ w ≤ 1) : be = sLev1 be w v := by
  grind [rLevel, sLev0, sLev1]
set_option maxHeartbeats 4000000 in
set_option maxRecDepth 100000 in
theorem c_X4_level (l : Launch) (D : va_G) (cI cQ : ClassId) (sz : Nat) (y0 : Nat) (m_kind : Nat) (m_floor : Nat) (m_volume : Nat) (m_size : Nat) (m_faces : Nat) (m_when : Nat) (m_ahead : Nat) (m_order : Nat) (m_tried : Nat) (m_chosen : Nat) (m_forms : Nat) (m_warmth : Nat) (m_degrees : Nat) (m_thousandths : Nat) (m_longest : Nat) (num : Int32) (pts : Int32) (nw : Int32) (en : Int32) (gl : Int32) (bw : Int32) (sp : Int32) (be : Int32) (ab : Int64) (bl : Int64) (w : Int32) (v : Int32) : CtI l yX4_level wsX4_level 0 0 0 0 [.ref y0, .int w, .int v] D [(cI, .int), (cQ, .array .int)] [(y0, .inr (4, [.int num, .int pts, .int nw, .int en, .int gl, .int bw, .int sp, .int be, .ref m_kind, .ref m_floor, .ref m_volume, .ref m_size, .ref m_faces, .ref m_when, .ref m_ahead, .ref m_order, .ref m_tried, .ref m_chosen, .ref m_forms, .ref m_warmth, .ref m_degrees, .ref m_thousandths, .ref m_longest, .long ab, .long bl]))] sz (fun (r : Int32) (u : Int32 × Int32) => r = rLevel sp be w v ∧ u.1 = sLev0 sp w v ∧ u.2 = sLev1 be w v) (fun (u : Int32 × Int32) => [(y0, .inr (4, [.int num, .int pts, .int nw, .int en, .int gl, .int bw, .int u.1, .int u.2, .ref m_kind, .ref m_floor, .ref m_volume, .ref m_size, .ref m_faces, .ref m_when, .ref m_ahead, .ref m_order, .ref m_tried, .ref m_chosen, .ref m_forms, .ref m_warmth, .ref m_degrees, .ref m_thousandths, .ref m_longest, .long ab, .long bl]))]) := by
  refine Met.ofW (cc := cX4_level) (maxL := 4) (ret := (some .int)) (by decide) rfl ?_
  intro p e s m args below meth c s₁ B hml hv
  obtain ⟨rfl, hsz, hP, hK, hD0, hN⟩ := hv
  have hx := B.exec
  have hb := B.bytes
  have hr := B.returns
  have hts := atoms_spec (ws := wsX4_level) B.pre
  have hown : s.vm.findClass RX4 = some m.cls := findClass_of_methodNamed B.named
  have hlocks := B.notSynchronized
  subst hsz
  have hD := hD0.self (sz := s.heap.size)
  generalize hAe : va_A [(y0, .inr (4, [.int num, .int pts, .int nw, .int en, .int gl, .int bw, .int sp, .int be, .ref m_kind, .ref m_floor, .ref m_volume, .ref m_size, .ref m_faces, .ref m_when, .ref m_ahead, .ref m_order, .ref m_tried, .ref m_chosen, .ref m_forms, .ref m_warmth, .ref m_degrees, .ref m_thousandths, .ref m_longest, .long ab, .long bl]))] s.heap.size = A at hD ⊢
  have hA : ∀ q : Nat, s.heap.size ≤ q → A q := fun q h => by rw [← hAe]; exact Or.inr h
  have hS : va_S A s.heap s.heap [] := va_S.rf
  have hl := lv_entry ([.ref y0, .int w, .int v]) (n := 4) (Nat.le_of_ble_eq_true rfl)
  rw [lg_entry_eq]
  generalize (lg_sl ([.ref y0, .int w, .int v]) ++ List.replicate (4 - (lg_sl ([.ref y0, .int w, .int v])).length) Slot.unset).toArray = ls at hl ⊢
  have hl : lv_has ls 4 [(0, .ref y0), (1, .int w), (2, .int v)] := hl
  have hP0 := hP
  refine lv_iload_n hx hb dX4_level_0 rfl (lv_at hl 1 rfl) ?_
  refine lv_if_lt (tgt := 9) hx hb dX4_level_1 (by decide) (fun c_1 => ?_) (fun c_1 => ?_)
  · refine lv_iconst (v := (-1)) hx hb dX4_level_9 (by decide) ?_
    refine W.widen (k := 0) (n := 0) (Nat.le_of_ble_eq_true rfl) (Nat.le_of_ble_eq_true rfl) ?_
    exact fi_i (sp, be) hx hb hr hlocks hK (hP.sub [0] rfl) (hD.sub [0] (by decide) rfl) hS ⟨(pf_X4_level_1 sp be w v c_1), (pf_X4_level_2 sp w v c_1), (pf_X4_level_3 be w v c_1)⟩ dX4_level_10
  · refine lv_iload_n hx hb dX4_level_4 rfl (lv_at hl 1 rfl) ?_
    refine lv_iconst (v := 1) hx hb dX4_level_5 (by decide) ?_
    refine lv_icmp_le (tgt := 11) hx hb dX4_level_6 (by decide) (fun c_2 => ?_) (fun c_2 => ?_)
    · refine lv_iload_n hx hb dX4_level_11 rfl (lv_at hl 2 rfl) ?_
      refine lv_if_lt (tgt := 22) hx hb dX4_level_12 (by decide) (fun c_3 => ?_) (fun c_3 => ?_)
      · refine lv_bipush (v := (-2)) hx hb dX4_level_22 (by decide) ?_
        refine W.widen (k := 0) (n := 0) (Nat.le_of_ble_eq_true rfl) (Nat.le_of_ble_eq_true rfl) ?_
        exact fi_i (sp, be) hx hb hr hlocks hK (hP.sub [0] rfl) (hD.sub [0] (by decide) rfl) hS ⟨(pf_X4_level_4 sp be w v c_1 c_2 c_3), (pf_X4_level_5 sp w v c_1 c_2 c_3), (pf_X4_level_6 be w v c_1 c_2 c_3)⟩ dX4_level_24
      · refine lv_iload_n hx hb dX4_level_15 rfl (lv_at hl 2 rfl) ?_
        refine lv_sipush (v := 1000) hx hb dX4_level_16 (by decide) ?_
        refine lv_icmp_le (tgt := 25) hx hb dX4_level_19 (by decide) (fun c_4 => ?_) (fun c_4 => ?_)
        · refine lv_iload_n hx hb dX4_level_25 rfl (lv_at hl 1 rfl) ?_
          refine lv_if_ne (tgt := 36) hx hb dX4_level_26 (by decide) (fun c_5 => ?_) (fun c_5 => ?_)
          · refine lv_aload_n hx hb dX4_level_36 rfl (lv_at hl 0 rfl) ?_
            refine va_get (D := D) (ci := 4) (v := .int be) (C := RX4) (T := TX4) (N := 25) hx hb hts iw_X4_level_4 hown hK hP 0 rfl rfl 7 (by decide) (hts _ wd_X4_level_2) (fun _ h9 => h9) rfl dX4_level_37 ?_
            refine lv_istore_n (lv' := [(3, .int be), (0, .ref y0), (1, .int w), (2, .int v)]) hx hb dX4_level_40 rfl hl (by decide) rfl (fun ls hl => ?_)
            refine lv_iload_n hx hb dX4_level_41 rfl (lv_at hl 2 rfl) ?_
            refine lv_if_ne (tgt := 53) hx hb dX4_level_42 (by decide) (fun c_6 => ?_) (fun c_6 => ?_)
            · refine lv_aload_n hx hb dX4_level_53 rfl (lv_at hl 1 rfl) ?_
              refine lv_iload_n hx hb dX4_level_54 rfl (lv_at hl 3 rfl) ?_
              refine va_put (D := D) (ci := 4) (v := .int v) (ty := .int) (C := RX4) (T := TX4) (N := 25) hx hb hts iw_X4_level_4 tyX4 tyX4_ok nmX4 hown hK hP hD hS 0 rfl rfl 7 (by decide) (hts _ wd_X4_level_2) (fun _ h9 => h9) rfl (by decide +kernel) rfl rfl (Nat.le_of_ble_eq_true rfl) dX4_level_55 (fun H locs hP hD hS => ?_)
              have hP : va_P D vwCl [(y0, .inr (4, [.int num, .int pts, .int nw, .int en, .int gl, .int bw, .int sp, .int v, .ref m_kind, .ref m_floor, .ref m_volume, .ref m_size, .ref m_faces, .ref m_when, .ref m_ahead, .ref m_order, .ref m_tried, .ref m_chosen, .ref m_forms, .ref m_warmth, .ref m_degrees, .ref m_thousandths, .ref m_longest, .long ab, .long bl]))] H := hP
              have hD : va_D A [(y0, .inr (4, [.int num, .int pts, .int nw, .int en, .int gl, .int bw, .int sp, .int v, .ref m_kind, .ref m_floor, .ref m_volume, .ref m_size, .ref m_faces, .ref m_when, .ref m_ahead, .ref m_order, .ref m_tried, .ref m_chosen, .ref m_forms, .ref m_warmth, .ref m_degrees, .ref m_thousandths, .ref m_longest, .long ab, .long bl]))] := hD
              refine lv_iload_n hx hb dX4_level_58 rfl (lv_at hl 0 rfl) ?_
              refine W.widen (k := 0) (n := 0) (Nat.le_of_ble_eq_true rfl) (Nat.le_of_ble_eq_true rfl) ?_
              exact fi_i (sp, v) hx hb hr hlocks hK (hP.sub [0] rfl) (hD.sub [0] (by decide) rfl) hS ⟨(pf_X4_level_7 sp be w v c_1 c_2 c_3 c_4 c_5 c_6), (pf_X4_level_8 sp w v c_1 c_2 c_3 c_4 c_5 c_6), (pf_X4_level_9 be w v c_1 c_2 c_3 c_4 c_5 c_6)⟩ dX4_level_59
            · refine lv_aload_n hx hb dX4_level_45 rfl (lv_at hl 1 rfl) ?_
              refine lv_iload_n hx hb dX4_level_46 rfl (lv_at hl 3 rfl) ?_
              refine va_put (D := D) (ci := 4) (v := .int v) (ty := .int) (C := RX4) (T := TX4) (N := 25) hx hb hts iw_X4_level_4 tyX4 tyX4_ok nmX4 hown hK hP hD hS 0 rfl rfl 6 (by decide) (hts _ wd_X4_level_1) (fun _ h9 => h9) rfl (by decide +kernel) rfl rfl (Nat.le_of_ble_eq_true rfl) dX4_level_47 (fun H locs hP hD hS => ?_)
              have hP : va_P D vwCl [(y0, .inr (4, [.int num, .int pts, .int nw, .int en, .int gl, .int bw, .int v, .int be, .ref m_kind, .ref m_floor, .ref m_volume, .ref m_size, .ref m_faces, .ref m_when, .ref m_ahead, .ref m_order, .ref m_tried, .ref m_chosen, .ref m_forms, .ref m_warmth, .ref m_degrees, .ref m_thousandths, .ref m_longest, .long ab, .long bl]))] H := hP
              have hD : va_D A [(y0, .inr (4, [.int num, .int pts, .int nw, .int en, .int gl, .int bw, .int v, .int be, .ref m_kind, .ref m_floor, .ref m_volume, .ref m_size, .ref m_faces, .ref m_when, .ref m_ahead, .ref m_order, .ref m_tried, .ref m_chosen, .ref m_forms, .ref m_warmth, .ref m_degrees, .ref m_thousandths, .ref m_longest, .long ab, .long bl]))] := hD
              refine lv_goto (tgt := 58) hx hb dX4_level_50 (by decide) ?_
              refine lv_iload_n hx hb dX4_level_58 rfl (lv_at hl 0 rfl) ?_
              refine W.widen (k := 0) (n := 0) (Nat.le_of_ble_eq_true rfl) (Nat.le_of_ble_eq_true rfl) ?_
              exact fi_i (v, be) hx hb hr hlocks hK (hP.sub [0] rfl) (hD.sub [0] (by decide) rfl) hS ⟨(pf_X4_level_10 sp be w v c_1 c_2 c_3 c_4 c_5 c_6), (pf_X4_level_11 sp w v c_1 c_2 c_3 c_4 c_5 c_6), (pf_X4_level_12 be w v c_1 c_2 c_3 c_4 c_5 c_6)⟩ dX4_level_59
          · refine lv_aload_n hx hb dX4_level_29 rfl (lv_at hl 0 rfl) ?_
            refine va_get (D := D) (ci := 4) (v := .int sp) (C := RX4) (T := TX4) (N := 25) hx hb hts iw_X4_level_4 hown hK hP 0 rfl rfl 6 (by decide) (hts _ wd_X4_level_1) (fun _ h9 => h9) rfl dX4_level_30 ?_
            refine lv_goto (tgt := 40) hx hb dX4_level_33 (by decide) ?_
            refine lv_istore_n (lv' := [(3, .int sp), (0, .ref y0), (1, .int w), (2, .int v)]) hx hb dX4_level_40 rfl hl (by decide) rfl (fun ls hl => ?_)
            refine lv_iload_n hx hb dX4_level_41 rfl (lv_at hl 2 rfl) ?_
            refine lv_if_ne (tgt := 53) hx hb dX4_level_42 (by decide) (fun c_7 => ?_) (fun c_7 => ?_)
            · refine lv_aload_n hx hb dX4_level_53 rfl (lv_at hl 1 rfl) ?_
              refine lv_iload_n hx hb dX4_level_54 rfl (lv_at hl 3 rfl) ?_
              refine va_put (D := D) (ci := 4) (v := .int v) (ty := .int) (C := RX4) (T := TX4) (N := 25) hx hb hts iw_X4_level_4 tyX4 tyX4_ok nmX4 hown hK hP hD hS 0 rfl rfl 7 (by decide) (hts _ wd_X4_level_2) (fun _ h9 => h9) rfl (by decide +kernel) rfl rfl (Nat.le_of_ble_eq_true rfl) dX4_level_55 (fun H locs hP hD hS => ?_)
              have hP : va_P D vwCl [(y0, .inr (4, [.int num, .int pts, .int nw, .int en, .int gl, .int bw, .int sp, .int v, .ref m_kind, .ref m_floor, .ref m_volume, .ref m_size, .ref m_faces, .ref m_when, .ref m_ahead, .ref m_order, .ref m_tried, .ref m_chosen, .ref m_forms, .ref m_warmth, .ref m_degrees, .ref m_thousandths, .ref m_longest, .long ab, .long bl]))] H := hP
              have hD : va_D A [(y0, .inr (4, [.int num, .int pts, .int nw, .int en, .int gl, .int bw, .int sp, .int v, .ref m_kind, .ref m_floor, .ref m_volume, .ref m_size, .ref m_faces, .ref m_when, .ref m_ahead, .ref m_order, .ref m_tried, .ref m_chosen, .ref m_forms, .ref m_warmth, .ref m_degrees, .ref m_thousandths, .ref m_longest, .long ab, .long bl]))] := hD
              refine lv_iload_n hx hb dX4_level_58 rfl (lv_at hl 0 rfl) ?_
              refine W.widen (k := 0) (n := 0) (Nat.le_of_ble_eq_true rfl) (Nat.le_of_ble_eq_true rfl) ?_
              exact fi_i (sp, v) hx hb hr hlocks hK (hP.sub [0] rfl) (hD.sub [0] (by decide) rfl) hS ⟨(pf_X4_level_13 sp be w v c_1 c_2 c_3 c_4 c_5 c_7), (pf_X4_level_14 sp w v c_1 c_2 c_3 c_4 c_5 c_7), (pf_X4_level_15 be w v c_1 c_2 c_3 c_4 c_5 c_7)⟩ dX4_level_59
            · refine lv_aload_n hx hb dX4_level_45 rfl (lv_at hl 1 rfl) ?_
              refine lv_iload_n hx hb dX4_level_46 rfl (lv_at hl 3 rfl) ?_
              refine va_put (D := D) (ci := 4) (v := .int v) (ty := .int) (C := RX4) (T := TX4) (N := 25) hx hb hts iw_X4_level_4 tyX4 tyX4_ok nmX4 hown hK hP hD hS 0 rfl rfl 6 (by decide) (hts _ wd_X4_level_1) (fun _ h9 => h9) rfl (by decide +kernel) rfl rfl (Nat.le_of_ble_eq_true rfl) dX4_level_47 (fun H locs hP hD hS => ?_)
              have hP : va_P D vwCl [(y0, .inr (4, [.int num, .int pts, .int nw, .int en, .int gl, .int bw, .int v, .int be, .ref m_kind, .ref m_floor, .ref m_volume, .ref m_size, .ref m_faces, .ref m_when, .ref m_ahead, .ref m_order, .ref m_tried, .ref m_chosen, .ref m_forms, .ref m_warmth, .ref m_degrees, .ref m_thousandths, .ref m_longest, .long ab, .long bl]))] H := hP
              have hD : va_D A [(y0, .inr (4, [.int num, .int pts, .int nw, .int en, .int gl, .int bw, .int v, .int be, .ref m_kind, .ref m_floor, .ref m_volume, .ref m_size, .ref m_faces, .ref m_when, .ref m_ahead, .ref m_order, .ref m_tried, .ref m_chosen, .ref m_forms, .ref m_warmth, .ref m_degrees, .ref m_thousandths, .ref m_longest, .long ab, .long bl]))] := hD
              refine lv_goto (tgt := 58) hx hb dX4_level_50 (by decide) ?_
              refine lv_iload_n hx hb dX4_level_58 rfl (lv_at hl 0 rfl) ?_
              refine W.widen (k := 0) (n := 0) (Nat.le_of_ble_eq_true rfl) (Nat.le_of_ble_eq_true rfl) ?_
              exact fi_i (v, be) hx hb hr hlocks hK (hP.sub [0] rfl) (hD.sub [0] (by decide) rfl) hS ⟨(pf_X4_level_16 sp be w v c_1 c_2 c_3 c_4 c_5 c_7), (pf_X4_level_17 sp w v c_1 c_2 c_3 c_4 c_5 c_7), (pf_X4_level_18 be w v c_1 c_2 c_3 c_4 c_5 c_7)⟩ dX4_level_59
        · refine lv_bipush (v := (-2)) hx hb dX4_level_22 (by decide) ?_
          refine W.widen (k := 0) (n := 0) (Nat.le_of_ble_eq_true rfl) (Nat.le_of_ble_eq_true rfl) ?_
          exact fi_i (sp, be) hx hb hr hlocks hK (hP.sub [0] rfl) (hD.sub [0] (by decide) rfl) hS ⟨(pf_X4_level_19 sp be w v c_1 c_2 c_3 c_4), (pf_X4_level_20 sp w v c_1 c_2 c_3 c_4), (pf_X4_level_21 be w v c_1 c_2 c_3 c_4)⟩ dX4_level_24
    · refine lv_iconst (v := (-1)) hx hb dX4_level_9 (by decide) ?_
      refine W.widen (k := 0) (n := 0) (Nat.le_of_ble_eq_true rfl) (Nat.le_of_ble_eq_true rfl) ?_
      exact fi_i (sp, be) hx hb hr hlocks hK (hP.sub [0] rfl) (hD.sub [0] (by decide) rfl) hS ⟨(pf_X4_level_22 sp be w v c_1 c_2), (pf_X4_level_23 sp w v c_1 c_2), (pf_X4_level_24 be w v c_1 c_2)⟩ dX4_level_10

theorem iw_X4_warm_4 : ∀ w ∈ wsX40, w ∈ wsX4_warm := fun w h => (List.mem_cons_of_mem _ (List.mem_append_right _ h))
theorem wd_X4_warm_1 : (.constant RX4 83 (-2147483648) : Cond) ∈ wsX4_warm := List.mem_of_getElem? (i := 1) rfl
theorem wd_X4_warm_2 : (.constant RX4 84 (-2147483647) : Cond) ∈ wsX4_warm := List.mem_of_getElem? (i := 2) rfl
theorem wd_X4_warm_3 : (.fieldLink RX4 55 "PourPlanModel" "warmth" "[I" : Cond) ∈ wsX4_warm := List.mem_of_getElem? (i := 3) rfl
set_option maxHeartbeats 1000000 in
theorem pf_X4_warm_1 (u_warmth : Nat → Int32) (d : Int32) (w : Int32) (r_1 : Int32) (w_2 : r_1 = bDay d) (c_4 : ¬ r_1 = 0) (c_5 : w < (-30)) : (-2147483647 : Int32) = rWarm u_warmth d w := by
  grind [rWarm, sWarm, bDay]
set_option maxHeartbeats 1000000 in
theorem pf_X4_warm_2 (u_warmth : Nat → Int32) (d : Int32) (w : Int32) (r_1 : Int32) (w_2 : r_1 = bDay d) (c_4 : ¬ r_1 = 0) (c_5 : w < (-30)) : u_warmth = sWarm u_warmth d w := by
  grind [rWarm, sWarm, bDay]
set_option maxHeartbeats 1000000 in
theorem pf_X4_warm_3 (d : Int32) (w : Int32) (r_1 : Int32) (w_2 : r_1 = bDay d) (c_4 : ¬ r_1 = 0) (c_5 : ¬ w < (-30)) (c_6 : w ≤ 50) : vp_in d 40 := by
  exact vi_in (M := 40) rfl (by grind [rWarm, sWarm, bDay]) (by grind [rWarm, sWarm, bDay])
set_option maxHeartbeats 1000000 in
theorem pf_X4_warm_4 (u_warmth : Nat → Int32) (d : Int32) (w : Int32) (r_1 : Int32) (v_7 : Int32) (w_2 : r_1 = bDay d) (c_4 : ¬ r_1 = 0) (c_5 : ¬ w < (-30)) (c_6 : w ≤ 50) (ev_7 : v_7 = u_warmth d.toNatClampNeg) : vp_in d 40 := by
  exact vi_in (M := 40) rfl (by grind [rWarm, sWarm, bDay]) (by grind [rWarm, sWarm, bDay])
set_option maxHeartbeats 1000000 in
theorem pf_X4_warm_5 (u_warmth : Nat → Int32) (d : Int32) (w : Int32) (r_1 : Int32) (v_7 : Int32) (w_2 : r_1 = bDay d) (c_4 : ¬ r_1 = 0) (c_5 : ¬ w < (-30)) (c_6 : w ≤ 50) (ev_7 : v_7 = u_warmth d.toNatClampNeg) : v_7 = rWarm u_warmth d w := by
  grind [rWarm, sWarm, bDay]
set_option maxHeartbeats 1000000 in
theorem pf_X4_warm_6 (u_warmth : Nat → Int32) (d : Int32) (w : Int32) (r_1 : Int32) (v_7 : Int32) (w_2 : r_1 = bDay d) (c_4 : ¬ r_1 = 0) (c_5 : ¬ w < (-30)) (c_6 : w ≤ 50) (ev_7 : v_7 = u_warmth d.toNatClampNeg) : (upd u_warmth d.toNatClampNeg w) = sWarm u_warmth d w := by
  grind [rWarm, sWarm, bDay]
set_option maxHeartbeats 1000000 in
theorem pf_X4_warm_7 (u_warmth : Nat → Int32) (d : Int32) (w : Int32) (r_1 : Int32) (w_2 : r_1 = bDay d) (c_4 : ¬ r_1 = 0) (c_5 : ¬ w < (-30)) (c_6 : ¬ w ≤ 50) : (-2147483647 : Int32) = rWarm u_warmth d w := by
  grind [rWarm, sWarm, bDay]
set_option maxHeartbeats 1000000 in
theorem pf_X4_warm_8 (u_warmth : Nat → Int32) (d : Int32) (w : Int32) (r_1 : Int32) (w_2 : r_1 = bDay d) (c_4 : ¬ r_1 = 0) (c_5 : ¬ w < (-30)) (c_6 : ¬ w ≤ 50) : u_warmth = sWarm u_warmth d w := by
  grind [rWarm, sWarm, bDay]
set_option maxHeartbeats 1000000 in
theorem pf_X4_warm_9 (u_warmth : Nat → Int32) (d : Int32) (w : Int32) (r_1 : Int32) (w_2 : r_1 = bDay d) (c_4 : r_1 = 0) : (-2147483648 : Int32) = rWarm u_warmth d w := by
  grind [rWarm, sWarm, bDay]
set_option maxHeartbeats 1000000 in
theorem pf_X4_warm_10 (u_warmth : Nat → Int32) (d : Int32) (w : Int32) (r_1 : Int32) (w_2 : r_1 = bDay d) (c_4 : r_1 = 0) : u_warmth = sWarm u_warmth d w := by
  grind [rWarm, sWarm, bDay]
set_option maxHeartbeats 4000000 in
set_option maxRecDepth 100000 in
theorem c_X4_warm (l : Launch) (D : va_G) (cI cQ : ClassId) (sz : Nat) (y0 : Nat) (m_warmth : Nat) (m_kind : Nat) (m_floor : Nat) (m_volume : Nat) (m_size : Nat) (m_faces : Nat) (m_when : Nat) (m_ahead : Nat) (m_order : Nat) (m_tried : Nat) (m_chosen : Nat) (m_forms : Nat) (m_degrees : Nat) (m_thousandths : Nat) (m_longest : Nat) (num : Int32) (pts : Int32) (nw : Int32) (en : Int32) (gl : Int32) (bw : Int32) (sp : Int32) (be : Int32) (ab : Int64) (bl : Int64) (u_warmth : Nat → Int32) (d : Int32) (w : Int32) : CtI l yX4_warm wsX4_warm 1 20 0 0 [.ref y0, .int d, .int w] D [(cI, .int), (cQ, .array .int)] [(y0, .inr (4, [.int num, .int pts, .int nw, .int en, .int gl, .int bw, .int sp, .int be, .ref m_kind, .ref m_floor, .ref m_volume, .ref m_size, .ref m_faces, .ref m_when, .ref m_ahead, .ref m_order, .ref m_tried, .ref m_chosen, .ref m_forms, .ref m_warmth, .ref m_degrees, .ref m_thousandths, .ref m_longest, .long ab, .long bl])), (m_warmth, .inl (cI, 40, .inl u_warmth))] sz (fun (r : Int32) (u : (Nat → Int32)) => r = rWarm u_warmth d w ∧ u = sWarm u_warmth d w) (fun (u : (Nat → Int32)) => [(y0, .inr (4, [.int num, .int pts, .int nw, .int en, .int gl, .int bw, .int sp, .int be, .ref m_kind, .ref m_floor, .ref m_volume, .ref m_size, .ref m_faces, .ref m_when, .ref m_ahead, .ref m_order, .ref m_tried, .ref m_chosen, .ref m_forms, .ref m_warmth, .ref m_degrees, .ref m_thousandths, .ref m_longest, .long ab, .long bl])), (m_warmth, .inl (cI, 40, .inl u))]) := by
  refine Met.ofW (cc := cX4_warm) (maxL := 4) (ret := (some .int)) (by decide) rfl ?_
  intro p e s m args below meth c s₁ B hml hv
  obtain ⟨rfl, hsz, hP, hK, hD0, hN⟩ := hv
  have hx := B.exec
  have hb := B.bytes
  have hr := B.returns
  have hts := atoms_spec (ws := wsX4_warm) B.pre
  have hown : s.vm.findClass RX4 = some m.cls := findClass_of_methodNamed B.named
  have hlocks := B.notSynchronized
  subst hsz
  have hD := hD0.self (sz := s.heap.size)
  generalize hAe : va_A [(y0, .inr (4, [.int num, .int pts, .int nw, .int en, .int gl, .int bw, .int sp, .int be, .ref m_kind, .ref m_floor, .ref m_volume, .ref m_size, .ref m_faces, .ref m_when, .ref m_ahead, .ref m_order, .ref m_tried, .ref m_chosen, .ref m_forms, .ref m_warmth, .ref m_degrees, .ref m_thousandths, .ref m_longest, .long ab, .long bl])), (m_warmth, .inl (cI, 40, .inl u_warmth))] s.heap.size = A at hD ⊢
  have hA : ∀ q : Nat, s.heap.size ≤ q → A q := fun q h => by rw [← hAe]; exact Or.inr h
  have hS : va_S A s.heap s.heap [] := va_S.rf
  have hl := lv_entry ([.ref y0, .int d, .int w]) (n := 4) (Nat.le_of_ble_eq_true rfl)
  rw [lg_entry_eq]
  generalize (lg_sl ([.ref y0, .int d, .int w]) ++ List.replicate (4 - (lg_sl ([.ref y0, .int d, .int w])).length) Slot.unset).toArray = ls at hl ⊢
  have hl : lv_has ls 4 [(0, .ref y0), (1, .int d), (2, .int w)] := hl
  have hP0 := hP
  refine lv_iload_n hx hb dX4_warm_0 rfl (lv_at hl 1 rfl) ?_
  refine cc_i (wc := []) (wr := [(y0, .inr (4, [.int num, .int pts, .int nw, .int en, .int gl, .int bw, .int sp, .int be, .ref m_kind, .ref m_floor, .ref m_volume, .ref m_size, .ref m_faces, .ref m_when, .ref m_ahead, .ref m_order, .ref m_tried, .ref m_chosen, .ref m_forms, .ref m_warmth, .ref m_degrees, .ref m_thousandths, .ref m_longest, .long ab, .long bl])), (m_warmth, .inl (cI, 40, .inl u_warmth))]) (va_runS (As := [.int d]) (rest := []) ⟨hx, hb, hml, hown, hts⟩ (c_X4_isDay l D cI cQ s.heap.size d ) (va_cwS 1 hts gX4_warm_X4_isDay rfl rfl rfl (by decide +kernel) ⟨Nat.le_of_ble_eq_true rfl, Nat.le_of_ble_eq_true rfl⟩) (preS (wc := []) hK hP hD hN [] rfl (by decide)) rfl rfl hl.1 rfl (lv_room (Nat.le_of_ble_eq_true rfl)) dX4_warm_1 ⟨Nat.le_of_ble_eq_true rfl, Nat.le_of_ble_eq_true rfl⟩) hP hD hS hA [] [0, 1] rfl rfl (by decide) (by decide) (fun r_1 u H locs w_2 hP hD hS => ?_)
  have hP : va_P D vwCl [(y0, .inr (4, [.int num, .int pts, .int nw, .int en, .int gl, .int bw, .int sp, .int be, .ref m_kind, .ref m_floor, .ref m_volume, .ref m_size, .ref m_faces, .ref m_when, .ref m_ahead, .ref m_order, .ref m_tried, .ref m_chosen, .ref m_forms, .ref m_warmth, .ref m_degrees, .ref m_thousandths, .ref m_longest, .long ab, .long bl])), (m_warmth, .inl (cI, 40, .inl u_warmth))] H := hP
  have hD : va_D A [(y0, .inr (4, [.int num, .int pts, .int nw, .int en, .int gl, .int bw, .int sp, .int be, .ref m_kind, .ref m_floor, .ref m_volume, .ref m_size, .ref m_faces, .ref m_when, .ref m_ahead, .ref m_order, .ref m_tried, .ref m_chosen, .ref m_forms, .ref m_warmth, .ref m_degrees, .ref m_thousandths, .ref m_longest, .long ab, .long bl])), (m_warmth, .inl (cI, 40, .inl u_warmth))] := hD
  have w_2 : r_1 = bDay d := w_2
  refine lv_if_ne (tgt := 10) hx hb dX4_warm_4 (by decide) (fun c_4 => ?_) (fun c_4 => ?_)
  · refine lv_iload_n hx hb dX4_warm_10 rfl (lv_at hl 2 rfl) ?_
    refine lv_bipush (v := (-30)) hx hb dX4_warm_11 (by decide) ?_
    refine lv_icmp_lt (tgt := 22) hx hb dX4_warm_13 (by decide) (fun c_5 => ?_) (fun c_5 => ?_)
    · refine lv_ldc hx hb hown (hts _ wd_X4_warm_2) dX4_warm_22 ?_
      refine W.widen (k := 0) (n := 0) (Nat.le_of_ble_eq_true rfl) (Nat.le_of_ble_eq_true rfl) ?_
      exact fi_i u_warmth hx hb hr hlocks hK (hP.sub [0, 1] rfl) (hD.sub [0, 1] (by decide) rfl) hS ⟨(pf_X4_warm_1 u_warmth d w r_1 w_2 c_4 c_5), (pf_X4_warm_2 u_warmth d w r_1 w_2 c_4 c_5)⟩ dX4_warm_24
    · refine lv_iload_n hx hb dX4_warm_16 rfl (lv_at hl 2 rfl) ?_
      refine lv_bipush (v := 50) hx hb dX4_warm_17 (by decide) ?_
      refine lv_icmp_le (tgt := 25) hx hb dX4_warm_19 (by decide) (fun c_6 => ?_) (fun c_6 => ?_)
      · refine lv_aload_n hx hb dX4_warm_25 rfl (lv_at hl 0 rfl) ?_
        refine va_get (D := D) (ci := 4) (v := .ref m_warmth) (C := RX4) (T := TX4) (N := 25) hx hb hts iw_X4_warm_4 hown hK hP 0 rfl rfl 19 (by decide) (hts _ wd_X4_warm_3) (fun _ h9 => h9) rfl dX4_warm_26 ?_
        refine lv_iload_n hx hb dX4_warm_29 rfl (lv_at hl 1 rfl) ?_
        refine va_iald hx hb hK hP 1 0 rfl rfl (pf_X4_warm_3 d w r_1 w_2 c_4 c_5 c_6) dX4_warm_30 ?_
        refine lv_topi (fun v_7 ev_7 => ?_)
        refine lv_istore_n (lv' := [(3, .int v_7), (0, .ref y0), (1, .int d), (2, .int w)]) hx hb dX4_warm_31 rfl hl (by decide) rfl (fun ls hl => ?_)
        refine lv_aload_n hx hb dX4_warm_32 rfl (lv_at hl 1 rfl) ?_
        refine va_get (D := D) (ci := 4) (v := .ref m_warmth) (C := RX4) (T := TX4) (N := 25) hx hb hts iw_X4_warm_4 hown hK hP 0 rfl rfl 19 (by decide) (hts _ wd_X4_warm_3) (fun _ h9 => h9) rfl dX4_warm_33 ?_
        refine lv_iload_n hx hb dX4_warm_36 rfl (lv_at hl 2 rfl) ?_
        refine lv_iload_n hx hb dX4_warm_37 rfl (lv_at hl 3 rfl) ?_
        refine va_iast hx hb hK hP hD hS 1 0 rfl rfl (pf_X4_warm_4 u_warmth d w r_1 v_7 w_2 c_4 c_5 c_6 ev_7) dX4_warm_38 (fun H locs hP hD hS => ?_)
        have hP : va_P D vwCl [(y0, .inr (4, [.int num, .int pts, .int nw, .int en, .int gl, .int bw, .int sp, .int be, .ref m_kind, .ref m_floor, .ref m_volume, .ref m_size, .ref m_faces, .ref m_when, .ref m_ahead, .ref m_order, .ref m_tried, .ref m_chosen, .ref m_forms, .ref m_warmth, .ref m_degrees, .ref m_thousandths, .ref m_longest, .long ab, .long bl])), (m_warmth, .inl (cI, 40, .inl (upd u_warmth d.toNatClampNeg w)))] H := hP
        have hD : va_D A [(y0, .inr (4, [.int num, .int pts, .int nw, .int en, .int gl, .int bw, .int sp, .int be, .ref m_kind, .ref m_floor, .ref m_volume, .ref m_size, .ref m_faces, .ref m_when, .ref m_ahead, .ref m_order, .ref m_tried, .ref m_chosen, .ref m_forms, .ref m_warmth, .ref m_degrees, .ref m_thousandths, .ref m_longest, .long ab, .long bl])), (m_warmth, .inl (cI, 40, .inl (upd u_warmth d.toNatClampNeg w)))] := hD
        refine lv_iload_n hx hb dX4_warm_39 rfl (lv_at hl 0 rfl) ?_
        refine W.widen (k := 0) (n := 0) (Nat.le_of_ble_eq_true rfl) (Nat.le_of_ble_eq_true rfl) ?_
        exact fi_i (upd u_warmth d.toNatClampNeg w) hx hb hr hlocks hK (hP.sub [0, 1] rfl) (hD.sub [0, 1] (by decide) rfl) hS ⟨(pf_X4_warm_5 u_warmth d w r_1 v_7 w_2 c_4 c_5 c_6 ev_7), (pf_X4_warm_6 u_warmth d w r_1 v_7 w_2 c_4 c_5 c_6 ev_7)⟩ dX4_warm_40
      · refine lv_ldc hx hb hown (hts _ wd_X4_warm_2) dX4_warm_22 ?_
        refine W.widen (k := 0) (n := 0) (Nat.le_of_ble_eq_true rfl) (Nat.le_of_ble_eq_true rfl) ?_
        exact fi_i u_warmth hx hb hr hlocks hK (hP.sub [0, 1] rfl) (hD.sub [0, 1] (by decide) rfl) hS ⟨(pf_X4_warm_7 u_warmth d w r_1 w_2 c_4 c_5 c_6), (pf_X4_warm_8 u_warmth d w r_1 w_2 c_4 c_5 c_6)⟩ dX4_warm_24
  · refine lv_ldc hx hb hown (hts _ wd_X4_warm_1) dX4_warm_7 ?_
    refine W.widen (k := 0) (n := 0) (Nat.le_of_ble_eq_true rfl) (Nat.le_of_ble_eq_true rfl) ?_
    exact fi_i u_warmth hx hb hr hlocks hK (hP.sub [0, 1] rfl) (hD.sub [0, 1] (by decide) rfl) hS ⟨(pf_X4_warm_9 u_warmth d w r_1 w_2 c_4), (pf_X4_warm_10 u_warmth d w r_1 w_2 c_4)⟩ dX4_warm_9

theorem iw_X4_point_4 : ∀ w ∈ wsX40, w ∈ wsX4_point := fun w h => (List.mem_cons_of_mem _ (List.mem_append_right _ h))
theorem wd_X4_point_1 : (.fieldLink RX4 88 "PourPlanModel" "points" "I" : Cond) ∈ wsX4_point := List.mem_of_getElem? (i := 1) rfl
theorem wd_X4_point_2 : (.fieldLink RX4 58 "PourPlanModel" "degrees" "[I" : Cond) ∈ wsX4_point := List.mem_of_getElem? (i := 2) rfl
theorem wd_X4_point_3 : (.fieldLink RX4 61 "PourPlanModel" "thousandths" "[I" : Cond) ∈ wsX4_point := List.mem_of_getElem? (i := 3) rfl
set_option maxHeartbeats 1000000 in
theorem pf_X4_point_1 (pts : Int32) (u_degrees : Nat → Int32) (u_thousandths : Nat → Int32) (d : Int32) (t : Int32) (hp0 : 0 ≤ pts) (hp6 : pts ≤ 6) (c_1 : d < 1) : (bGo u_degrees u_thousandths pts d t → (-2 : Int32) = -2 ∧ pts = pts ∧ u_degrees = u_degrees ∧ u_thousandths = u_thousandths) := by
  grind [bGo]
set_option maxHeartbeats 1000000 in
theorem pf_X4_point_2 (pts : Int32) (u_degrees : Nat → Int32) (u_thousandths : Nat → Int32) (d : Int32) (t : Int32) (hp0 : 0 ≤ pts) (hp6 : pts ≤ 6) (c_1 : d < 1) : (¬ bGo u_degrees u_thousandths pts d t → pts = 6 → (-2 : Int32) = -4 ∧ pts = pts ∧ u_degrees = u_degrees ∧ u_thousandths = u_thousandths) := by
  grind [bGo]
set_option maxHeartbeats 1000000 in
theorem pf_X4_point_3 (pts : Int32) (u_degrees : Nat → Int32) (u_thousandths : Nat → Int32) (d : Int32) (t : Int32) (hp0 : 0 ≤ pts) (hp6 : pts ≤ 6) (c_1 : d < 1) : (¬ bGo u_degrees u_thousandths pts d t → pts < 6 → (-2 : Int32) = pts + 1 ∧ pts = pts + 1 ∧ u_degrees = upd u_degrees pts.toNatClampNeg d ∧ u_thousandths = upd u_thousandths pts.toNatClampNeg t) := by
  grind [bGo]
set_option maxHeartbeats 1000000 in
theorem pf_X4_point_4 (pts : Int32) (u_degrees : Nat → Int32) (u_thousandths : Nat → Int32) (d : Int32) (t : Int32) (hp0 : 0 ≤ pts) (hp6 : pts ≤ 6) (c_1 : ¬ d < 1) (c_2 : 2000 < d) : (bGo u_degrees u_thousandths pts d t → (-2 : Int32) = -2 ∧ pts = pts ∧ u_degrees = u_degrees ∧ u_thousandths = u_thousandths) := by
  grind [bGo]
set_option maxHeartbeats 1000000 in
theorem pf_X4_point_5 (pts : Int32) (u_degrees : Nat → Int32) (u_thousandths : Nat → Int32) (d : Int32) (t : Int32) (hp0 : 0 ≤ pts) (hp6 : pts ≤ 6) (c_1 : ¬ d < 1) (c_2 : 2000 < d) : (¬ bGo u_degrees u_thousandths pts d t → pts = 6 → (-2 : Int32) = -4 ∧ pts = pts ∧ u_degrees = u_degrees ∧ u_thousandths = u_thousandths) := by
  grind [bGo]
set_option maxHeartbeats 1000000 in
theorem pf_X4_point_6 (pts : Int32) (u_degrees : Nat → Int32) (u_thousandths : Nat → Int32) (d : Int32) (t : Int32) (hp0 : 0 ≤ pts) (hp6 : pts ≤ 6) (c_1 : ¬ d < 1) (c_2 : 2000 < d) : (¬ bGo u_degrees u_thousandths pts d t → pts < 6 → (-2 : Int32) = pts + 1 ∧ pts = pts + 1 ∧ u_degrees = upd u_degrees pts.toNatClampNeg d ∧ u_thousandths = upd u_thousandths pts.toNatClampNeg t) := by
  grind [bGo]
set_option maxHeartbeats 1000000 in
theorem pf_X4_point_7 (pts : Int32) (u_degrees : Nat → Int32) (u_thousandths : Nat → Int32) (d : Int32) (t : Int32) (hp0 : 0 ≤ pts) (hp6 : pts ≤ 6) (c_1 : ¬ d < 1) (c_2 : ¬ 2000 < d) (c_3 : t < 0) : (bGo u_degrees u_thousandths pts d t → (-2 : Int32) = -2 ∧ pts = pts ∧ u_degrees = u_degrees ∧ u_thousandths = u_thousandths) := by
  grind [bGo]
set_option maxHeartbeats 1000000 in
theorem pf_X4_point_8 (pts : Int32) (u_degrees : Nat → Int32) (u_thousandths : Nat → Int32) (d : Int32) (t : Int32) (hp0 : 0 ≤ pts) (hp6 : pts ≤ 6) (c_1 : ¬ d < 1) (c_2 : ¬ 2000 < d) (c_3 : t < 0) : (¬ bGo u_degrees u_thousandths pts d t → pts = 6 → (-2 : Int32) = -4 ∧ pts = pts ∧ u_degrees = u_degrees ∧ u_thousandths = u_thousandths) := by
  grind [bGo]
set_option maxHeartbeats 1000000 in
theorem pf_X4_point_9 (pts : Int32) (u_degrees : Nat → Int32) (u_thousandths : Nat → Int32) (d : Int32) (t : Int32) (hp0 : 0 ≤ pts) (hp6 : pts ≤ 6) (c_1 : ¬ d < 1) (c_2 : ¬ 2000 < d) (c_3 : t < 0) : (¬ bGo u_degrees u_thousandths pts d t → pts < 6 → (-2 : Int32) = pts + 1 ∧ pts = pts + 1 ∧ u_degrees = upd u_degrees pts.toNatClampNeg d ∧ u_thousandths = upd u_thousandths pts.toNatClampNeg t) := by
  grind [bGo]
set_option maxHeartbeats 1000000 in
theorem pf_X4_point_10 (pts : Int32) (d : Int32) (t : Int32) (hp0 : 0 ≤ pts) (hp6 : pts ≤ 6) (c_1 : ¬ d < 1) (c_2 : ¬ 2000 < d) (c_3 : ¬ t < 0) (c_4 : t ≤ 1000) (c_5 : pts ≤ 0) (c_6 : ¬ pts = 6) : vp_in pts 6 := by
  exact vi_in (M := 6) rfl (by grind [bGo]) (by grind [bGo])
set_option maxHeartbeats 1000000 in
theorem pf_X4_point_11 (pts : Int32) (d : Int32) (t : Int32) (hp0 : 0 ≤ pts) (hp6 : pts ≤ 6) (c_1 : ¬ d < 1) (c_2 : ¬ 2000 < d) (c_3 : ¬ t < 0) (c_4 : t ≤ 1000) (c_5 : pts ≤ 0) (c_6 : ¬ pts = 6) : vp_in pts 6 := by
  exact vi_in (M := 6) rfl (by grind [bGo]) (by grind [bGo])
set_option maxHeartbeats 1000000 in
theorem pf_X4_point_12 (pts : Int32) (u_degrees : Nat → Int32) (u_thousandths : Nat → Int32) (d : Int32) (t : Int32) (v_7 : Int32) (hp0 : 0 ≤ pts) (hp6 : pts ≤ 6) (c_1 : ¬ d < 1) (c_2 : ¬ 2000 < d) (c_3 : ¬ t < 0) (c_4 : t ≤ 1000) (c_5 : pts ≤ 0) (c_6 : ¬ pts = 6) (ev_7 : v_7 = pts + 1) : (bGo u_degrees u_thousandths pts d t → v_7 = -2 ∧ v_7 = pts ∧ (upd u_degrees pts.toNatClampNeg d) = u_degrees ∧ (upd u_thousandths pts.toNatClampNeg t) = u_thousandths) := by
  grind [bGo]
set_option maxHeartbeats 1000000 in
theorem pf_X4_point_13 (pts : Int32) (u_degrees : Nat → Int32) (u_thousandths : Nat → Int32) (d : Int32) (t : Int32) (v_7 : Int32) (hp0 : 0 ≤ pts) (hp6 : pts ≤ 6) (c_1 : ¬ d < 1) (c_2 : ¬ 2000 < d) (c_3 : ¬ t < 0) (c_4 : t ≤ 1000) (c_5 : pts ≤ 0) (c_6 : ¬ pts = 6) (ev_7 : v_7 = pts + 1) : (¬ bGo u_degrees u_thousandths pts d t → pts = 6 → v_7 = -4 ∧ v_7 = pts ∧ (upd u_degrees pts.toNatClampNeg d) = u_degrees ∧ (upd u_thousandths pts.toNatClampNeg t) = u_thousandths) := by
  grind [bGo]
set_option maxHeartbeats 1000000 in
theorem pf_X4_point_14 (pts : Int32) (u_degrees : Nat → Int32) (u_thousandths : Nat → Int32) (d : Int32) (t : Int32) (v_7 : Int32) (hp0 : 0 ≤ pts) (hp6 : pts ≤ 6) (c_1 : ¬ d < 1) (c_2 : ¬ 2000 < d) (c_3 : ¬ t < 0) (c_4 : t ≤ 1000) (c_5 : pts ≤ 0) (c_6 : ¬ pts = 6) (ev_7 : v_7 = pts + 1) : (¬ bGo u_degrees u_thousandths pts d t → pts < 6 → v_7 = pts + 1 ∧ v_7 = pts + 1 ∧ (upd u_degrees pts.toNatClampNeg d) = upd u_degrees pts.toNatClampNeg d ∧ (upd u_thousandths pts.toNatClampNeg t) = upd u_thousandths pts.toNatClampNeg t) := by
  grind [bGo]
set_option maxHeartbeats 1000000 in
theorem pf_X4_point_15 (pts : Int32) (u_degrees : Nat → Int32) (u_thousandths : Nat → Int32) (d : Int32) (t : Int32) (hp0 : 0 ≤ pts) (hp6 : pts ≤ 6) (c_1 : ¬ d < 1) (c_2 : ¬ 2000 < d) (c_3 : ¬ t < 0) (c_4 : t ≤ 1000) (c_5 : pts ≤ 0) (c_6 : pts = 6) : (bGo u_degrees u_thousandths pts d t → (-4 : Int32) = -2 ∧ pts = pts ∧ u_degrees = u_degrees ∧ u_thousandths = u_thousandths) := by
  grind [bGo]
set_option maxHeartbeats 1000000 in
theorem pf_X4_point_16 (pts : Int32) (u_degrees : Nat → Int32) (u_thousandths : Nat → Int32) (d : Int32) (t : Int32) (hp0 : 0 ≤ pts) (hp6 : pts ≤ 6) (c_1 : ¬ d < 1) (c_2 : ¬ 2000 < d) (c_3 : ¬ t < 0) (c_4 : t ≤ 1000) (c_5 : pts ≤ 0) (c_6 : pts = 6) : (¬ bGo u_degrees u_thousandths pts d t → pts = 6 → (-4 : Int32) = -4 ∧ pts = pts ∧ u_degrees = u_degrees ∧ u_thousandths = u_thousandths) := by
  grind [bGo]
set_option maxHeartbeats 1000000 in
theorem pf_X4_point_17 (pts : Int32) (u_degrees : Nat → Int32) (u_thousandths : Nat → Int32) (d : Int32) (t : Int32) (hp0 : 0 ≤ pts) (hp6 : pts ≤ 6) (c_1 : ¬ d < 1) (c_2 : ¬ 2000 < d) (c_3 : ¬ t < 0) (c_4 : t ≤ 1000) (c_5 : pts ≤ 0) (c_6 : pts = 6) : (¬ bGo u_degrees u_thousandths pts d t → pts < 6 → (-4 : Int32) = pts + 1 ∧ pts = pts + 1 ∧ u_degrees = upd u_degrees pts.toNatClampNeg d ∧ u_thousandths = upd u_thousandths pts.toNatClampNeg t) := by
  grind [bGo]
set_option maxHeartbeats 1000000 in
theorem pf_X4_point_18 (pts : Int32) (d : Int32) (t : Int32) (v_8 : Int32) (hp0 : 0 ≤ pts) (hp6 : pts ≤ 6) (c_1 : ¬ d < 1) (c_2 : ¬ 2000 < d) (c_3 : ¬ t < 0) (c_4 : t ≤ 1000) (c_5 : ¬ pts ≤ 0) (ev_8 : v_8 = pts - 1) : vp_in v_8 6 := by
  exact vi_in (M := 6) rfl (by grind [bGo]) (by grind [bGo])
set_option maxHeartbeats 1000000 in
theorem pf_X4_point_19 (pts : Int32) (u_degrees : Nat → Int32) (u_thousandths : Nat → Int32) (d : Int32) (t : Int32) (v_8 : Int32) (v_9 : Int32) (hp0 : 0 ≤ pts) (hp6 : pts ≤ 6) (c_1 : ¬ d < 1) (c_2 : ¬ 2000 < d) (c_3 : ¬ t < 0) (c_4 : t ≤ 1000) (c_5 : ¬ pts ≤ 0) (ev_8 : v_8 = pts - 1) (ev_9 : v_9 = u_degrees v_8.toNatClampNeg) (c_10 : d ≤ v_9) : (bGo u_degrees u_thousandths pts d t → (-2 : Int32) = -2 ∧ pts = pts ∧ u_degrees = u_degrees ∧ u_thousandths = u_thousandths) := by
  grind [bGo]
set_option maxHeartbeats 1000000 in
theorem pf_X4_point_20 (pts : Int32) (u_degrees : Nat → Int32) (u_thousandths : Nat → Int32) (d : Int32) (t : Int32) (v_8 : Int32) (v_9 : Int32) (hp0 : 0 ≤ pts) (hp6 : pts ≤ 6) (c_1 : ¬ d < 1) (c_2 : ¬ 2000 < d) (c_3 : ¬ t < 0) (c_4 : t ≤ 1000) (c_5 : ¬ pts ≤ 0) (ev_8 : v_8 = pts - 1) (ev_9 : v_9 = u_degrees v_8.toNatClampNeg) (c_10 : d ≤ v_9) : (¬ bGo u_degrees u_thousandths pts d t → pts = 6 → (-2 : Int32) = -4 ∧ pts = pts ∧ u_degrees = u_degrees ∧ u_thousandths = u_thousandths) := by
  grind [bGo]
set_option maxHeartbeats 1000000 in
theorem pf_X4_point_21 (pts : Int32) (u_degrees : Nat → Int32) (u_thousandths : Nat → Int32) (d : Int32) (t : Int32) (v_8 : Int32) (v_9 : Int32) (hp0 : 0 ≤ pts) (hp6 : pts ≤ 6) (c_1 : ¬ d < 1) (c_2 : ¬ 2000 < d) (c_3 : ¬ t < 0) (c_4 : t ≤ 1000) (c_5 : ¬ pts ≤ 0) (ev_8 : v_8 = pts - 1) (ev_9 : v_9 = u_degrees v_8.toNatClampNeg) (c_10 : d ≤ v_9) : (¬ bGo u_degrees u_thousandths pts d t → pts < 6 → (-2 : Int32) = pts + 1 ∧ pts = pts + 1 ∧ u_degrees = upd u_degrees pts.toNatClampNeg d ∧ u_thousandths = upd u_thousandths pts.toNatClampNeg t) := by
  grind [bGo]
set_option maxHeartbeats 1000000 in
theorem pf_X4_point_22 (pts : Int32) (u_degrees : Nat → Int32) (d : Int32) (t : Int32) (v_8 : Int32) (v_9 : Int32) (v_11 : Int32) (hp0 : 0 ≤ pts) (hp6 : pts ≤ 6) (c_1 : ¬ d < 1) (c_2 : ¬ 2000 < d) (c_3 : ¬ t < 0) (c_4 : t ≤ 1000) (c_5 : ¬ pts ≤ 0) (ev_8 : v_8 = pts - 1) (ev_9 : v_9 = u_degrees v_8.toNatClampNeg) (c_10 : ¬ d ≤ v_9) (ev_11 : v_11 = pts - 1) : vp_in v_11 6 := by
  exact vi_in (M := 6) rfl (by grind [bGo]) (by grind [bGo])
set_option maxHeartbeats 1000000 in
theorem pf_X4_point_23 (pts : Int32) (u_degrees : Nat → Int32) (u_thousandths : Nat → Int32) (d : Int32) (t : Int32) (v_8 : Int32) (v_9 : Int32) (v_11 : Int32) (v_12 : Int32) (hp0 : 0 ≤ pts) (hp6 : pts ≤ 6) (c_1 : ¬ d < 1) (c_2 : ¬ 2000 < d) (c_3 : ¬ t < 0) (c_4 : t ≤ 1000) (c_5 : ¬ pts ≤ 0) (ev_8 : v_8 = pts - 1) (ev_9 : v_9 = u_degrees v_8.toNatClampNeg) (c_10 : ¬ d ≤ v_9) (ev_11 : v_11 = pts - 1) (ev_12 : v_12 = u_thousandths v_11.toNatClampNeg) (c_13 : v_12 ≤ t) (c_14 : ¬ pts = 6) : vp_in pts 6 := by
  exact vi_in (M := 6) rfl (by grind [bGo]) (by grind [bGo])
set_option maxHeartbeats 1000000 in
theorem pf_X4_point_24 (pts : Int32) (u_degrees : Nat → Int32) (u_thousandths : Nat → Int32) (d : Int32) (t : Int32) (v_8 : Int32) (v_9 : Int32) (v_11 : Int32) (v_12 : Int32) (hp0 : 0 ≤ pts) (hp6 : pts ≤ 6) (c_1 : ¬ d < 1) (c_2 : ¬ 2000 < d) (c_3 : ¬ t < 0) (c_4 : t ≤ 1000) (c_5 : ¬ pts ≤ 0) (ev_8 : v_8 = pts - 1) (ev_9 : v_9 = u_degrees v_8.toNatClampNeg) (c_10 : ¬ d ≤ v_9) (ev_11 : v_11 = pts - 1) (ev_12 : v_12 = u_thousandths v_11.toNatClampNeg) (c_13 : v_12 ≤ t) (c_14 : ¬ pts = 6) : vp_in pts 6 := by
  exact vi_in (M := 6) rfl (by grind [bGo]) (by grind [bGo])
set_option maxHeartbeats 1000000 in
theorem pf_X4_point_25 (pts : Int32) (u_degrees : Nat → Int32) (u_thousandths : Nat → Int32) (d : Int32) (t : Int32) (v_8 : Int32) (v_9 : Int32) (v_11 : Int32) (v_12 : Int32) (v_15 : Int32) (hp0 : 0 ≤ pts) (hp6 : pts ≤ 6) (c_1 : ¬ d < 1) (c_2 : ¬ 2000 < d) (c_3 : ¬ t < 0) (c_4 : t ≤ 1000) (c_5 : ¬ pts ≤ 0) (ev_8 : v_8 = pts - 1) (ev_9 : v_9 = u_degrees v_8.toNatClampNeg) (c_10 : ¬ d ≤ v_9) (ev_11 : v_11 = pts - 1) (ev_12 : v_12 = u_thousandths v_11.toNatClampNeg) (c_13 : v_12 ≤ t) (c_14 : ¬ pts = 6) (ev_15 : v_15 = pts + 1) : (bGo u_degrees u_thousandths pts d t → v_15 = -2 ∧ v_15 = pts ∧ (upd u_degrees pts.toNatClampNeg d) = u_degrees ∧ (upd u_thousandths pts.toNatClampNeg t) = u_thousandths) := by
  grind [bGo]
set_option maxHeartbeats 1000000 in
theorem pf_X4_point_26 (pts : Int32) (u_degrees : Nat → Int32) (u_thousandths : Nat → Int32) (d : Int32) (t : Int32) (v_8 : Int32) (v_9 : Int32) (v_11 : Int32) (v_12 : Int32) (v_15 : Int32) (hp0 : 0 ≤ pts) (hp6 : pts ≤ 6) (c_1 : ¬ d < 1) (c_2 : ¬ 2000 < d) (c_3 : ¬ t < 0) (c_4 : t ≤ 1000) (c_5 : ¬ pts ≤ 0) (ev_8 : v_8 = pts - 1) (ev_9 : v_9 = u_degrees v_8.toNatClampNeg) (c_10 : ¬ d ≤ v_9) (ev_11 : v_11 = pts - 1) (ev_12 : v_12 = u_thousandths v_11.toNatClampNeg) (c_13 : v_12 ≤ t) (c_14 : ¬ pts = 6) (ev_15 : v_15 = pts + 1) : (¬ bGo u_degrees u_thousandths pts d t → pts = 6 → v_15 = -4 ∧ v_15 = pts ∧ (upd u_degrees pts.toNatClampNeg d) = u_degrees ∧ (upd u_thousandths pts.toNatClampNeg t) = u_thousandths) := by
  grind [bGo]
set_option maxHeartbeats 1000000 in
theorem pf_X4_point_27 (pts : Int32) (u_degrees : Nat → Int32) (u_thousandths : Nat → Int32) (d : Int32) (t : Int32) (v_8 : Int32) (v_9 : Int32) (v_11 : Int32) (v_12 : Int32) (v_15 : Int32) (hp0 : 0 ≤ pts) (hp6 : pts ≤ 6) (c_1 : ¬ d < 1) (c_2 : ¬ 2000 < d) (c_3 : ¬ t < 0) (c_4 : t ≤ 1000) (c_5 : ¬ pts ≤ 0) (ev_8 : v_8 = pts - 1) (ev_9 : v_9 = u_degrees v_8.toNatClampNeg) (c_10 : ¬ d ≤ v_9) (ev_11 : v_11 = pts - 1) (ev_12 : v_12 = u_thousandths v_11.toNatClampNeg) (c_13 : v_12 ≤ t) (c_14 : ¬ pts = 6) (ev_15 : v_15 = pts + 1) : (¬ bGo u_degrees u_thousandths pts d t → pts < 6 → v_15 = pts + 1 ∧ v_15 = pts + 1 ∧ (upd u_degrees pts.toNatClampNeg d) = upd u_degrees pts.toNatClampNeg d ∧ (upd u_thousandths pts.toNatClampNeg t) = upd u_thousandths pts.toNatClampNeg t) := by
  grind [bGo]
set_option maxHeartbeats 1000000 in
theorem pf_X4_point_28 (pts : Int32) (u_degrees : Nat → Int32) (u_thousandths : Nat → Int32) (d : Int32) (t : Int32) (v_8 : Int32) (v_9 : Int32) (v_11 : Int32) (v_12 : Int32) (hp0 : 0 ≤ pts) (hp6 : pts ≤ 6) (c_1 : ¬ d < 1) (c_2 : ¬ 2000 < d) (c_3 : ¬ t < 0) (c_4 : t ≤ 1000) (c_5 : ¬ pts ≤ 0) (ev_8 : v_8 = pts - 1) (ev_9 : v_9 = u_degrees v_8.toNatClampNeg) (c_10 : ¬ d ≤ v_9) (ev_11 : v_11 = pts - 1) (ev_12 : v_12 = u_thousandths v_11.toNatClampNeg) (c_13 : v_12 ≤ t) (c_14 : pts = 6) : (bGo u_degrees u_thousandths pts d t → (-4 : Int32) = -2 ∧ pts = pts ∧ u_degrees = u_degrees ∧ u_thousandths = u_thousandths) := by
  grind [bGo]
set_option maxHeartbeats 1000000 in
theorem pf_X4_point_29 (pts : Int32) (u_degrees : Nat → Int32) (u_thousandths : Nat → Int32) (d : Int32) (t : Int32) (v_8 : Int32) (v_9 : Int32) (v_11 : Int32) (v_12 : Int32) (hp0 : 0 ≤ pts) (hp6 : pts ≤ 6) (c_1 : ¬ d < 1) (c_2 : ¬ 2000 < d) (c_3 : ¬ t < 0) (c_4 : t ≤ 1000) (c_5 : ¬ pts ≤ 0) (ev_8 : v_8 = pts - 1) (ev_9 : v_9 = u_degrees v_8.toNatClampNeg) (c_10 : ¬ d ≤ v_9) (ev_11 : v_11 = pts - 1) (ev_12 : v_12 = u_thousandths v_11.toNatClampNeg) (c_13 : v_12 ≤ t) (c_14 : pts = 6) : (¬ bGo u_degrees u_thousandths pts d t → pts = 6 → (-4 : Int32) = -4 ∧ pts = pts ∧ u_degrees = u_degrees ∧ u_thousandths = u_thousandths) := by
  grind [bGo]
set_option maxHeartbeats 1000000 in
theorem pf_X4_point_30 (pts : Int32) (u_degrees : Nat → Int32) (u_thousandths : Nat → Int32) (d : Int32) (t : Int32) (v_8 : Int32) (v_9 : Int32) (v_11 : Int32) (v_12 : Int32) (hp0 : 0 ≤ pts) (hp6 : pts ≤ 6) (c_1 : ¬ d < 1) (c_2 : ¬ 2000 < d) (c_3 : ¬ t < 0) (c_4 : t ≤ 1000) (c_5 : ¬ pts ≤ 0) (ev_8 : v_8 = pts - 1) (ev_9 : v_9 = u_degrees v_8.toNatClampNeg) (c_10 : ¬ d ≤ v_9) (ev_11 : v_11 = pts - 1) (ev_12 : v_12 = u_thousandths v_11.toNatClampNeg) (c_13 : v_12 ≤ t) (c_14 : pts = 6) : (¬ bGo u_degrees u_thousandths pts d t → pts < 6 → (-4 : Int32) = pts + 1 ∧ pts = pts + 1 ∧ u_degrees = upd u_degrees pts.toNatClampNeg d ∧ u_thousandths = upd u_thousandths pts.toNatClampNeg t) := by
  grind [bGo]
set_option maxHeartbeats 1000000 in
theorem pf_X4_point_31 (pts : Int32) (u_degrees : Nat → Int32) (u_thousandths : Nat → Int32) (d : Int32) (t : Int32) (v_8 : Int32) (v_9 : Int32) (v_11 : Int32) (v_12 : Int32) (hp0 : 0 ≤ pts) (hp6 : pts ≤ 6) (c_1 : ¬ d < 1) (c_2 : ¬ 2000 < d) (c_3 : ¬ t < 0) (c_4 : t ≤ 1000) (c_5 : ¬ pts ≤ 0) (ev_8 : v_8 = pts - 1) (ev_9 : v_9 = u_degrees v_8.toNatClampNeg) (c_10 : ¬ d ≤ v_9) (ev_11 : v_11 = pts - 1) (ev_12 : v_12 = u_thousandths v_11.toNatClampNeg) (c_13 : ¬ v_12 ≤ t) : (bGo u_degrees u_thousandths pts d t → (-2 : Int32) = -2 ∧ pts = pts ∧ u_degrees = u_degrees ∧ u_thousandths = u_thousandths) := by
  grind [bGo]
set_option maxHeartbeats 1000000 in
theorem pf_X4_point_32 (pts : Int32) (u_degrees : Nat → Int32) (u_thousandths : Nat → Int32) (d : Int32) (t : Int32) (v_8 : Int32) (v_9 : Int32) (v_11 : Int32) (v_12 : Int32) (hp0 : 0 ≤ pts) (hp6 : pts ≤ 6) (c_1 : ¬ d < 1) (c_2 : ¬ 2000 < d) (c_3 : ¬ t < 0) (c_4 : t ≤ 1000) (c_5 : ¬ pts ≤ 0) (ev_8 : v_8 = pts - 1) (ev_9 : v_9 = u_degrees v_8.toNatClampNeg) (c_10 : ¬ d ≤ v_9) (ev_11 : v_11 = pts - 1) (ev_12 : v_12 = u_thousandths v_11.toNatClampNeg) (c_13 : ¬ v_12 ≤ t) : (¬ bGo u_degrees u_thousandths pts d t → pts = 6 → (-2 : Int32) = -4 ∧ pts = pts ∧ u_degrees = u_degrees ∧ u_thousandths = u_thousandths) := by
  grind [bGo]
set_option maxHeartbeats 1000000 in
theorem pf_X4_point_33 (pts : Int32) (u_degrees : Nat → Int32) (u_thousandths : Nat → Int32) (d : Int32) (t : Int32) (v_8 : Int32) (v_9 : Int32) (v_11 : Int32) (v_12 : Int32) (hp0 : 0 ≤ pts) (hp6 : pts ≤ 6) (c_1 : ¬ d < 1) (c_2 : ¬ 2000 < d) (c_3 : ¬ t < 0) (c_4 : t ≤ 1000) (c_5 : ¬ pts ≤ 0) (ev_8 : v_8 = pts - 1) (ev_9 : v_9 = u_degrees v_8.toNatClampNeg) (c_10 : ¬ d ≤ v_9) (ev_11 : v_11 = pts - 1) (ev_12 : v_12 = u_thousandths v_11.toNatClampNeg) (c_13 : ¬ v_12 ≤ t) : (¬ bGo u_degrees u_thousandths pts d t → pts < 6 → (-2 : Int32) = pts + 1 ∧ pts = pts + 1 ∧ u_degrees = upd u_degrees pts.toNatClampNeg d ∧ u_thousandths = upd u_thousandths pts.toNatClampNeg t) := by
  grind [bGo]
set_option maxHeartbeats 1000000 in
theorem pf_X4_point_34 (pts : Int32) (u_degrees : Nat → Int32) (u_thousandths : Nat → Int32) (d : Int32) (t : Int32) (hp0 : 0 ≤ pts) (hp6 : pts ≤ 6) (c_1 : ¬ d < 1) (c_2 : ¬ 2000 < d) (c_3 : ¬ t < 0) (c_4 : ¬ t ≤ 1000) : (bGo u_degrees u_thousandths pts d t → (-2 : Int32) = -2 ∧ pts = pts ∧ u_degrees = u_degrees ∧ u_thousandths = u_thousandths) := by
  grind [bGo]
set_option maxHeartbeats 1000000 in
theorem pf_X4_point_35 (pts : Int32) (u_degrees : Nat → Int32) (u_thousandths : Nat → Int32) (d : Int32) (t : Int32) (hp0 : 0 ≤ pts) (hp6 : pts ≤ 6) (c_1 : ¬ d < 1) (c_2 : ¬ 2000 < d) (c_3 : ¬ t < 0) (c_4 : ¬ t ≤ 1000) : (¬ bGo u_degrees u_thousandths pts d t → pts = 6 → (-2 : Int32) = -4 ∧ pts = pts ∧ u_degrees = u_degrees ∧ u_thousandths = u_thousandths) := by
  grind [bGo]
set_option maxHeartbeats 1000000 in
theorem pf_X4_point_36 (pts : Int32) (u_degrees : Nat → Int32) (u_thousandths : Nat → Int32) (d : Int32) (t : Int32) (hp0 : 0 ≤ pts) (hp6 : pts ≤ 6) (c_1 : ¬ d < 1) (c_2 : ¬ 2000 < d) (c_3 : ¬ t < 0) (c_4 : ¬ t ≤ 1000) : (¬ bGo u_degrees u_thousandths pts d t → pts < 6 → (-2 : Int32) = pts + 1 ∧ pts = pts + 1 ∧ u_degrees = upd u_degrees pts.toNatClampNeg d ∧ u_thousandths = upd u_thousandths pts.toNatClampNeg t) := by
  grind [bGo]
set_option maxHeartbeats 4000000 in
set_option maxRecDepth 100000 in
theorem c_X4_point (l : Launch) (D : va_G) (cI cQ : ClassId) (sz : Nat) (y0 : Nat) (m_degrees : Nat) (m_thousandths : Nat) (m_kind : Nat) (m_floor : Nat) (m_volume : Nat) (m_size : Nat) (m_faces : Nat) (m_when : Nat) (m_ahead : Nat) (m_order : Nat) (m_tried : Nat) (m_chosen : Nat) (m_forms : Nat) (m_warmth : Nat) (m_longest : Nat) (num : Int32) (pts : Int32) (nw : Int32) (en : Int32) (gl : Int32) (bw : Int32) (sp : Int32) (be : Int32) (ab : Int64) (bl : Int64) (u_degrees : Nat → Int32) (u_thousandths : Nat → Int32) (d : Int32) (t : Int32) (hp0 : 0 ≤ pts) (hp6 : pts ≤ 6) : CtI l yX4_point wsX4_point 0 0 0 0 [.ref y0, .int d, .int t] D [(cI, .int), (cQ, .array .int)] [(y0, .inr (4, [.int num, .int pts, .int nw, .int en, .int gl, .int bw, .int sp, .int be, .ref m_kind, .ref m_floor, .ref m_volume, .ref m_size, .ref m_faces, .ref m_when, .ref m_ahead, .ref m_order, .ref m_tried, .ref m_chosen, .ref m_forms, .ref m_warmth, .ref m_degrees, .ref m_thousandths, .ref m_longest, .long ab, .long bl])), (m_degrees, .inl (cI, 6, .inl u_degrees)), (m_thousandths, .inl (cI, 6, .inl u_thousandths))] sz (fun (r : Int32) (u : Int32 × (Nat → Int32) × (Nat → Int32)) => (bGo u_degrees u_thousandths pts d t → r = -2 ∧ u.1 = pts ∧ u.2.1 = u_degrees ∧ u.2.2 = u_thousandths) ∧ (¬ bGo u_degrees u_thousandths pts d t → pts = 6 → r = -4 ∧ u.1 = pts ∧ u.2.1 = u_degrees ∧ u.2.2 = u_thousandths) ∧ (¬ bGo u_degrees u_thousandths pts d t → pts < 6 → r = pts + 1 ∧ u.1 = pts + 1 ∧ u.2.1 = upd u_degrees pts.toNatClampNeg d ∧ u.2.2 = upd u_thousandths pts.toNatClampNeg t)) (fun (u : Int32 × (Nat → Int32) × (Nat → Int32)) => [(y0, .inr (4, [.int num, .int u.1, .int nw, .int en, .int gl, .int bw, .int sp, .int be, .ref m_kind, .ref m_floor, .ref m_volume, .ref m_size, .ref m_faces, .ref m_when, .ref m_ahead, .ref m_order, .ref m_tried, .ref m_chosen, .ref m_forms, .ref m_warmth, .ref m_degrees, .ref m_thousandths, .ref m_longest, .long ab, .long bl])), (m_degrees, .inl (cI, 6, .inl u.2.1)), (m_thousandths, .inl (cI, 6, .inl u.2.2))]) := by
  refine Met.ofW (cc := cX4_point) (maxL := 3) (ret := (some .int)) (by decide) rfl ?_
  intro p e s m args below meth c s₁ B hml hv
  obtain ⟨rfl, hsz, hP, hK, hD0, hN⟩ := hv
  have hx := B.exec
  have hb := B.bytes
  have hr := B.returns
  have hts := atoms_spec (ws := wsX4_point) B.pre
  have hown : s.vm.findClass RX4 = some m.cls := findClass_of_methodNamed B.named
  have hlocks := B.notSynchronized
  subst hsz
  have hD := hD0.self (sz := s.heap.size)
  generalize hAe : va_A [(y0, .inr (4, [.int num, .int pts, .int nw, .int en, .int gl, .int bw, .int sp, .int be, .ref m_kind, .ref m_floor, .ref m_volume, .ref m_size, .ref m_faces, .ref m_when, .ref m_ahead, .ref m_order, .ref m_tried, .ref m_chosen, .ref m_forms, .ref m_warmth, .ref m_degrees, .ref m_thousandths, .ref m_longest, .long ab, .long bl])), (m_degrees, .inl (cI, 6, .inl u_degrees)), (m_thousandths, .inl (cI, 6, .inl u_thousandths))] s.heap.size = A at hD ⊢
  have hA : ∀ q : Nat, s.heap.size ≤ q → A q := fun q h => by rw [← hAe]; exact Or.inr h
  have hS : va_S A s.heap s.heap [] := va_S.rf
  have hl := lv_entry ([.ref y0, .int d, .int t]) (n := 3) (Nat.le_of_ble_eq_true rfl)
  rw [lg_entry_eq]
  generalize (lg_sl ([.ref y0, .int d, .int t]) ++ List.replicate (3 - (lg_sl ([.ref y0, .int d, .int t])).length) Slot.unset).toArray = ls at hl ⊢
  have hl : lv_has ls 3 [(0, .ref y0), (1, .int d), (2, .int t)] := hl
  have hP0 := hP
  refine lv_iload_n hx hb dX4_point_0 rfl (lv_at hl 1 rfl) ?_
  refine lv_iconst (v := 1) hx hb dX4_point_1 (by decide) ?_
  refine lv_icmp_lt (tgt := 23) hx hb dX4_point_2 (by decide) (fun c_1 => ?_) (fun c_1 => ?_)
  · refine lv_bipush (v := (-2)) hx hb dX4_point_23 (by decide) ?_
    refine W.widen (k := 0) (n := 0) (Nat.le_of_ble_eq_true rfl) (Nat.le_of_ble_eq_true rfl) ?_
    exact fi_i (pts, u_degrees, u_thousandths) hx hb hr hlocks hK (hP.sub [0, 1, 2] rfl) (hD.sub [0, 1, 2] (by decide) rfl) hS ⟨(pf_X4_point_1 pts u_degrees u_thousandths d t hp0 hp6 c_1), (pf_X4_point_2 pts u_degrees u_thousandths d t hp0 hp6 c_1), (pf_X4_point_3 pts u_degrees u_thousandths d t hp0 hp6 c_1)⟩ dX4_point_25
  · refine lv_iload_n hx hb dX4_point_5 rfl (lv_at hl 1 rfl) ?_
    refine lv_sipush (v := 2000) hx hb dX4_point_6 (by decide) ?_
    refine lv_icmp_gt (tgt := 23) hx hb dX4_point_9 (by decide) (fun c_2 => ?_) (fun c_2 => ?_)
    · refine lv_bipush (v := (-2)) hx hb dX4_point_23 (by decide) ?_
      refine W.widen (k := 0) (n := 0) (Nat.le_of_ble_eq_true rfl) (Nat.le_of_ble_eq_true rfl) ?_
      exact fi_i (pts, u_degrees, u_thousandths) hx hb hr hlocks hK (hP.sub [0, 1, 2] rfl) (hD.sub [0, 1, 2] (by decide) rfl) hS ⟨(pf_X4_point_4 pts u_degrees u_thousandths d t hp0 hp6 c_1 c_2), (pf_X4_point_5 pts u_degrees u_thousandths d t hp0 hp6 c_1 c_2), (pf_X4_point_6 pts u_degrees u_thousandths d t hp0 hp6 c_1 c_2)⟩ dX4_point_25
    · refine lv_iload_n hx hb dX4_point_12 rfl (lv_at hl 2 rfl) ?_
      refine lv_if_lt (tgt := 23) hx hb dX4_point_13 (by decide) (fun c_3 => ?_) (fun c_3 => ?_)
      · refine lv_bipush (v := (-2)) hx hb dX4_point_23 (by decide) ?_
        refine W.widen (k := 0) (n := 0) (Nat.le_of_ble_eq_true rfl) (Nat.le_of_ble_eq_true rfl) ?_
        exact fi_i (pts, u_degrees, u_thousandths) hx hb hr hlocks hK (hP.sub [0, 1, 2] rfl) (hD.sub [0, 1, 2] (by decide) rfl) hS ⟨(pf_X4_point_7 pts u_degrees u_thousandths d t hp0 hp6 c_1 c_2 c_3), (pf_X4_point_8 pts u_degrees u_thousandths d t hp0 hp6 c_1 c_2 c_3), (pf_X4_point_9 pts u_degrees u_thousandths d t hp0 hp6 c_1 c_2 c_3)⟩ dX4_point_25
      · refine lv_iload_n hx hb dX4_point_16 rfl (lv_at hl 2 rfl) ?_
        refine lv_sipush (v := 1000) hx hb dX4_point_17 (by decide) ?_
        refine lv_icmp_le (tgt := 26) hx hb dX4_point_20 (by decide) (fun c_4 => ?_) (fun c_4 => ?_)
        · refine lv_aload_n hx hb dX4_point_26 rfl (lv_at hl 0 rfl) ?_
          refine va_get (D := D) (ci := 4) (v := .int pts) (C := RX4) (T := TX4) (N := 25) hx hb hts iw_X4_point_4 hown hK hP 0 rfl rfl 1 (by decide) (hts _ wd_X4_point_1) (fun _ h9 => h9) rfl dX4_point_27 ?_
          refine lv_if_le (tgt := 66) hx hb dX4_point_30 (by decide) (fun c_5 => ?_) (fun c_5 => ?_)
          · refine lv_aload_n hx hb dX4_point_66 rfl (lv_at hl 0 rfl) ?_
            refine va_get (D := D) (ci := 4) (v := .int pts) (C := RX4) (T := TX4) (N := 25) hx hb hts iw_X4_point_4 hown hK hP 0 rfl rfl 1 (by decide) (hts _ wd_X4_point_1) (fun _ h9 => h9) rfl dX4_point_67 ?_
            refine lv_bipush (v := 6) hx hb dX4_point_70 (by decide) ?_
            refine lv_icmp_ne (tgt := 78) hx hb dX4_point_72 (by decide) (fun c_6 => ?_) (fun c_6 => ?_)
            · refine lv_aload_n hx hb dX4_point_78 rfl (lv_at hl 0 rfl) ?_
              refine va_get (D := D) (ci := 4) (v := .ref m_degrees) (C := RX4) (T := TX4) (N := 25) hx hb hts iw_X4_point_4 hown hK hP 0 rfl rfl 20 (by decide) (hts _ wd_X4_point_2) (fun _ h9 => h9) rfl dX4_point_79 ?_
              refine lv_aload_n hx hb dX4_point_82 rfl (lv_at hl 0 rfl) ?_
              refine va_get (D := D) (ci := 4) (v := .int pts) (C := RX4) (T := TX4) (N := 25) hx hb hts iw_X4_point_4 hown hK hP 0 rfl rfl 1 (by decide) (hts _ wd_X4_point_1) (fun _ h9 => h9) rfl dX4_point_83 ?_
              refine lv_iload_n hx hb dX4_point_86 rfl (lv_at hl 1 rfl) ?_
              refine va_iast hx hb hK hP hD hS 1 0 rfl rfl (pf_X4_point_10 pts d t hp0 hp6 c_1 c_2 c_3 c_4 c_5 c_6) dX4_point_87 (fun H locs hP hD hS => ?_)
              have hP : va_P D vwCl [(y0, .inr (4, [.int num, .int pts, .int nw, .int en, .int gl, .int bw, .int sp, .int be, .ref m_kind, .ref m_floor, .ref m_volume, .ref m_size, .ref m_faces, .ref m_when, .ref m_ahead, .ref m_order, .ref m_tried, .ref m_chosen, .ref m_forms, .ref m_warmth, .ref m_degrees, .ref m_thousandths, .ref m_longest, .long ab, .long bl])), (m_degrees, .inl (cI, 6, .inl (upd u_degrees pts.toNatClampNeg d))), (m_thousandths, .inl (cI, 6, .inl u_thousandths))] H := hP
              have hD : va_D A [(y0, .inr (4, [.int num, .int pts, .int nw, .int en, .int gl, .int bw, .int sp, .int be, .ref m_kind, .ref m_floor, .ref m_volume, .ref m_size, .ref m_faces, .ref m_when, .ref m_ahead, .ref m_order, .ref m_tried, .ref m_chosen, .ref m_forms, .ref m_warmth, .ref m_degrees, .ref m_thousandths, .ref m_longest, .long ab, .long bl])), (m_degrees, .inl (cI, 6, .inl (upd u_degrees pts.toNatClampNeg d))), (m_thousandths, .inl (cI, 6, .inl u_thousandths))] := hD
              refine lv_aload_n hx hb dX4_point_88 rfl (lv_at hl 0 rfl) ?_
              refine va_get (D := D) (ci := 4) (v := .ref m_thousandths) (C := RX4) (T := TX4) (N := 25) hx hb hts iw_X4_point_4 hown hK hP 0 rfl rfl 21 (by decide) (hts _ wd_X4_point_3) (fun _ h9 => h9) rfl dX4_point_89 ?_
              refine lv_aload_n hx hb dX4_point_92 rfl (lv_at hl 0 rfl) ?_
              refine va_get (D := D) (ci := 4) (v := .int pts) (C := RX4) (T := TX4) (N := 25) hx hb hts iw_X4_point_4 hown hK hP 0 rfl rfl 1 (by decide) (hts _ wd_X4_point_1) (fun _ h9 => h9) rfl dX4_point_93 ?_
              refine lv_iload_n hx hb dX4_point_96 rfl (lv_at hl 2 rfl) ?_
              refine va_iast hx hb hK hP hD hS 2 0 rfl rfl (pf_X4_point_11 pts d t hp0 hp6 c_1 c_2 c_3 c_4 c_5 c_6) dX4_point_97 (fun H locs hP hD hS => ?_)
              have hP : va_P D vwCl [(y0, .inr (4, [.int num, .int pts, .int nw, .int en, .int gl, .int bw, .int sp, .int be, .ref m_kind, .ref m_floor, .ref m_volume, .ref m_size, .ref m_faces, .ref m_when, .ref m_ahead, .ref m_order, .ref m_tried, .ref m_chosen, .ref m_forms, .ref m_warmth, .ref m_degrees, .ref m_thousandths, .ref m_longest, .long ab, .long bl])), (m_degrees, .inl (cI, 6, .inl (upd u_degrees pts.toNatClampNeg d))), (m_thousandths, .inl (cI, 6, .inl (upd u_thousandths pts.toNatClampNeg t)))] H := hP
              have hD : va_D A [(y0, .inr (4, [.int num, .int pts, .int nw, .int en, .int gl, .int bw, .int sp, .int be, .ref m_kind, .ref m_floor, .ref m_volume, .ref m_size, .ref m_faces, .ref m_when, .ref m_ahead, .ref m_order, .ref m_tried, .ref m_chosen, .ref m_forms, .ref m_warmth, .ref m_degrees, .ref m_thousandths, .ref m_longest, .long ab, .long bl])), (m_degrees, .inl (cI, 6, .inl (upd u_degrees pts.toNatClampNeg d))), (m_thousandths, .inl (cI, 6, .inl (upd u_thousandths pts.toNatClampNeg t)))] := hD
              refine lv_aload_n hx hb dX4_point_98 rfl (lv_at hl 0 rfl) ?_
              refine lv_dup hx hb dX4_point_99 rfl ?_
              refine va_get (D := D) (ci := 4) (v := .int pts) (C := RX4) (T := TX4) (N := 25) hx hb hts iw_X4_point_4 hown hK hP 0 rfl rfl 1 (by decide) (hts _ wd_X4_point_1) (fun _ h9 => h9) rfl dX4_point_100 ?_
              refine lv_iconst (v := 1) hx hb dX4_point_103 (by decide) ?_
              refine lv_iadd hx hb dX4_point_104 ?_
              refine lv_topi (fun v_7 ev_7 => ?_)
              refine lv_dup_x1 hx hb dX4_point_105 rfl rfl ?_
              refine va_put (D := D) (ci := 4) (v := .int v_7) (ty := .int) (C := RX4) (T := TX4) (N := 25) hx hb hts iw_X4_point_4 tyX4 tyX4_ok nmX4 hown hK hP hD hS 0 rfl rfl 1 (by decide) (hts _ wd_X4_point_1) (fun _ h9 => h9) rfl (by decide +kernel) rfl rfl (Nat.le_of_ble_eq_true rfl) dX4_point_106 (fun H locs hP hD hS => ?_)
              have hP : va_P D vwCl [(y0, .inr (4, [.int num, .int v_7, .int nw, .int en, .int gl, .int bw, .int sp, .int be, .ref m_kind, .ref m_floor, .ref m_volume, .ref m_size, .ref m_faces, .ref m_when, .ref m_ahead, .ref m_order, .ref m_tried, .ref m_chosen, .ref m_forms, .ref m_warmth, .ref m_degrees, .ref m_thousandths, .ref m_longest, .long ab, .long bl])), (m_degrees, .inl (cI, 6, .inl (upd u_degrees pts.toNatClampNeg d))), (m_thousandths, .inl (cI, 6, .inl (upd u_thousandths pts.toNatClampNeg t)))] H := hP
              have hD : va_D A [(y0, .inr (4, [.int num, .int v_7, .int nw, .int en, .int gl, .int bw, .int sp, .int be, .ref m_kind, .ref m_floor, .ref m_volume, .ref m_size, .ref m_faces, .ref m_when, .ref m_ahead, .ref m_order, .ref m_tried, .ref m_chosen, .ref m_forms, .ref m_warmth, .ref m_degrees, .ref m_thousandths, .ref m_longest, .long ab, .long bl])), (m_degrees, .inl (cI, 6, .inl (upd u_degrees pts.toNatClampNeg d))), (m_thousandths, .inl (cI, 6, .inl (upd u_thousandths pts.toNatClampNeg t)))] := hD
              refine W.widen (k := 0) (n := 0) (Nat.le_of_ble_eq_true rfl) (Nat.le_of_ble_eq_true rfl) ?_
              exact fi_i (v_7, upd u_degrees pts.toNatClampNeg d, upd u_thousandths pts.toNatClampNeg t) hx hb hr hlocks hK (hP.sub [0, 1, 2] rfl) (hD.sub [0, 1, 2] (by decide) rfl) hS ⟨(pf_X4_point_12 pts u_degrees u_thousandths d t v_7 hp0 hp6 c_1 c_2 c_3 c_4 c_5 c_6 ev_7), (pf_X4_point_13 pts u_degrees u_thousandths d t v_7 hp0 hp6 c_1 c_2 c_3 c_4 c_5 c_6 ev_7), (pf_X4_point_14 pts u_degrees u_thousandths d t v_7 hp0 hp6 c_1 c_2 c_3 c_4 c_5 c_6 ev_7)⟩ dX4_point_109
            · refine lv_bipush (v := (-4)) hx hb dX4_point_75 (by decide) ?_
              refine W.widen (k := 0) (n := 0) (Nat.le_of_ble_eq_true rfl) (Nat.le_of_ble_eq_true rfl) ?_
              exact fi_i (pts, u_degrees, u_thousandths) hx hb hr hlocks hK (hP.sub [0, 1, 2] rfl) (hD.sub [0, 1, 2] (by decide) rfl) hS ⟨(pf_X4_point_15 pts u_degrees u_thousandths d t hp0 hp6 c_1 c_2 c_3 c_4 c_5 c_6), (pf_X4_point_16 pts u_degrees u_thousandths d t hp0 hp6 c_1 c_2 c_3 c_4 c_5 c_6), (pf_X4_point_17 pts u_degrees u_thousandths d t hp0 hp6 c_1 c_2 c_3 c_4 c_5 c_6)⟩ dX4_point_77
          · refine lv_iload_n hx hb dX4_point_33 rfl (lv_at hl 1 rfl) ?_
            refine lv_aload_n hx hb dX4_point_34 rfl (lv_at hl 0 rfl) ?_
            refine va_get (D := D) (ci := 4) (v := .ref m_degrees) (C := RX4) (T := TX4) (N := 25) hx hb hts iw_X4_point_4 hown hK hP 0 rfl rfl 20 (by decide) (hts _ wd_X4_point_2) (fun _ h9 => h9) rfl dX4_point_35 ?_
            refine lv_aload_n hx hb dX4_point_38 rfl (lv_at hl 0 rfl) ?_
            refine va_get (D := D) (ci := 4) (v := .int pts) (C := RX4) (T := TX4) (N := 25) hx hb hts iw_X4_point_4 hown hK hP 0 rfl rfl 1 (by decide) (hts _ wd_X4_point_1) (fun _ h9 => h9) rfl dX4_point_39 ?_
            refine lv_iconst (v := 1) hx hb dX4_point_42 (by decide) ?_
            refine lv_isub hx hb dX4_point_43 ?_
            refine lv_topi (fun v_8 ev_8 => ?_)
            refine va_iald hx hb hK hP 1 0 rfl rfl (pf_X4_point_18 pts d t v_8 hp0 hp6 c_1 c_2 c_3 c_4 c_5 ev_8) dX4_point_44 ?_
            refine lv_topi (fun v_9 ev_9 => ?_)
            refine lv_icmp_le (tgt := 63) hx hb dX4_point_45 (by decide) (fun c_10 => ?_) (fun c_10 => ?_)
            · refine lv_bipush (v := (-2)) hx hb dX4_point_63 (by decide) ?_
              refine W.widen (k := 0) (n := 0) (Nat.le_of_ble_eq_true rfl) (Nat.le_of_ble_eq_true rfl) ?_
              exact fi_i (pts, u_degrees, u_thousandths) hx hb hr hlocks hK (hP.sub [0, 1, 2] rfl) (hD.sub [0, 1, 2] (by decide) rfl) hS ⟨(pf_X4_point_19 pts u_degrees u_thousandths d t v_8 v_9 hp0 hp6 c_1 c_2 c_3 c_4 c_5 ev_8 ev_9 c_10), (pf_X4_point_20 pts u_degrees u_thousandths d t v_8 v_9 hp0 hp6 c_1 c_2 c_3 c_4 c_5 ev_8 ev_9 c_10), (pf_X4_point_21 pts u_degrees u_thousandths d t v_8 v_9 hp0 hp6 c_1 c_2 c_3 c_4 c_5 ev_8 ev_9 c_10)⟩ dX4_point_65
            · refine lv_iload_n hx hb dX4_point_48 rfl (lv_at hl 2 rfl) ?_
              refine lv_aload_n hx hb dX4_point_49 rfl (lv_at hl 0 rfl) ?_
              refine va_get (D := D) (ci := 4) (v := .ref m_thousandths) (C := RX4) (T := TX4) (N := 25) hx hb hts iw_X4_point_4 hown hK hP 0 rfl rfl 21 (by decide) (hts _ wd_X4_point_3) (fun _ h9 => h9) rfl dX4_point_50 ?_
              refine lv_aload_n hx hb dX4_point_53 rfl (lv_at hl 0 rfl) ?_
              refine va_get (D := D) (ci := 4) (v := .int pts) (C := RX4) (T := TX4) (N := 25) hx hb hts iw_X4_point_4 hown hK hP 0 rfl rfl 1 (by decide) (hts _ wd_X4_point_1) (fun _ h9 => h9) rfl dX4_point_54 ?_
              refine lv_iconst (v := 1) hx hb dX4_point_57 (by decide) ?_
              refine lv_isub hx hb dX4_point_58 ?_
              refine lv_topi (fun v_11 ev_11 => ?_)
              refine va_iald hx hb hK hP 2 0 rfl rfl (pf_X4_point_22 pts u_degrees d t v_8 v_9 v_11 hp0 hp6 c_1 c_2 c_3 c_4 c_5 ev_8 ev_9 c_10 ev_11) dX4_point_59 ?_
              refine lv_topi (fun v_12 ev_12 => ?_)
              refine lv_icmp_ge (tgt := 66) hx hb dX4_point_60 (by decide) (fun c_13 => ?_) (fun c_13 => ?_)
              · refine lv_aload_n hx hb dX4_point_66 rfl (lv_at hl 0 rfl) ?_
                refine va_get (D := D) (ci := 4) (v := .int pts) (C := RX4) (T := TX4) (N := 25) hx hb hts iw_X4_point_4 hown hK hP 0 rfl rfl 1 (by decide) (hts _ wd_X4_point_1) (fun _ h9 => h9) rfl dX4_point_67 ?_
                refine lv_bipush (v := 6) hx hb dX4_point_70 (by decide) ?_
                refine lv_icmp_ne (tgt := 78) hx hb dX4_point_72 (by decide) (fun c_14 => ?_) (fun c_14 => ?_)
                · refine lv_aload_n hx hb dX4_point_78 rfl (lv_at hl 0 rfl) ?_
                  refine va_get (D := D) (ci := 4) (v := .ref m_degrees) (C := RX4) (T := TX4) (N := 25) hx hb hts iw_X4_point_4 hown hK hP 0 rfl rfl 20 (by decide) (hts _ wd_X4_point_2) (fun _ h9 => h9) rfl dX4_point_79 ?_
                  refine lv_aload_n hx hb dX4_point_82 rfl (lv_at hl 0 rfl) ?_
                  refine va_get (D := D) (ci := 4) (v := .int pts) (C := RX4) (T := TX4) (N := 25) hx hb hts iw_X4_point_4 hown hK hP 0 rfl rfl 1 (by decide) (hts _ wd_X4_point_1) (fun _ h9 => h9) rfl dX4_point_83 ?_
                  refine lv_iload_n hx hb dX4_point_86 rfl (lv_at hl 1 rfl) ?_
                  refine va_iast hx hb hK hP hD hS 1 0 rfl rfl (pf_X4_point_23 pts u_degrees u_thousandths d t v_8 v_9 v_11 v_12 hp0 hp6 c_1 c_2 c_3 c_4 c_5 ev_8 ev_9 c_10 ev_11 ev_12 c_13 c_14) dX4_point_87 (fun H locs hP hD hS => ?_)
                  have hP : va_P D vwCl [(y0, .inr (4, [.int num, .int pts, .int nw, .int en, .int gl, .int bw, .int sp, .int be, .ref m_kind, .ref m_floor, .ref m_volume, .ref m_size, .ref m_faces, .ref m_when, .ref m_ahead, .ref m_order, .ref m_tried, .ref m_chosen, .ref m_forms, .ref m_warmth, .ref m_degrees, .ref m_thousandths, .ref m_longest, .long ab, .long bl])), (m_degrees, .inl (cI, 6, .inl (upd u_degrees pts.toNatClampNeg d))), (m_thousandths, .inl (cI, 6, .inl u_thousandths))] H := hP
                  have hD : va_D A [(y0, .inr (4, [.int num, .int pts, .int nw, .int en, .int gl, .int bw, .int sp, .int be, .ref m_kind, .ref m_floor, .ref m_volume, .ref m_size, .ref m_faces, .ref m_when, .ref m_ahead, .ref m_order, .ref m_tried, .ref m_chosen, .ref m_forms, .ref m_warmth, .ref m_degrees, .ref m_thousandths, .ref m_longest, .long ab, .long bl])), (m_degrees, .inl (cI, 6, .inl (upd u_degrees pts.toNatClampNeg d))), (m_thousandths, .inl (cI, 6, .inl u_thousandths))] := hD
                  refine lv_aload_n hx hb dX4_point_88 rfl (lv_at hl 0 rfl) ?_
                  refine va_get (D := D) (ci := 4) (v := .ref m_thousandths) (C := RX4) (T := TX4) (N := 25) hx hb hts iw_X4_point_4 hown hK hP 0 rfl rfl 21 (by decide) (hts _ wd_X4_point_3) (fun _ h9 => h9) rfl dX4_point_89 ?_
                  refine lv_aload_n hx hb dX4_point_92 rfl (lv_at hl 0 rfl) ?_
                  refine va_get (D := D) (ci := 4) (v := .int pts) (C := RX4) (T := TX4) (N := 25) hx hb hts iw_X4_point_4 hown hK hP 0 rfl rfl 1 (by decide) (hts _ wd_X4_point_1) (fun _ h9 => h9) rfl dX4_point_93 ?_
                  refine lv_iload_n hx hb dX4_point_96 rfl (lv_at hl 2 rfl) ?_
                  refine va_iast hx hb hK hP hD hS 2 0 rfl rfl (pf_X4_point_24 pts u_degrees u_thousandths d t v_8 v_9 v_11 v_12 hp0 hp6 c_1 c_2 c_3 c_4 c_5 ev_8 ev_9 c_10 ev_11 ev_12 c_13 c_14) dX4_point_97 (fun H locs hP hD hS => ?_)
                  have hP : va_P D vwCl [(y0, .inr (4, [.int num, .int pts, .int nw, .int en, .int gl, .int bw, .int sp, .int be, .ref m_kind, .ref m_floor, .ref m_volume, .ref m_size, .ref m_faces, .ref m_when, .ref m_ahead, .ref m_order, .ref m_tried, .ref m_chosen, .ref m_forms, .ref m_warmth, .ref m_degrees, .ref m_thousandths, .ref m_longest, .long ab, .long bl])), (m_degrees, .inl (cI, 6, .inl (upd u_degrees pts.toNatClampNeg d))), (m_thousandths, .inl (cI, 6, .inl (upd u_thousandths pts.toNatClampNeg t)))] H := hP
                  have hD : va_D A [(y0, .inr (4, [.int num, .int pts, .int nw, .int en, .int gl, .int bw, .int sp, .int be, .ref m_kind, .ref m_floor, .ref m_volume, .ref m_size, .ref m_faces, .ref m_when, .ref m_ahead, .ref m_order, .ref m_tried, .ref m_chosen, .ref m_forms, .ref m_warmth, .ref m_degrees, .ref m_thousandths, .ref m_longest, .long ab, .long bl])), (m_degrees, .inl (cI, 6, .inl (upd u_degrees pts.toNatClampNeg d))), (m_thousandths, .inl (cI, 6, .inl (upd u_thousandths pts.toNatClampNeg t)))] := hD
                  refine lv_aload_n hx hb dX4_point_98 rfl (lv_at hl 0 rfl) ?_
                  refine lv_dup hx hb dX4_point_99 rfl ?_
                  refine va_get (D := D) (ci := 4) (v := .int pts) (C := RX4) (T := TX4) (N := 25) hx hb hts iw_X4_point_4 hown hK hP 0 rfl rfl 1 (by decide) (hts _ wd_X4_point_1) (fun _ h9 => h9) rfl dX4_point_100 ?_
                  refine lv_iconst (v := 1) hx hb dX4_point_103 (by decide) ?_
                  refine lv_iadd hx hb dX4_point_104 ?_
                  refine lv_topi (fun v_15 ev_15 => ?_)
                  refine lv_dup_x1 hx hb dX4_point_105 rfl rfl ?_
                  refine va_put (D := D) (ci := 4) (v := .int v_15) (ty := .int) (C := RX4) (T := TX4) (N := 25) hx hb hts iw_X4_point_4 tyX4 tyX4_ok nmX4 hown hK hP hD hS 0 rfl rfl 1 (by decide) (hts _ wd_X4_point_1) (fun _ h9 => h9) rfl (by decide +kernel) rfl rfl (Nat.le_of_ble_eq_true rfl) dX4_point_106 (fun H locs hP hD hS => ?_)
                  have hP : va_P D vwCl [(y0, .inr (4, [.int num, .int v_15, .int nw, .int en, .int gl, .int bw, .int sp, .int be, .ref m_kind, .ref m_floor, .ref m_volume, .ref m_size, .ref m_faces, .ref m_when, .ref m_ahead, .ref m_order, .ref m_tried, .ref m_chosen, .ref m_forms, .ref m_warmth, .ref m_degrees, .ref m_thousandths, .ref m_longest, .long ab, .long bl])), (m_degrees, .inl (cI, 6, .inl (upd u_degrees pts.toNatClampNeg d))), (m_thousandths, .inl (cI, 6, .inl (upd u_thousandths pts.toNatClampNeg t)))] H := hP
                  have hD : va_D A [(y0, .inr (4, [.int num, .int v_15, .int nw, .int en, .int gl, .int bw, .int sp, .int be, .ref m_kind, .ref m_floor, .ref m_volume, .ref m_size, .ref m_faces, .ref m_when, .ref m_ahead, .ref m_order, .ref m_tried, .ref m_chosen, .ref m_forms, .ref m_warmth, .ref m_degrees, .ref m_thousandths, .ref m_longest, .long ab, .long bl])), (m_degrees, .inl (cI, 6, .inl (upd u_degrees pts.toNatClampNeg d))), (m_thousandths, .inl (cI, 6, .inl (upd u_thousandths pts.toNatClampNeg t)))] := hD
                  refine W.widen (k := 0) (n := 0) (Nat.le_of_ble_eq_true rfl) (Nat.le_of_ble_eq_true rfl) ?_
                  exact fi_i (v_15, upd u_degrees pts.toNatClampNeg d, upd u_thousandths pts.toNatClampNeg t) hx hb hr hlocks hK (hP.sub [0, 1, 2] rfl) (hD.sub [0, 1, 2] (by decide) rfl) hS ⟨(pf_X4_point_25 pts u_degrees u_thousandths d t v_8 v_9 v_11 v_12 v_15 hp0 hp6 c_1 c_2 c_3 c_4 c_5 ev_8 ev_9 c_10 ev_11 ev_12 c_13 c_14 ev_15), (pf_X4_point_26 pts u_degrees u_thousandths d t v_8 v_9 v_11 v_12 v_15 hp0 hp6 c_1 c_2 c_3 c_4 c_5 ev_8 ev_9 c_10 ev_11 ev_12 c_13 c_14 ev_15), (pf_X4_point_27 pts u_degrees u_thousandths d t v_8 v_9 v_11 v_12 v_15 hp0 hp6 c_1 c_2 c_3 c_4 c_5 ev_8 ev_9 c_10 ev_11 ev_12 c_13 c_14 ev_15)⟩ dX4_point_109
                · refine lv_bipush (v := (-4)) hx hb dX4_point_75 (by decide) ?_
                  refine W.widen (k := 0) (n := 0) (Nat.le_of_ble_eq_true rfl) (Nat.le_of_ble_eq_true rfl) ?_
                  exact fi_i (pts, u_degrees, u_thousandths) hx hb hr hlocks hK (hP.sub [0, 1, 2] rfl) (hD.sub [0, 1, 2] (by decide) rfl) hS ⟨(pf_X4_point_28 pts u_degrees u_thousandths d t v_8 v_9 v_11 v_12 hp0 hp6 c_1 c_2 c_3 c_4 c_5 ev_8 ev_9 c_10 ev_11 ev_12 c_13 c_14), (pf_X4_point_29 pts u_degrees u_thousandths d t v_8 v_9 v_11 v_12 hp0 hp6 c_1 c_2 c_3 c_4 c_5 ev_8 ev_9 c_10 ev_11 ev_12 c_13 c_14), (pf_X4_point_30 pts u_degrees u_thousandths d t v_8 v_9 v_11 v_12 hp0 hp6 c_1 c_2 c_3 c_4 c_5 ev_8 ev_9 c_10 ev_11 ev_12 c_13 c_14)⟩ dX4_point_77
              · refine lv_bipush (v := (-2)) hx hb dX4_point_63 (by decide) ?_
                refine W.widen (k := 0) (n := 0) (Nat.le_of_ble_eq_true rfl) (Nat.le_of_ble_eq_true rfl) ?_
                exact fi_i (pts, u_degrees, u_thousandths) hx hb hr hlocks hK (hP.sub [0, 1, 2] rfl) (hD.sub [0, 1, 2] (by decide) rfl) hS ⟨(pf_X4_point_31 pts u_degrees u_thousandths d t v_8 v_9 v_11 v_12 hp0 hp6 c_1 c_2 c_3 c_4 c_5 ev_8 ev_9 c_10 ev_11 ev_12 c_13), (pf_X4_point_32 pts u_degrees u_thousandths d t v_8 v_9 v_11 v_12 hp0 hp6 c_1 c_2 c_3 c_4 c_5 ev_8 ev_9 c_10 ev_11 ev_12 c_13), (pf_X4_point_33 pts u_degrees u_thousandths d t v_8 v_9 v_11 v_12 hp0 hp6 c_1 c_2 c_3 c_4 c_5 ev_8 ev_9 c_10 ev_11 ev_12 c_13)⟩ dX4_point_65
        · refine lv_bipush (v := (-2)) hx hb dX4_point_23 (by decide) ?_
          refine W.widen (k := 0) (n := 0) (Nat.le_of_ble_eq_true rfl) (Nat.le_of_ble_eq_true rfl) ?_
          exact fi_i (pts, u_degrees, u_thousandths) hx hb hr hlocks hK (hP.sub [0, 1, 2] rfl) (hD.sub [0, 1, 2] (by decide) rfl) hS ⟨(pf_X4_point_34 pts u_degrees u_thousandths d t hp0 hp6 c_1 c_2 c_3 c_4), (pf_X4_point_35 pts u_degrees u_thousandths d t hp0 hp6 c_1 c_2 c_3 c_4), (pf_X4_point_36 pts u_degrees u_thousandths d t hp0 hp6 c_1 c_2 c_3 c_4)⟩ dX4_point_25

theorem iw_X4_unpoint_4 : ∀ w ∈ wsX40, w ∈ wsX4_unpoint := fun w h => (List.mem_cons_of_mem _ (List.mem_append_right _ h))
theorem wd_X4_unpoint_1 : (.fieldLink RX4 88 "PourPlanModel" "points" "I" : Cond) ∈ wsX4_unpoint := List.mem_of_getElem? (i := 1) rfl
set_option maxHeartbeats 1000000 in
theorem pf_X4_unpoint_1 (pts : Int32)  : pts = pts := by
  grind
set_option maxHeartbeats 4000000 in
set_option maxRecDepth 100000 in
theorem c_X4_unpoint (l : Launch) (D : va_G) (cI cQ : ClassId) (sz : Nat) (y0 : Nat) (m_kind : Nat) (m_floor : Nat) (m_volume : Nat) (m_size : Nat) (m_faces : Nat) (m_when : Nat) (m_ahead : Nat) (m_order : Nat) (m_tried : Nat) (m_chosen : Nat) (m_forms : Nat) (m_warmth : Nat) (m_degrees : Nat) (m_thousandths : Nat) (m_longest : Nat) (num : Int32) (pts : Int32) (nw : Int32) (en : Int32) (gl : Int32) (bw : Int32) (sp : Int32) (be : Int32) (ab : Int64) (bl : Int64) : CtI l yX4_unpoint wsX4_unpoint 0 0 0 0 [.ref y0] D [(cI, .int), (cQ, .array .int)] [(y0, .inr (4, [.int num, .int pts, .int nw, .int en, .int gl, .int bw, .int sp, .int be, .ref m_kind, .ref m_floor, .ref m_volume, .ref m_size, .ref m_faces, .ref m_when, .ref m_ahead, .ref m_order, .ref m_tried, .ref m_chosen, .ref m_forms, .ref m_warmth, .ref m_degrees, .ref m_thousandths, .ref m_longest, .long ab, .long bl]))] sz (fun (r : Int32) (u : Unit) => r = pts) (fun (u : Unit) => [(y0, .inr (4, [.int num, .int 0, .int nw, .int en, .int gl, .int bw, .int sp, .int be, .ref m_kind, .ref m_floor, .ref m_volume, .ref m_size, .ref m_faces, .ref m_when, .ref m_ahead, .ref m_order, .ref m_tried, .ref m_chosen, .ref m_forms, .ref m_warmth, .ref m_degrees, .ref m_thousandths, .ref m_longest, .long ab, .long bl]))]) := by
  refine Met.ofW (cc := cX4_unpoint) (maxL := 2) (ret := (some .int)) (by decide) rfl ?_
  intro p e s m args below meth c s₁ B hml hv
  obtain ⟨rfl, hsz, hP, hK, hD0, hN⟩ := hv
  have hx := B.exec
  have hb := B.bytes
  have hr := B.returns
  have hts := atoms_spec (ws := wsX4_unpoint) B.pre
  have hown : s.vm.findClass RX4 = some m.cls := findClass_of_methodNamed B.named
  have hlocks := B.notSynchronized
  subst hsz
  have hD := hD0.self (sz := s.heap.size)
  generalize hAe : va_A [(y0, .inr (4, [.int num, .int pts, .int nw, .int en, .int gl, .int bw, .int sp, .int be, .ref m_kind, .ref m_floor, .ref m_volume, .ref m_size, .ref m_faces, .ref m_when, .ref m_ahead, .ref m_order, .ref m_tried, .ref m_chosen, .ref m_forms, .ref m_warmth, .ref m_degrees, .ref m_thousandths, .ref m_longest, .long ab, .long bl]))] s.heap.size = A at hD ⊢
  have hA : ∀ q : Nat, s.heap.size ≤ q → A q := fun q h => by rw [← hAe]; exact Or.inr h
  have hS : va_S A s.heap s.heap [] := va_S.rf
  have hl := lv_entry ([.ref y0]) (n := 2) (Nat.le_of_ble_eq_true rfl)
  rw [lg_entry_eq]
  generalize (lg_sl ([.ref y0]) ++ List.replicate (2 - (lg_sl ([.ref y0])).length) Slot.unset).toArray = ls at hl ⊢
  have hl : lv_has ls 2 [(0, .ref y0)] := hl
  have hP0 := hP
  refine lv_aload_n hx hb dX4_unpoint_0 rfl (lv_at hl 0 rfl) ?_
  refine va_get (D := D) (ci := 4) (v := .int pts) (C := RX4) (T := TX4) (N := 25) hx hb hts iw_X4_unpoint_4 hown hK hP 0 rfl rfl 1 (by decide) (hts _ wd_X4_unpoint_1) (fun _ h9 => h9) rfl dX4_unpoint_1 ?_
  refine lv_istore_n (lv' := [(1, .int pts), (0, .ref y0)]) hx hb dX4_unpoint_4 rfl hl (by decide) rfl (fun ls hl => ?_)
  refine lv_aload_n hx hb dX4_unpoint_5 rfl (lv_at hl 1 rfl) ?_
  refine lv_iconst (v := 0) hx hb dX4_unpoint_6 (by decide) ?_
  refine va_put (D := D) (ci := 4) (v := .int 0) (ty := .int) (C := RX4) (T := TX4) (N := 25) hx hb hts iw_X4_unpoint_4 tyX4 tyX4_ok nmX4 hown hK hP hD hS 0 rfl rfl 1 (by decide) (hts _ wd_X4_unpoint_1) (fun _ h9 => h9) rfl (by decide +kernel) rfl rfl (Nat.le_of_ble_eq_true rfl) dX4_unpoint_7 (fun H locs hP hD hS => ?_)
  have hP : va_P D vwCl [(y0, .inr (4, [.int num, .int 0, .int nw, .int en, .int gl, .int bw, .int sp, .int be, .ref m_kind, .ref m_floor, .ref m_volume, .ref m_size, .ref m_faces, .ref m_when, .ref m_ahead, .ref m_order, .ref m_tried, .ref m_chosen, .ref m_forms, .ref m_warmth, .ref m_degrees, .ref m_thousandths, .ref m_longest, .long ab, .long bl]))] H := hP
  have hD : va_D A [(y0, .inr (4, [.int num, .int 0, .int nw, .int en, .int gl, .int bw, .int sp, .int be, .ref m_kind, .ref m_floor, .ref m_volume, .ref m_size, .ref m_faces, .ref m_when, .ref m_ahead, .ref m_order, .ref m_tried, .ref m_chosen, .ref m_forms, .ref m_warmth, .ref m_degrees, .ref m_thousandths, .ref m_longest, .long ab, .long bl]))] := hD
  refine lv_iload_n hx hb dX4_unpoint_10 rfl (lv_at hl 0 rfl) ?_
  refine W.widen (k := 0) (n := 0) (Nat.le_of_ble_eq_true rfl) (Nat.le_of_ble_eq_true rfl) ?_
  exact fi_i () hx hb hr hlocks hK (hP.sub [0] rfl) (hD.sub [0] (by decide) rfl) hS (pf_X4_unpoint_1 pts) dX4_unpoint_11

theorem iw_X4_table_4 : ∀ w ∈ wsX40, w ∈ wsX4_table := fun w h => (List.mem_cons_of_mem _ (List.mem_append_right _ h))
theorem wd_X4_table_1 : (.fieldLink RX4 88 "PourPlanModel" "points" "I" : Cond) ∈ wsX4_table := List.mem_of_getElem? (i := 1) rfl
theorem wd_X4_table_2 : (.fieldLink RX4 58 "PourPlanModel" "degrees" "[I" : Cond) ∈ wsX4_table := List.mem_of_getElem? (i := 2) rfl
theorem wd_X4_table_3 : (.fieldLink RX4 61 "PourPlanModel" "thousandths" "[I" : Cond) ∈ wsX4_table := List.mem_of_getElem? (i := 3) rfl
set_option maxHeartbeats 1000000 in
theorem pf_X4_table_1 (pts : Int32) (u_degrees : Nat → Int32) (u_thousandths : Nat → Int32) (d : Int32) (n_14 : Nat) (i : Nat) (k : Int32) (gd : Int32) (gh : Int32) (hp0 : 0 ≤ pts) (hp6 : pts ≤ 6) (hdg : okDeg u_degrees pts) (c_1 : 0 ≤ d) (hn_14 : 6 - i < n_14 + 1) (ek : k = nI i) (hi : i ≤ 6) (hgd : gd = prevD u_degrees i) (hrr : hof u_degrees u_thousandths pts d (7 - i) i gd gh = hof u_degrees u_thousandths pts d 7 0 0 0) (c_2 : pts ≤ k) : gh = (if d < 0 then -2 else hof u_degrees u_thousandths pts d 7 0 0 0) := by
  rw [hof_s hi] at hrr
  rw [← hrr]
  subst_vars
  grind
set_option maxHeartbeats 1000000 in
theorem pf_X4_table_2 (pts : Int32) (u_degrees : Nat → Int32) (u_thousandths : Nat → Int32) (d : Int32) (n_14 : Nat) (i : Nat) (k : Int32) (gd : Int32) (gh : Int32) (hp0 : 0 ≤ pts) (hp6 : pts ≤ 6) (hdg : okDeg u_degrees pts) (c_1 : 0 ≤ d) (hn_14 : 6 - i < n_14 + 1) (ek : k = nI i) (hi : i ≤ 6) (hgd : gd = prevD u_degrees i) (hrr : hof u_degrees u_thousandths pts d (7 - i) i gd gh = hof u_degrees u_thousandths pts d 7 0 0 0) (c_2 : ¬ pts ≤ k) : vp_in k 6 := by
  have := tb_lt ek hi hp6 (by assumption)
  subst ek
  exact vp_in_nI this (by omega)
set_option maxHeartbeats 1000000 in
theorem pf_X4_table_3 (pts : Int32) (u_degrees : Nat → Int32) (u_thousandths : Nat → Int32) (d : Int32) (n_14 : Nat) (i : Nat) (k : Int32) (gd : Int32) (gh : Int32) (v_3 : Int32) (hp0 : 0 ≤ pts) (hp6 : pts ≤ 6) (hdg : okDeg u_degrees pts) (c_1 : 0 ≤ d) (hn_14 : 6 - i < n_14 + 1) (ek : k = nI i) (hi : i ≤ 6) (hgd : gd = prevD u_degrees i) (hrr : hof u_degrees u_thousandths pts d (7 - i) i gd gh = hof u_degrees u_thousandths pts d 7 0 0 0) (c_2 : ¬ pts ≤ k) (ev_3 : v_3 = u_degrees k.toNatClampNeg) (c_4 : v_3 ≤ d) : vp_in k 6 := by
  have := tb_lt ek hi hp6 (by assumption)
  subst ek
  exact vp_in_nI this (by omega)
set_option maxHeartbeats 1000000 in
theorem pf_X4_table_4 (pts : Int32) (u_degrees : Nat → Int32) (u_thousandths : Nat → Int32) (d : Int32) (n_14 : Nat) (i : Nat) (k : Int32) (gd : Int32) (gh : Int32) (v_3 : Int32) (v_5 : Int32) (hp0 : 0 ≤ pts) (hp6 : pts ≤ 6) (hdg : okDeg u_degrees pts) (c_1 : 0 ≤ d) (hn_14 : 6 - i < n_14 + 1) (ek : k = nI i) (hi : i ≤ 6) (hgd : gd = prevD u_degrees i) (hrr : hof u_degrees u_thousandths pts d (7 - i) i gd gh = hof u_degrees u_thousandths pts d 7 0 0 0) (c_2 : ¬ pts ≤ k) (ev_3 : v_3 = u_degrees k.toNatClampNeg) (c_4 : v_3 ≤ d) (ev_5 : v_5 = u_degrees k.toNatClampNeg) : vp_in k 6 := by
  have := tb_lt ek hi hp6 (by assumption)
  subst ek
  exact vp_in_nI this (by omega)
set_option maxHeartbeats 1000000 in
theorem pf_X4_table_5 (pts : Int32) (u_degrees : Nat → Int32) (u_thousandths : Nat → Int32) (d : Int32) (n_14 : Nat) (i : Nat) (k : Int32) (gd : Int32) (gh : Int32) (v_3 : Int32) (v_5 : Int32) (v_6 : Int32) (v_7 : Int32) (hp0 : 0 ≤ pts) (hp6 : pts ≤ 6) (hdg : okDeg u_degrees pts) (c_1 : 0 ≤ d) (hn_14 : 6 - i < n_14 + 1) (ek : k = nI i) (hi : i ≤ 6) (hgd : gd = prevD u_degrees i) (hrr : hof u_degrees u_thousandths pts d (7 - i) i gd gh = hof u_degrees u_thousandths pts d 7 0 0 0) (c_2 : ¬ pts ≤ k) (ev_3 : v_3 = u_degrees k.toNatClampNeg) (c_4 : v_3 ≤ d) (ev_5 : v_5 = u_degrees k.toNatClampNeg) (ev_6 : v_6 = u_thousandths k.toNatClampNeg) (ev_7 : v_7 = k + 1) : 6 - (i + 1) < n_14 := by
  have := tb_lt ek hi hp6 (by assumption)
  omega
set_option maxHeartbeats 1000000 in
theorem pf_X4_table_6 (pts : Int32) (u_degrees : Nat → Int32) (u_thousandths : Nat → Int32) (d : Int32) (n_14 : Nat) (i : Nat) (k : Int32) (gd : Int32) (gh : Int32) (v_3 : Int32) (v_5 : Int32) (v_6 : Int32) (v_7 : Int32) (hp0 : 0 ≤ pts) (hp6 : pts ≤ 6) (hdg : okDeg u_degrees pts) (c_1 : 0 ≤ d) (hn_14 : 6 - i < n_14 + 1) (ek : k = nI i) (hi : i ≤ 6) (hgd : gd = prevD u_degrees i) (hrr : hof u_degrees u_thousandths pts d (7 - i) i gd gh = hof u_degrees u_thousandths pts d 7 0 0 0) (c_2 : ¬ pts ≤ k) (ev_3 : v_3 = u_degrees k.toNatClampNeg) (c_4 : v_3 ≤ d) (ev_5 : v_5 = u_degrees k.toNatClampNeg) (ev_6 : v_6 = u_thousandths k.toNatClampNeg) (ev_7 : v_7 = k + 1) : v_7 = nI (i + 1) := by
  subst_vars
  exact nI_1 i
set_option maxHeartbeats 1000000 in
theorem pf_X4_table_7 (pts : Int32) (u_degrees : Nat → Int32) (u_thousandths : Nat → Int32) (d : Int32) (n_14 : Nat) (i : Nat) (k : Int32) (gd : Int32) (gh : Int32) (v_3 : Int32) (v_5 : Int32) (v_6 : Int32) (v_7 : Int32) (hp0 : 0 ≤ pts) (hp6 : pts ≤ 6) (hdg : okDeg u_degrees pts) (c_1 : 0 ≤ d) (hn_14 : 6 - i < n_14 + 1) (ek : k = nI i) (hi : i ≤ 6) (hgd : gd = prevD u_degrees i) (hrr : hof u_degrees u_thousandths pts d (7 - i) i gd gh = hof u_degrees u_thousandths pts d 7 0 0 0) (c_2 : ¬ pts ≤ k) (ev_3 : v_3 = u_degrees k.toNatClampNeg) (c_4 : v_3 ≤ d) (ev_5 : v_5 = u_degrees k.toNatClampNeg) (ev_6 : v_6 = u_thousandths k.toNatClampNeg) (ev_7 : v_7 = k + 1) : (i + 1) ≤ 6 := by
  have := tb_lt ek hi hp6 (by assumption)
  omega
set_option maxHeartbeats 1000000 in
theorem pf_X4_table_8 (pts : Int32) (u_degrees : Nat → Int32) (u_thousandths : Nat → Int32) (d : Int32) (n_14 : Nat) (i : Nat) (k : Int32) (gd : Int32) (gh : Int32) (v_3 : Int32) (v_5 : Int32) (v_6 : Int32) (v_7 : Int32) (hp0 : 0 ≤ pts) (hp6 : pts ≤ 6) (hdg : okDeg u_degrees pts) (c_1 : 0 ≤ d) (hn_14 : 6 - i < n_14 + 1) (ek : k = nI i) (hi : i ≤ 6) (hgd : gd = prevD u_degrees i) (hrr : hof u_degrees u_thousandths pts d (7 - i) i gd gh = hof u_degrees u_thousandths pts d 7 0 0 0) (c_2 : ¬ pts ≤ k) (ev_3 : v_3 = u_degrees k.toNatClampNeg) (c_4 : v_3 ≤ d) (ev_5 : v_5 = u_degrees k.toNatClampNeg) (ev_6 : v_6 = u_thousandths k.toNatClampNeg) (ev_7 : v_7 = k + 1) : v_5 = prevD u_degrees (i + 1) := by
  have hc : k.toNatClampNeg = i := nI_cl ek (by omega)
  simp only [hc] at *
  subst_vars
  rfl
set_option maxHeartbeats 1000000 in
theorem pf_X4_table_9 (pts : Int32) (u_degrees : Nat → Int32) (u_thousandths : Nat → Int32) (d : Int32) (n_14 : Nat) (i : Nat) (k : Int32) (gd : Int32) (gh : Int32) (v_3 : Int32) (v_5 : Int32) (v_6 : Int32) (v_7 : Int32) (hp0 : 0 ≤ pts) (hp6 : pts ≤ 6) (hdg : okDeg u_degrees pts) (c_1 : 0 ≤ d) (hn_14 : 6 - i < n_14 + 1) (ek : k = nI i) (hi : i ≤ 6) (hgd : gd = prevD u_degrees i) (hrr : hof u_degrees u_thousandths pts d (7 - i) i gd gh = hof u_degrees u_thousandths pts d 7 0 0 0) (c_2 : ¬ pts ≤ k) (ev_3 : v_3 = u_degrees k.toNatClampNeg) (c_4 : v_3 ≤ d) (ev_5 : v_5 = u_degrees k.toNatClampNeg) (ev_6 : v_6 = u_thousandths k.toNatClampNeg) (ev_7 : v_7 = k + 1) : hof u_degrees u_thousandths pts d (7 - (i + 1)) (i + 1) v_5 v_6 = hof u_degrees u_thousandths pts d 7 0 0 0 := by
  have hc : k.toNatClampNeg = i := nI_cl ek (by omega)
  rw [hof_s hi] at hrr
  rw [← hrr]
  simp only [hc] at *
  subst_vars
  grind
set_option maxHeartbeats 1000000 in
theorem pf_X4_table_10 (pts : Int32) (u_degrees : Nat → Int32) (u_thousandths : Nat → Int32) (d : Int32) (n_14 : Nat) (i : Nat) (k : Int32) (gd : Int32) (gh : Int32) (v_3 : Int32) (v_8 : Int32) (hp0 : 0 ≤ pts) (hp6 : pts ≤ 6) (hdg : okDeg u_degrees pts) (c_1 : 0 ≤ d) (hn_14 : 6 - i < n_14 + 1) (ek : k = nI i) (hi : i ≤ 6) (hgd : gd = prevD u_degrees i) (hrr : hof u_degrees u_thousandths pts d (7 - i) i gd gh = hof u_degrees u_thousandths pts d 7 0 0 0) (c_2 : ¬ pts ≤ k) (ev_3 : v_3 = u_degrees k.toNatClampNeg) (c_4 : ¬ v_3 ≤ d) (ev_8 : v_8 = d - gd) : vp_in k 6 := by
  have := tb_lt ek hi hp6 (by assumption)
  subst ek
  exact vp_in_nI this (by omega)
set_option maxHeartbeats 1000000 in
theorem pf_X4_table_11 (pts : Int32) (u_degrees : Nat → Int32) (u_thousandths : Nat → Int32) (d : Int32) (n_14 : Nat) (i : Nat) (k : Int32) (gd : Int32) (gh : Int32) (v_3 : Int32) (v_8 : Int32) (v_9 : Int32) (v_10 : Int32) (v_11 : Int32) (hp0 : 0 ≤ pts) (hp6 : pts ≤ 6) (hdg : okDeg u_degrees pts) (c_1 : 0 ≤ d) (hn_14 : 6 - i < n_14 + 1) (ek : k = nI i) (hi : i ≤ 6) (hgd : gd = prevD u_degrees i) (hrr : hof u_degrees u_thousandths pts d (7 - i) i gd gh = hof u_degrees u_thousandths pts d 7 0 0 0) (c_2 : ¬ pts ≤ k) (ev_3 : v_3 = u_degrees k.toNatClampNeg) (c_4 : ¬ v_3 ≤ d) (ev_8 : v_8 = d - gd) (ev_9 : v_9 = u_thousandths k.toNatClampNeg) (ev_10 : v_10 = v_9 - gh) (ev_11 : v_11 = v_8 * v_10) : vp_in k 6 := by
  have := tb_lt ek hi hp6 (by assumption)
  subst ek
  exact vp_in_nI this (by omega)
set_option maxHeartbeats 1000000 in
theorem pf_X4_table_12 (pts : Int32) (u_degrees : Nat → Int32) (u_thousandths : Nat → Int32) (d : Int32) (n_14 : Nat) (i : Nat) (k : Int32) (gd : Int32) (gh : Int32) (v_3 : Int32) (v_8 : Int32) (v_9 : Int32) (v_10 : Int32) (v_11 : Int32) (v_12 : Int32) (v_13 : Int32) (hp0 : 0 ≤ pts) (hp6 : pts ≤ 6) (hdg : okDeg u_degrees pts) (c_1 : 0 ≤ d) (hn_14 : 6 - i < n_14 + 1) (ek : k = nI i) (hi : i ≤ 6) (hgd : gd = prevD u_degrees i) (hrr : hof u_degrees u_thousandths pts d (7 - i) i gd gh = hof u_degrees u_thousandths pts d 7 0 0 0) (c_2 : ¬ pts ≤ k) (ev_3 : v_3 = u_degrees k.toNatClampNeg) (c_4 : ¬ v_3 ≤ d) (ev_8 : v_8 = d - gd) (ev_9 : v_9 = u_thousandths k.toNatClampNeg) (ev_10 : v_10 = v_9 - gh) (ev_11 : v_11 = v_8 * v_10) (ev_12 : v_12 = u_degrees k.toNatClampNeg) (ev_13 : v_13 = v_12 - gd) : ¬ v_13 = 0 := by
  have hc : k.toNatClampNeg = i := nI_cl ek (by omega)
  have h9 := hdg i (tb_cl ek (by omega) (by assumption))
  simp only [hc] at *
  grind
set_option maxHeartbeats 1000000 in
theorem pf_X4_table_13 (pts : Int32) (u_degrees : Nat → Int32) (u_thousandths : Nat → Int32) (d : Int32) (n_14 : Nat) (i : Nat) (k : Int32) (gd : Int32) (gh : Int32) (v_3 : Int32) (v_8 : Int32) (v_9 : Int32) (v_10 : Int32) (v_11 : Int32) (v_12 : Int32) (v_13 : Int32) (v_14 : Int32) (v_15 : Int32) (hp0 : 0 ≤ pts) (hp6 : pts ≤ 6) (hdg : okDeg u_degrees pts) (c_1 : 0 ≤ d) (hn_14 : 6 - i < n_14 + 1) (ek : k = nI i) (hi : i ≤ 6) (hgd : gd = prevD u_degrees i) (hrr : hof u_degrees u_thousandths pts d (7 - i) i gd gh = hof u_degrees u_thousandths pts d 7 0 0 0) (c_2 : ¬ pts ≤ k) (ev_3 : v_3 = u_degrees k.toNatClampNeg) (c_4 : ¬ v_3 ≤ d) (ev_8 : v_8 = d - gd) (ev_9 : v_9 = u_thousandths k.toNatClampNeg) (ev_10 : v_10 = v_9 - gh) (ev_11 : v_11 = v_8 * v_10) (ev_12 : v_12 = u_degrees k.toNatClampNeg) (ev_13 : v_13 = v_12 - gd) (ev_14 : v_14 = v_11 / v_13) (ev_15 : v_15 = gh + v_14) : v_15 = (if d < 0 then -2 else hof u_degrees u_thousandths pts d 7 0 0 0) := by
  have hc : k.toNatClampNeg = i := nI_cl ek (by omega)
  have h9 := hdg i (tb_cl ek (by omega) (by assumption))
  rw [hof_s hi] at hrr
  rw [← hrr]
  simp only [hc] at *
  have h8 : ¬ (pts ≤ nI i ∨ 6 ≤ nI i) := tb_no ek hi hp6 (by assumption)
  rw [if_neg (by grind), if_neg h8, if_pos (by grind)]
  subst_vars
  rw [Int32.mul_comm]
set_option maxHeartbeats 1000000 in
theorem pf_X4_table_14 (pts : Int32) (u_degrees : Nat → Int32) (d : Int32) (hp0 : 0 ≤ pts) (hp6 : pts ≤ 6) (hdg : okDeg u_degrees pts) (c_1 : 0 ≤ d) : (0 : Int32) = nI 0 := by
  exact nI_0.symm
set_option maxHeartbeats 1000000 in
theorem pf_X4_table_15 (pts : Int32) (u_degrees : Nat → Int32) (d : Int32) (hp0 : 0 ≤ pts) (hp6 : pts ≤ 6) (hdg : okDeg u_degrees pts) (c_1 : 0 ≤ d) : 0 ≤ 6 := by
  omega
set_option maxHeartbeats 1000000 in
theorem pf_X4_table_16 (pts : Int32) (u_degrees : Nat → Int32) (d : Int32) (hp0 : 0 ≤ pts) (hp6 : pts ≤ 6) (hdg : okDeg u_degrees pts) (c_1 : 0 ≤ d) : (0 : Int32) = prevD u_degrees 0 := by
  rfl
set_option maxHeartbeats 1000000 in
theorem pf_X4_table_17 (pts : Int32) (u_degrees : Nat → Int32) (u_thousandths : Nat → Int32) (d : Int32) (hp0 : 0 ≤ pts) (hp6 : pts ≤ 6) (hdg : okDeg u_degrees pts) (c_1 : 0 ≤ d) : hof u_degrees u_thousandths pts d (7 - 0) 0 (0 : Int32) (0 : Int32) = hof u_degrees u_thousandths pts d 7 0 0 0 := by
  rfl
set_option maxHeartbeats 1000000 in
theorem pf_X4_table_18 (pts : Int32) (u_degrees : Nat → Int32) (u_thousandths : Nat → Int32) (d : Int32) (hp0 : 0 ≤ pts) (hp6 : pts ≤ 6) (hdg : okDeg u_degrees pts) (c_1 : ¬ 0 ≤ d) : (-2 : Int32) = (if d < 0 then -2 else hof u_degrees u_thousandths pts d 7 0 0 0) := by
  grind
set_option maxHeartbeats 4000000 in
set_option maxRecDepth 100000 in
theorem c_X4_table (l : Launch) (D : va_G) (cI cQ : ClassId) (sz : Nat) (y0 : Nat) (m_degrees : Nat) (m_thousandths : Nat) (m_kind : Nat) (m_floor : Nat) (m_volume : Nat) (m_size : Nat) (m_faces : Nat) (m_when : Nat) (m_ahead : Nat) (m_order : Nat) (m_tried : Nat) (m_chosen : Nat) (m_forms : Nat) (m_warmth : Nat) (m_longest : Nat) (num : Int32) (pts : Int32) (nw : Int32) (en : Int32) (gl : Int32) (bw : Int32) (sp : Int32) (be : Int32) (ab : Int64) (bl : Int64) (u_degrees : Nat → Int32) (u_thousandths : Nat → Int32) (d : Int32) (hp0 : 0 ≤ pts) (hp6 : pts ≤ 6) (hdg : okDeg u_degrees pts) : CtI l yX4_table wsX4_table 0 0 0 0 [.ref y0, .int d] D [(cI, .int), (cQ, .array .int)] [(y0, .inr (4, [.int num, .int pts, .int nw, .int en, .int gl, .int bw, .int sp, .int be, .ref m_kind, .ref m_floor, .ref m_volume, .ref m_size, .ref m_faces, .ref m_when, .ref m_ahead, .ref m_order, .ref m_tried, .ref m_chosen, .ref m_forms, .ref m_warmth, .ref m_degrees, .ref m_thousandths, .ref m_longest, .long ab, .long bl])), (m_degrees, .inl (cI, 6, .inl u_degrees)), (m_thousandths, .inl (cI, 6, .inl u_thousandths))] sz (fun (r : Int32) (u : Unit) => r = (if d < 0 then -2 else hof u_degrees u_thousandths pts d 7 0 0 0)) (fun (u : Unit) => [(y0, .inr (4, [.int num, .int pts, .int nw, .int en, .int gl, .int bw, .int sp, .int be, .ref m_kind, .ref m_floor, .ref m_volume, .ref m_size, .ref m_faces, .ref m_when, .ref m_ahead, .ref m_order, .ref m_tried, .ref m_chosen, .ref m_forms, .ref m_warmth, .ref m_degrees, .ref m_thousandths, .ref m_longest, .long ab, .long bl])), (m_degrees, .inl (cI, 6, .inl u_degrees)), (m_thousandths, .inl (cI, 6, .inl u_thousandths))]) := by
  refine Met.ofW (cc := cX4_table) (maxL := 5) (ret := (some .int)) (by decide) rfl ?_
  intro p e s m args below meth c s₁ B hml hv
  obtain ⟨rfl, hsz, hP, hK, hD0, hN⟩ := hv
  have hx := B.exec
  have hb := B.bytes
  have hr := B.returns
  have hts := atoms_spec (ws := wsX4_table) B.pre
  have hown : s.vm.findClass RX4 = some m.cls := findClass_of_methodNamed B.named
  have hlocks := B.notSynchronized
  subst hsz
  have hD := hD0.self (sz := s.heap.size)
  generalize hAe : va_A [(y0, .inr (4, [.int num, .int pts, .int nw, .int en, .int gl, .int bw, .int sp, .int be, .ref m_kind, .ref m_floor, .ref m_volume, .ref m_size, .ref m_faces, .ref m_when, .ref m_ahead, .ref m_order, .ref m_tried, .ref m_chosen, .ref m_forms, .ref m_warmth, .ref m_degrees, .ref m_thousandths, .ref m_longest, .long ab, .long bl])), (m_degrees, .inl (cI, 6, .inl u_degrees)), (m_thousandths, .inl (cI, 6, .inl u_thousandths))] s.heap.size = A at hD ⊢
  have hA : ∀ q : Nat, s.heap.size ≤ q → A q := fun q h => by rw [← hAe]; exact Or.inr h
  have hS : va_S A s.heap s.heap [] := va_S.rf
  have hl := lv_entry ([.ref y0, .int d]) (n := 5) (Nat.le_of_ble_eq_true rfl)
  rw [lg_entry_eq]
  generalize (lg_sl ([.ref y0, .int d]) ++ List.replicate (5 - (lg_sl ([.ref y0, .int d])).length) Slot.unset).toArray = ls at hl ⊢
  have hl : lv_has ls 5 [(0, .ref y0), (1, .int d)] := hl
  refine W_gen (fun GW hIn hOut => ?_)
  refine hIn _ _ _ _ _ ?_
  have hP0 := hP
  refine lv_iload_n hx hb dX4_table_0 rfl (lv_at hl 1 rfl) ?_
  refine lv_if_ge (tgt := 7) hx hb dX4_table_1 (by decide) (fun c_1 => ?_) (fun c_1 => ?_)
  · refine lv_iconst (v := 0) hx hb dX4_table_7 (by decide) ?_
    refine lv_istore_n (lv' := [(2, .int 0), (0, .ref y0), (1, .int d)]) hx hb dX4_table_8 rfl hl (by decide) rfl (fun ls hl => ?_)
    refine lv_iconst (v := 0) hx hb dX4_table_9 (by decide) ?_
    refine lv_istore_n (lv' := [(3, .int 0), (2, .int 0), (0, .ref y0), (1, .int d)]) hx hb dX4_table_10 rfl hl (by decide) rfl (fun ls hl => ?_)
    refine lv_iconst (v := 0) hx hb dX4_table_11 (by decide) ?_
    refine lv_istore (lv' := [(4, .int 0), (3, .int 0), (2, .int 0), (0, .ref y0), (1, .int d)]) hx hb dX4_table_12 hl (by decide) rfl (fun ls hl => ?_)
    have lp_14 : ∀ (n : Nat) (i : Nat) (k : Int32) (gd : Int32) (gh : Int32) (H : Heap) (locs : List Loc) (ls : Array Slot), 6 - i < n → (k = nI i) → (i ≤ 6) → (gd = prevD u_degrees i) → (hof u_degrees u_thousandths pts d (7 - i) i gd gh = hof u_degrees u_thousandths pts d 7 0 0 0) → va_P D vwCl [(y0, .inr (4, [.int num, .int pts, .int nw, .int en, .int gl, .int bw, .int sp, .int be, .ref m_kind, .ref m_floor, .ref m_volume, .ref m_size, .ref m_faces, .ref m_when, .ref m_ahead, .ref m_order, .ref m_tried, .ref m_chosen, .ref m_forms, .ref m_warmth, .ref m_degrees, .ref m_thousandths, .ref m_longest, .long ab, .long bl])), (m_degrees, .inl (cI, 6, .inl u_degrees)), (m_thousandths, .inl (cI, 6, .inl u_thousandths))] H → va_D A [(y0, .inr (4, [.int num, .int pts, .int nw, .int en, .int gl, .int bw, .int sp, .int be, .ref m_kind, .ref m_floor, .ref m_volume, .ref m_size, .ref m_faces, .ref m_when, .ref m_ahead, .ref m_order, .ref m_tried, .ref m_chosen, .ref m_forms, .ref m_warmth, .ref m_degrees, .ref m_thousandths, .ref m_longest, .long ab, .long bl])), (m_degrees, .inl (cI, 6, .inl u_degrees)), (m_thousandths, .inl (cI, 6, .inl u_thousandths))] → va_S A s.heap H locs → lv_has ls 5 [(0, .ref y0), (1, .int d), (2, .int gd), (3, .int gh), (4, .int k)] → GW H locs 0 0 (F0 m 14 ls []) := by
      intro n_14
      induction n_14 with
      | zero => intro i k gd gh H locs ls hn_14; exact absurd hn_14 (Nat.not_lt_zero _)
      | succ n_14 ih_14 =>
        intro i k gd gh H locs ls hn_14 ek hi hgd hrr hP hD hS hl
        refine hIn _ _ _ _ _ ?_
        refine lv_iload hx hb dX4_table_14 (lv_at hl 4 rfl) ?_
        refine lv_aload_n hx hb dX4_table_16 rfl (lv_at hl 0 rfl) ?_
        refine va_get (D := D) (ci := 4) (v := .int pts) (C := RX4) (T := TX4) (N := 25) hx hb hts iw_X4_table_4 hown hK hP 0 rfl rfl 1 (by decide) (hts _ wd_X4_table_1) (fun _ h9 => h9) rfl dX4_table_17 ?_
        refine lv_icmp_ge (tgt := 82) hx hb dX4_table_20 (by decide) (fun c_2 => ?_) (fun c_2 => ?_)
        · refine lv_iload_n hx hb dX4_table_82 rfl (lv_at hl 3 rfl) ?_
          refine W.widen (k := 0) (n := 0) (Nat.le_of_ble_eq_true rfl) (Nat.le_of_ble_eq_true rfl) ?_
          exact fi_i () hx hb hr hlocks hK (hP.sub [0, 1, 2] rfl) (hD.sub [0, 1, 2] (by decide) rfl) hS (pf_X4_table_1 pts u_degrees u_thousandths d n_14 i k gd gh hp0 hp6 hdg c_1 hn_14 ek hi hgd hrr c_2) dX4_table_83
        · refine lv_iload_n hx hb dX4_table_23 rfl (lv_at hl 1 rfl) ?_
          refine lv_aload_n hx hb dX4_table_24 rfl (lv_at hl 0 rfl) ?_
          refine va_get (D := D) (ci := 4) (v := .ref m_degrees) (C := RX4) (T := TX4) (N := 25) hx hb hts iw_X4_table_4 hown hK hP 0 rfl rfl 20 (by decide) (hts _ wd_X4_table_2) (fun _ h9 => h9) rfl dX4_table_25 ?_
          refine lv_iload hx hb dX4_table_28 (lv_at hl 4 rfl) ?_
          refine va_iald hx hb hK hP 1 0 rfl rfl (pf_X4_table_2 pts u_degrees u_thousandths d n_14 i k gd gh hp0 hp6 hdg c_1 hn_14 ek hi hgd hrr c_2) dX4_table_30 ?_
          refine lv_topi (fun v_3 ev_3 => ?_)
          refine lv_icmp_ge (tgt := 60) hx hb dX4_table_31 (by decide) (fun c_4 => ?_) (fun c_4 => ?_)
          · refine lv_aload_n hx hb dX4_table_60 rfl (lv_at hl 0 rfl) ?_
            refine va_get (D := D) (ci := 4) (v := .ref m_degrees) (C := RX4) (T := TX4) (N := 25) hx hb hts iw_X4_table_4 hown hK hP 0 rfl rfl 20 (by decide) (hts _ wd_X4_table_2) (fun _ h9 => h9) rfl dX4_table_61 ?_
            refine lv_iload hx hb dX4_table_64 (lv_at hl 4 rfl) ?_
            refine va_iald hx hb hK hP 1 0 rfl rfl (pf_X4_table_3 pts u_degrees u_thousandths d n_14 i k gd gh v_3 hp0 hp6 hdg c_1 hn_14 ek hi hgd hrr c_2 ev_3 c_4) dX4_table_66 ?_
            refine lv_topi (fun v_5 ev_5 => ?_)
            refine lv_istore_n (lv' := [(2, .int v_5), (0, .ref y0), (1, .int d), (3, .int gh), (4, .int k)]) hx hb dX4_table_67 rfl hl (by decide) rfl (fun ls hl => ?_)
            refine lv_aload_n hx hb dX4_table_68 rfl (lv_at hl 1 rfl) ?_
            refine va_get (D := D) (ci := 4) (v := .ref m_thousandths) (C := RX4) (T := TX4) (N := 25) hx hb hts iw_X4_table_4 hown hK hP 0 rfl rfl 21 (by decide) (hts _ wd_X4_table_3) (fun _ h9 => h9) rfl dX4_table_69 ?_
            refine lv_iload hx hb dX4_table_72 (lv_at hl 4 rfl) ?_
            refine va_iald hx hb hK hP 2 0 rfl rfl (pf_X4_table_4 pts u_degrees u_thousandths d n_14 i k gd gh v_3 v_5 hp0 hp6 hdg c_1 hn_14 ek hi hgd hrr c_2 ev_3 c_4 ev_5) dX4_table_74 ?_
            refine lv_topi (fun v_6 ev_6 => ?_)
            refine lv_istore_n (lv' := [(3, .int v_6), (2, .int v_5), (0, .ref y0), (1, .int d), (4, .int k)]) hx hb dX4_table_75 rfl hl (by decide) rfl (fun ls hl => ?_)
            obtain ⟨v_7, ev_7⟩ : ∃ y : Int32, y = k + 1 := ⟨_, rfl⟩
            refine lv_iinc (v := v_7) (lv' := [(4, .int v_7), (3, .int v_6), (2, .int v_5), (0, .ref y0), (1, .int d)]) hx hb dX4_table_76 hl (k := 4) rfl (by rw [ev_7]; rfl) (by decide) rfl (fun ls hl => ?_)
            refine lv_goto (tgt := 14) hx hb dX4_table_79 (by decide) ?_
            exact hOut _ _ _ _ _ (ih_14 (i + 1) v_7 v_5 v_6 _ _ _ (pf_X4_table_5 pts u_degrees u_thousandths d n_14 i k gd gh v_3 v_5 v_6 v_7 hp0 hp6 hdg c_1 hn_14 ek hi hgd hrr c_2 ev_3 c_4 ev_5 ev_6 ev_7) (pf_X4_table_6 pts u_degrees u_thousandths d n_14 i k gd gh v_3 v_5 v_6 v_7 hp0 hp6 hdg c_1 hn_14 ek hi hgd hrr c_2 ev_3 c_4 ev_5 ev_6 ev_7) (pf_X4_table_7 pts u_degrees u_thousandths d n_14 i k gd gh v_3 v_5 v_6 v_7 hp0 hp6 hdg c_1 hn_14 ek hi hgd hrr c_2 ev_3 c_4 ev_5 ev_6 ev_7) (pf_X4_table_8 pts u_degrees u_thousandths d n_14 i k gd gh v_3 v_5 v_6 v_7 hp0 hp6 hdg c_1 hn_14 ek hi hgd hrr c_2 ev_3 c_4 ev_5 ev_6 ev_7) (pf_X4_table_9 pts u_degrees u_thousandths d n_14 i k gd gh v_3 v_5 v_6 v_7 hp0 hp6 hdg c_1 hn_14 ek hi hgd hrr c_2 ev_3 c_4 ev_5 ev_6 ev_7) (hP.sub [0, 1, 2] rfl) (hD.sub [0, 1, 2] (by decide) rfl) hS (lv_sub hl [3, 4, 2, 1, 0] rfl))
          · refine lv_iload_n hx hb dX4_table_34 rfl (lv_at hl 3 rfl) ?_
            refine lv_iload_n hx hb dX4_table_35 rfl (lv_at hl 1 rfl) ?_
            refine lv_iload_n hx hb dX4_table_36 rfl (lv_at hl 2 rfl) ?_
            refine lv_isub hx hb dX4_table_37 ?_
            refine lv_topi (fun v_8 ev_8 => ?_)
            refine lv_aload_n hx hb dX4_table_38 rfl (lv_at hl 0 rfl) ?_
            refine va_get (D := D) (ci := 4) (v := .ref m_thousandths) (C := RX4) (T := TX4) (N := 25) hx hb hts iw_X4_table_4 hown hK hP 0 rfl rfl 21 (by decide) (hts _ wd_X4_table_3) (fun _ h9 => h9) rfl dX4_table_39 ?_
            refine lv_iload hx hb dX4_table_42 (lv_at hl 4 rfl) ?_
            refine va_iald hx hb hK hP 2 0 rfl rfl (pf_X4_table_10 pts u_degrees u_thousandths d n_14 i k gd gh v_3 v_8 hp0 hp6 hdg c_1 hn_14 ek hi hgd hrr c_2 ev_3 c_4 ev_8) dX4_table_44 ?_
            refine lv_topi (fun v_9 ev_9 => ?_)
            refine lv_iload_n hx hb dX4_table_45 rfl (lv_at hl 3 rfl) ?_
            refine lv_isub hx hb dX4_table_46 ?_
            refine lv_topi (fun v_10 ev_10 => ?_)
            refine lv_imul hx hb dX4_table_47 ?_
            refine lv_topi (fun v_11 ev_11 => ?_)
            refine lv_aload_n hx hb dX4_table_48 rfl (lv_at hl 0 rfl) ?_
            refine va_get (D := D) (ci := 4) (v := .ref m_degrees) (C := RX4) (T := TX4) (N := 25) hx hb hts iw_X4_table_4 hown hK hP 0 rfl rfl 20 (by decide) (hts _ wd_X4_table_2) (fun _ h9 => h9) rfl dX4_table_49 ?_
            refine lv_iload hx hb dX4_table_52 (lv_at hl 4 rfl) ?_
            refine va_iald hx hb hK hP 1 0 rfl rfl (pf_X4_table_11 pts u_degrees u_thousandths d n_14 i k gd gh v_3 v_8 v_9 v_10 v_11 hp0 hp6 hdg c_1 hn_14 ek hi hgd hrr c_2 ev_3 c_4 ev_8 ev_9 ev_10 ev_11) dX4_table_54 ?_
            refine lv_topi (fun v_12 ev_12 => ?_)
            refine lv_iload_n hx hb dX4_table_55 rfl (lv_at hl 2 rfl) ?_
            refine lv_isub hx hb dX4_table_56 ?_
            refine lv_topi (fun v_13 ev_13 => ?_)
            refine lv_idiv hx hb dX4_table_57 (pf_X4_table_12 pts u_degrees u_thousandths d n_14 i k gd gh v_3 v_8 v_9 v_10 v_11 v_12 v_13 hp0 hp6 hdg c_1 hn_14 ek hi hgd hrr c_2 ev_3 c_4 ev_8 ev_9 ev_10 ev_11 ev_12 ev_13) ?_
            refine lv_topi (fun v_14 ev_14 => ?_)
            refine lv_iadd hx hb dX4_table_58 ?_
            refine lv_topi (fun v_15 ev_15 => ?_)
            refine W.widen (k := 0) (n := 0) (Nat.le_of_ble_eq_true rfl) (Nat.le_of_ble_eq_true rfl) ?_
            exact fi_i () hx hb hr hlocks hK (hP.sub [0, 1, 2] rfl) (hD.sub [0, 1, 2] (by decide) rfl) hS (pf_X4_table_13 pts u_degrees u_thousandths d n_14 i k gd gh v_3 v_8 v_9 v_10 v_11 v_12 v_13 v_14 v_15 hp0 hp6 hdg c_1 hn_14 ek hi hgd hrr c_2 ev_3 c_4 ev_8 ev_9 ev_10 ev_11 ev_12 ev_13 ev_14 ev_15) dX4_table_59
    exact hOut _ _ _ _ _ (lp_14 (6 - 0 + 1) 0 0 0 0 _ _ _ (Nat.lt_succ_self _) (pf_X4_table_14 pts u_degrees d hp0 hp6 hdg c_1) (pf_X4_table_15 pts u_degrees d hp0 hp6 hdg c_1) (pf_X4_table_16 pts u_degrees d hp0 hp6 hdg c_1) (pf_X4_table_17 pts u_degrees u_thousandths d hp0 hp6 hdg c_1) (hP.sub [0, 1, 2] rfl) (hD.sub [0, 1, 2] (by decide) rfl) hS (lv_sub hl [3, 4, 2, 1, 0] rfl))
  · refine lv_bipush (v := (-2)) hx hb dX4_table_4 (by decide) ?_
    refine W.widen (k := 0) (n := 0) (Nat.le_of_ble_eq_true rfl) (Nat.le_of_ble_eq_true rfl) ?_
    exact fi_i () hx hb hr hlocks hK (hP.sub [0, 1, 2] rfl) (hD.sub [0, 1, 2] (by decide) rfl) hS (pf_X4_table_18 pts u_degrees u_thousandths d hp0 hp6 hdg c_1) dX4_table_6

theorem iw_X4_hardness_4 : ∀ w ∈ wsX40, w ∈ wsX4_hardness := fun w h => (List.mem_cons_of_mem _ (List.mem_append_right _ h))
theorem wd_X4_hardness_1 : (.fieldLink RX4 55 "PourPlanModel" "warmth" "[I" : Cond) ∈ wsX4_hardness := List.mem_of_getElem? (i := 1) rfl
theorem wd_X4_hardness_2 : (.fieldLink RX4 85 "PourPlanModel" "base" "I" : Cond) ∈ wsX4_hardness := List.mem_of_getElem? (i := 2) rfl
set_option maxHeartbeats 1000000 in
theorem pf_X4_hardness_1 (pts : Int32) (bw : Int32) (u_warmth : Nat → Int32) (u_degrees : Nat → Int32) (po : Int32) (day : Int32) (n_5 : Nat) (k : Int32) (ks : Int32) (hp0 : 0 ≤ pts) (hp6 : pts ≤ 6) (hdg : okDeg u_degrees pts) (hpo : 0 ≤ po) (hp40 : po ≤ 40) (hda : day ≤ 40) (hn_5 : 40 - k.toNatClampNeg < n_5 + 1) (h0k : po ≤ k) (h1k : k ≤ 40) (hsu : ks = sumD u_warmth bw po (k.toNatClampNeg - po.toNatClampNeg)) (hkd : po ≤ day → k ≤ day) (hk9 : day < po → k = po) (c_1 : day ≤ k) : 0 ≤ pts := by
  grind
set_option maxHeartbeats 1000000 in
theorem pf_X4_hardness_2 (pts : Int32) (bw : Int32) (u_warmth : Nat → Int32) (u_degrees : Nat → Int32) (po : Int32) (day : Int32) (n_5 : Nat) (k : Int32) (ks : Int32) (hp0 : 0 ≤ pts) (hp6 : pts ≤ 6) (hdg : okDeg u_degrees pts) (hpo : 0 ≤ po) (hp40 : po ≤ 40) (hda : day ≤ 40) (hn_5 : 40 - k.toNatClampNeg < n_5 + 1) (h0k : po ≤ k) (h1k : k ≤ 40) (hsu : ks = sumD u_warmth bw po (k.toNatClampNeg - po.toNatClampNeg)) (hkd : po ≤ day → k ≤ day) (hk9 : day < po → k = po) (c_1 : day ≤ k) : pts ≤ 6 := by
  grind
set_option maxHeartbeats 1000000 in
theorem pf_X4_hardness_3 (pts : Int32) (bw : Int32) (u_warmth : Nat → Int32) (u_degrees : Nat → Int32) (po : Int32) (day : Int32) (n_5 : Nat) (k : Int32) (ks : Int32) (hp0 : 0 ≤ pts) (hp6 : pts ≤ 6) (hdg : okDeg u_degrees pts) (hpo : 0 ≤ po) (hp40 : po ≤ 40) (hda : day ≤ 40) (hn_5 : 40 - k.toNatClampNeg < n_5 + 1) (h0k : po ≤ k) (h1k : k ≤ 40) (hsu : ks = sumD u_warmth bw po (k.toNatClampNeg - po.toNatClampNeg)) (hkd : po ≤ day → k ≤ day) (hk9 : day < po → k = po) (c_1 : day ≤ k) : okDeg u_degrees pts := by
  exact hdg
set_option maxHeartbeats 1000000 in
theorem pf_X4_hardness_4 (pts : Int32) (bw : Int32) (u_warmth : Nat → Int32) (u_degrees : Nat → Int32) (u_thousandths : Nat → Int32) (po : Int32) (day : Int32) (n_5 : Nat) (k : Int32) (ks : Int32) (r_2 : Int32) (hp0 : 0 ≤ pts) (hp6 : pts ≤ 6) (hdg : okDeg u_degrees pts) (hpo : 0 ≤ po) (hp40 : po ≤ 40) (hda : day ≤ 40) (hn_5 : 40 - k.toNatClampNeg < n_5 + 1) (h0k : po ≤ k) (h1k : k ≤ 40) (hsu : ks = sumD u_warmth bw po (k.toNatClampNeg - po.toNatClampNeg)) (hkd : po ≤ day → k ≤ day) (hk9 : day < po → k = po) (c_1 : day ≤ k) (w_3 : r_2 = (if ks < 0 then -2 else hof u_degrees u_thousandths pts ks 7 0 0 0)) : r_2 = hrd u_warmth bw u_degrees u_thousandths pts po day := by
  have e9 := sum_end hsu h0k hkd hk9 (by assumption)
  unfold hrd
  rw [← e9]
  assumption
set_option maxHeartbeats 1000000 in
theorem pf_X4_hardness_5 (pts : Int32) (bw : Int32) (u_warmth : Nat → Int32) (u_degrees : Nat → Int32) (po : Int32) (day : Int32) (n_5 : Nat) (k : Int32) (ks : Int32) (hp0 : 0 ≤ pts) (hp6 : pts ≤ 6) (hdg : okDeg u_degrees pts) (hpo : 0 ≤ po) (hp40 : po ≤ 40) (hda : day ≤ 40) (hn_5 : 40 - k.toNatClampNeg < n_5 + 1) (h0k : po ≤ k) (h1k : k ≤ 40) (hsu : ks = sumD u_warmth bw po (k.toNatClampNeg - po.toNatClampNeg)) (hkd : po ≤ day → k ≤ day) (hk9 : day < po → k = po) (c_1 : ¬ day ≤ k) : vp_in k 40 := by
  exact vi_in (M := 40) rfl (by grind) (by grind)
set_option maxHeartbeats 1000000 in
theorem pf_X4_hardness_6 (pts : Int32) (bw : Int32) (u_warmth : Nat → Int32) (u_degrees : Nat → Int32) (po : Int32) (day : Int32) (n_5 : Nat) (k : Int32) (ks : Int32) (v_5 : Int32) (v_7 : Int32) (v_8 : Int32) (hp0 : 0 ≤ pts) (hp6 : pts ≤ 6) (hdg : okDeg u_degrees pts) (hpo : 0 ≤ po) (hp40 : po ≤ 40) (hda : day ≤ 40) (hn_5 : 40 - k.toNatClampNeg < n_5 + 1) (h0k : po ≤ k) (h1k : k ≤ 40) (hsu : ks = sumD u_warmth bw po (k.toNatClampNeg - po.toNatClampNeg)) (hkd : po ≤ day → k ≤ day) (hk9 : day < po → k = po) (c_1 : ¬ day ≤ k) (ev_5 : v_5 = u_warmth k.toNatClampNeg) (c_6 : v_5 ≤ bw) (ev_7 : v_7 = ks + 0) (ev_8 : v_8 = k + 1) : 40 - v_8.toNatClampNeg < n_5 := by
  exact ms_dec (L := 40) (k := k) (by grind) (show ¬ (40 : Int32) ≤ k by grind) (by omega) (by assumption) hn_5
set_option maxHeartbeats 1000000 in
theorem pf_X4_hardness_7 (pts : Int32) (bw : Int32) (u_warmth : Nat → Int32) (u_degrees : Nat → Int32) (po : Int32) (day : Int32) (n_5 : Nat) (k : Int32) (ks : Int32) (v_5 : Int32) (v_7 : Int32) (v_8 : Int32) (hp0 : 0 ≤ pts) (hp6 : pts ≤ 6) (hdg : okDeg u_degrees pts) (hpo : 0 ≤ po) (hp40 : po ≤ 40) (hda : day ≤ 40) (hn_5 : 40 - k.toNatClampNeg < n_5 + 1) (h0k : po ≤ k) (h1k : k ≤ 40) (hsu : ks = sumD u_warmth bw po (k.toNatClampNeg - po.toNatClampNeg)) (hkd : po ≤ day → k ≤ day) (hk9 : day < po → k = po) (c_1 : ¬ day ≤ k) (ev_5 : v_5 = u_warmth k.toNatClampNeg) (c_6 : v_5 ≤ bw) (ev_7 : v_7 = ks + 0) (ev_8 : v_8 = k + 1) : po ≤ v_8 := by
  grind
set_option maxHeartbeats 1000000 in
theorem pf_X4_hardness_8 (pts : Int32) (bw : Int32) (u_warmth : Nat → Int32) (u_degrees : Nat → Int32) (po : Int32) (day : Int32) (n_5 : Nat) (k : Int32) (ks : Int32) (v_5 : Int32) (v_7 : Int32) (v_8 : Int32) (hp0 : 0 ≤ pts) (hp6 : pts ≤ 6) (hdg : okDeg u_degrees pts) (hpo : 0 ≤ po) (hp40 : po ≤ 40) (hda : day ≤ 40) (hn_5 : 40 - k.toNatClampNeg < n_5 + 1) (h0k : po ≤ k) (h1k : k ≤ 40) (hsu : ks = sumD u_warmth bw po (k.toNatClampNeg - po.toNatClampNeg)) (hkd : po ≤ day → k ≤ day) (hk9 : day < po → k = po) (c_1 : ¬ day ≤ k) (ev_5 : v_5 = u_warmth k.toNatClampNeg) (c_6 : v_5 ≤ bw) (ev_7 : v_7 = ks + 0) (ev_8 : v_8 = k + 1) : v_8 ≤ 40 := by
  grind
set_option maxHeartbeats 1000000 in
theorem pf_X4_hardness_9 (pts : Int32) (bw : Int32) (u_warmth : Nat → Int32) (u_degrees : Nat → Int32) (po : Int32) (day : Int32) (n_5 : Nat) (k : Int32) (ks : Int32) (v_5 : Int32) (v_7 : Int32) (v_8 : Int32) (hp0 : 0 ≤ pts) (hp6 : pts ≤ 6) (hdg : okDeg u_degrees pts) (hpo : 0 ≤ po) (hp40 : po ≤ 40) (hda : day ≤ 40) (hn_5 : 40 - k.toNatClampNeg < n_5 + 1) (h0k : po ≤ k) (h1k : k ≤ 40) (hsu : ks = sumD u_warmth bw po (k.toNatClampNeg - po.toNatClampNeg)) (hkd : po ≤ day → k ≤ day) (hk9 : day < po → k = po) (c_1 : ¬ day ≤ k) (ev_5 : v_5 = u_warmth k.toNatClampNeg) (c_6 : v_5 ≤ bw) (ev_7 : v_7 = ks + 0) (ev_8 : v_8 = k + 1) : v_7 = sumD u_warmth bw po (v_8.toNatClampNeg - po.toNatClampNeg) := by
  rw [sumD_s hpo h0k (by grind) (by assumption)]
  subst_vars
  grind
set_option maxHeartbeats 1000000 in
theorem pf_X4_hardness_10 (pts : Int32) (bw : Int32) (u_warmth : Nat → Int32) (u_degrees : Nat → Int32) (po : Int32) (day : Int32) (n_5 : Nat) (k : Int32) (ks : Int32) (v_5 : Int32) (v_7 : Int32) (v_8 : Int32) (hp0 : 0 ≤ pts) (hp6 : pts ≤ 6) (hdg : okDeg u_degrees pts) (hpo : 0 ≤ po) (hp40 : po ≤ 40) (hda : day ≤ 40) (hn_5 : 40 - k.toNatClampNeg < n_5 + 1) (h0k : po ≤ k) (h1k : k ≤ 40) (hsu : ks = sumD u_warmth bw po (k.toNatClampNeg - po.toNatClampNeg)) (hkd : po ≤ day → k ≤ day) (hk9 : day < po → k = po) (c_1 : ¬ day ≤ k) (ev_5 : v_5 = u_warmth k.toNatClampNeg) (c_6 : v_5 ≤ bw) (ev_7 : v_7 = ks + 0) (ev_8 : v_8 = k + 1) : po ≤ day → v_8 ≤ day := by
  grind
set_option maxHeartbeats 1000000 in
theorem pf_X4_hardness_11 (pts : Int32) (bw : Int32) (u_warmth : Nat → Int32) (u_degrees : Nat → Int32) (po : Int32) (day : Int32) (n_5 : Nat) (k : Int32) (ks : Int32) (v_5 : Int32) (v_7 : Int32) (v_8 : Int32) (hp0 : 0 ≤ pts) (hp6 : pts ≤ 6) (hdg : okDeg u_degrees pts) (hpo : 0 ≤ po) (hp40 : po ≤ 40) (hda : day ≤ 40) (hn_5 : 40 - k.toNatClampNeg < n_5 + 1) (h0k : po ≤ k) (h1k : k ≤ 40) (hsu : ks = sumD u_warmth bw po (k.toNatClampNeg - po.toNatClampNeg)) (hkd : po ≤ day → k ≤ day) (hk9 : day < po → k = po) (c_1 : ¬ day ≤ k) (ev_5 : v_5 = u_warmth k.toNatClampNeg) (c_6 : v_5 ≤ bw) (ev_7 : v_7 = ks + 0) (ev_8 : v_8 = k + 1) : day < po → v_8 = po := by
  grind
set_option maxHeartbeats 1000000 in
theorem pf_X4_hardness_12 (pts : Int32) (bw : Int32) (u_warmth : Nat → Int32) (u_degrees : Nat → Int32) (po : Int32) (day : Int32) (n_5 : Nat) (k : Int32) (ks : Int32) (v_5 : Int32) (hp0 : 0 ≤ pts) (hp6 : pts ≤ 6) (hdg : okDeg u_degrees pts) (hpo : 0 ≤ po) (hp40 : po ≤ 40) (hda : day ≤ 40) (hn_5 : 40 - k.toNatClampNeg < n_5 + 1) (h0k : po ≤ k) (h1k : k ≤ 40) (hsu : ks = sumD u_warmth bw po (k.toNatClampNeg - po.toNatClampNeg)) (hkd : po ≤ day → k ≤ day) (hk9 : day < po → k = po) (c_1 : ¬ day ≤ k) (ev_5 : v_5 = u_warmth k.toNatClampNeg) (c_6 : ¬ v_5 ≤ bw) : vp_in k 40 := by
  exact vi_in (M := 40) rfl (by grind) (by grind)
set_option maxHeartbeats 1000000 in
theorem pf_X4_hardness_13 (pts : Int32) (bw : Int32) (u_warmth : Nat → Int32) (u_degrees : Nat → Int32) (po : Int32) (day : Int32) (n_5 : Nat) (k : Int32) (ks : Int32) (v_5 : Int32) (v_9 : Int32) (v_10 : Int32) (v_11 : Int32) (v_12 : Int32) (hp0 : 0 ≤ pts) (hp6 : pts ≤ 6) (hdg : okDeg u_degrees pts) (hpo : 0 ≤ po) (hp40 : po ≤ 40) (hda : day ≤ 40) (hn_5 : 40 - k.toNatClampNeg < n_5 + 1) (h0k : po ≤ k) (h1k : k ≤ 40) (hsu : ks = sumD u_warmth bw po (k.toNatClampNeg - po.toNatClampNeg)) (hkd : po ≤ day → k ≤ day) (hk9 : day < po → k = po) (c_1 : ¬ day ≤ k) (ev_5 : v_5 = u_warmth k.toNatClampNeg) (c_6 : ¬ v_5 ≤ bw) (ev_9 : v_9 = u_warmth k.toNatClampNeg) (ev_10 : v_10 = v_9 - bw) (ev_11 : v_11 = ks + v_10) (ev_12 : v_12 = k + 1) : 40 - v_12.toNatClampNeg < n_5 := by
  exact ms_dec (L := 40) (k := k) (by grind) (show ¬ (40 : Int32) ≤ k by grind) (by omega) (by assumption) hn_5
set_option maxHeartbeats 1000000 in
theorem pf_X4_hardness_14 (pts : Int32) (bw : Int32) (u_warmth : Nat → Int32) (u_degrees : Nat → Int32) (po : Int32) (day : Int32) (n_5 : Nat) (k : Int32) (ks : Int32) (v_5 : Int32) (v_9 : Int32) (v_10 : Int32) (v_11 : Int32) (v_12 : Int32) (hp0 : 0 ≤ pts) (hp6 : pts ≤ 6) (hdg : okDeg u_degrees pts) (hpo : 0 ≤ po) (hp40 : po ≤ 40) (hda : day ≤ 40) (hn_5 : 40 - k.toNatClampNeg < n_5 + 1) (h0k : po ≤ k) (h1k : k ≤ 40) (hsu : ks = sumD u_warmth bw po (k.toNatClampNeg - po.toNatClampNeg)) (hkd : po ≤ day → k ≤ day) (hk9 : day < po → k = po) (c_1 : ¬ day ≤ k) (ev_5 : v_5 = u_warmth k.toNatClampNeg) (c_6 : ¬ v_5 ≤ bw) (ev_9 : v_9 = u_warmth k.toNatClampNeg) (ev_10 : v_10 = v_9 - bw) (ev_11 : v_11 = ks + v_10) (ev_12 : v_12 = k + 1) : po ≤ v_12 := by
  grind
set_option maxHeartbeats 1000000 in
theorem pf_X4_hardness_15 (pts : Int32) (bw : Int32) (u_warmth : Nat → Int32) (u_degrees : Nat → Int32) (po : Int32) (day : Int32) (n_5 : Nat) (k : Int32) (ks : Int32) (v_5 : Int32) (v_9 : Int32) (v_10 : Int32) (v_11 : Int32) (v_12 : Int32) (hp0 : 0 ≤ pts) (hp6 : pts ≤ 6) (hdg : okDeg u_degrees pts) (hpo : 0 ≤ po) (hp40 : po ≤ 40) (hda : day ≤ 40) (hn_5 : 40 - k.toNatClampNeg < n_5 + 1) (h0k : po ≤ k) (h1k : k ≤ 40) (hsu : ks = sumD u_warmth bw po (k.toNatClampNeg - po.toNatClampNeg)) (hkd : po ≤ day → k ≤ day) (hk9 : day < po → k = po) (c_1 : ¬ day ≤ k) (ev_5 : v_5 = u_warmth k.toNatClampNeg) (c_6 : ¬ v_5 ≤ bw) (ev_9 : v_9 = u_warmth k.toNatClampNeg) (ev_10 : v_10 = v_9 - bw) (ev_11 : v_11 = ks + v_10) (ev_12 : v_12 = k + 1) : v_12 ≤ 40 := by
  grind
set_option maxHeartbeats 1000000 in
theorem pf_X4_hardness_16 (pts : Int32) (bw : Int32) (u_warmth : Nat → Int32) (u_degrees : Nat → Int32) (po : Int32) (day : Int32) (n_5 : Nat) (k : Int32) (ks : Int32) (v_5 : Int32) (v_9 : Int32) (v_10 : Int32) (v_11 : Int32) (v_12 : Int32) (hp0 : 0 ≤ pts) (hp6 : pts ≤ 6) (hdg : okDeg u_degrees pts) (hpo : 0 ≤ po) (hp40 : po ≤ 40) (hda : day ≤ 40) (hn_5 : 40 - k.toNatClampNeg < n_5 + 1) (h0k : po ≤ k) (h1k : k ≤ 40) (hsu : ks = sumD u_warmth bw po (k.toNatClampNeg - po.toNatClampNeg)) (hkd : po ≤ day → k ≤ day) (hk9 : day < po → k = po) (c_1 : ¬ day ≤ k) (ev_5 : v_5 = u_warmth k.toNatClampNeg) (c_6 : ¬ v_5 ≤ bw) (ev_9 : v_9 = u_warmth k.toNatClampNeg) (ev_10 : v_10 = v_9 - bw) (ev_11 : v_11 = ks + v_10) (ev_12 : v_12 = k + 1) : v_11 = sumD u_warmth bw po (v_12.toNatClampNeg - po.toNatClampNeg) := by
  rw [sumD_s hpo h0k (by grind) (by assumption)]
  subst_vars
  grind
set_option maxHeartbeats 1000000 in
theorem pf_X4_hardness_17 (pts : Int32) (bw : Int32) (u_warmth : Nat → Int32) (u_degrees : Nat → Int32) (po : Int32) (day : Int32) (n_5 : Nat) (k : Int32) (ks : Int32) (v_5 : Int32) (v_9 : Int32) (v_10 : Int32) (v_11 : Int32) (v_12 : Int32) (hp0 : 0 ≤ pts) (hp6 : pts ≤ 6) (hdg : okDeg u_degrees pts) (hpo : 0 ≤ po) (hp40 : po ≤ 40) (hda : day ≤ 40) (hn_5 : 40 - k.toNatClampNeg < n_5 + 1) (h0k : po ≤ k) (h1k : k ≤ 40) (hsu : ks = sumD u_warmth bw po (k.toNatClampNeg - po.toNatClampNeg)) (hkd : po ≤ day → k ≤ day) (hk9 : day < po → k = po) (c_1 : ¬ day ≤ k) (ev_5 : v_5 = u_warmth k.toNatClampNeg) (c_6 : ¬ v_5 ≤ bw) (ev_9 : v_9 = u_warmth k.toNatClampNeg) (ev_10 : v_10 = v_9 - bw) (ev_11 : v_11 = ks + v_10) (ev_12 : v_12 = k + 1) : po ≤ day → v_12 ≤ day := by
  grind
set_option maxHeartbeats 1000000 in
theorem pf_X4_hardness_18 (pts : Int32) (bw : Int32) (u_warmth : Nat → Int32) (u_degrees : Nat → Int32) (po : Int32) (day : Int32) (n_5 : Nat) (k : Int32) (ks : Int32) (v_5 : Int32) (v_9 : Int32) (v_10 : Int32) (v_11 : Int32) (v_12 : Int32) (hp0 : 0 ≤ pts) (hp6 : pts ≤ 6) (hdg : okDeg u_degrees pts) (hpo : 0 ≤ po) (hp40 : po ≤ 40) (hda : day ≤ 40) (hn_5 : 40 - k.toNatClampNeg < n_5 + 1) (h0k : po ≤ k) (h1k : k ≤ 40) (hsu : ks = sumD u_warmth bw po (k.toNatClampNeg - po.toNatClampNeg)) (hkd : po ≤ day → k ≤ day) (hk9 : day < po → k = po) (c_1 : ¬ day ≤ k) (ev_5 : v_5 = u_warmth k.toNatClampNeg) (c_6 : ¬ v_5 ≤ bw) (ev_9 : v_9 = u_warmth k.toNatClampNeg) (ev_10 : v_10 = v_9 - bw) (ev_11 : v_11 = ks + v_10) (ev_12 : v_12 = k + 1) : day < po → v_12 = po := by
  grind
set_option maxHeartbeats 1000000 in
theorem pf_X4_hardness_19 (pts : Int32) (u_degrees : Nat → Int32) (po : Int32) (day : Int32) (hp0 : 0 ≤ pts) (hp6 : pts ≤ 6) (hdg : okDeg u_degrees pts) (hpo : 0 ≤ po) (hp40 : po ≤ 40) (hda : day ≤ 40) : po ≤ po := by
  grind
set_option maxHeartbeats 1000000 in
theorem pf_X4_hardness_20 (pts : Int32) (u_degrees : Nat → Int32) (po : Int32) (day : Int32) (hp0 : 0 ≤ pts) (hp6 : pts ≤ 6) (hdg : okDeg u_degrees pts) (hpo : 0 ≤ po) (hp40 : po ≤ 40) (hda : day ≤ 40) : po ≤ 40 := by
  grind
set_option maxHeartbeats 1000000 in
theorem pf_X4_hardness_21 (pts : Int32) (bw : Int32) (u_warmth : Nat → Int32) (u_degrees : Nat → Int32) (po : Int32) (day : Int32) (hp0 : 0 ≤ pts) (hp6 : pts ≤ 6) (hdg : okDeg u_degrees pts) (hpo : 0 ≤ po) (hp40 : po ≤ 40) (hda : day ≤ 40) : (0 : Int32) = sumD u_warmth bw po (po.toNatClampNeg - po.toNatClampNeg) := by
  rw [Nat.sub_self]
  rfl
set_option maxHeartbeats 1000000 in
theorem pf_X4_hardness_22 (pts : Int32) (u_degrees : Nat → Int32) (po : Int32) (day : Int32) (hp0 : 0 ≤ pts) (hp6 : pts ≤ 6) (hdg : okDeg u_degrees pts) (hpo : 0 ≤ po) (hp40 : po ≤ 40) (hda : day ≤ 40) : po ≤ day → po ≤ day := by
  grind
set_option maxHeartbeats 1000000 in
theorem pf_X4_hardness_23 (pts : Int32) (u_degrees : Nat → Int32) (po : Int32) (day : Int32) (hp0 : 0 ≤ pts) (hp6 : pts ≤ 6) (hdg : okDeg u_degrees pts) (hpo : 0 ≤ po) (hp40 : po ≤ 40) (hda : day ≤ 40) : day < po → po = po := by
  grind
set_option maxHeartbeats 4000000 in
set_option maxRecDepth 100000 in
theorem c_X4_hardness (l : Launch) (D : va_G) (cI cQ : ClassId) (sz : Nat) (y0 : Nat) (m_warmth : Nat) (m_degrees : Nat) (m_thousandths : Nat) (m_kind : Nat) (m_floor : Nat) (m_volume : Nat) (m_size : Nat) (m_faces : Nat) (m_when : Nat) (m_ahead : Nat) (m_order : Nat) (m_tried : Nat) (m_chosen : Nat) (m_forms : Nat) (m_longest : Nat) (num : Int32) (pts : Int32) (nw : Int32) (en : Int32) (gl : Int32) (bw : Int32) (sp : Int32) (be : Int32) (ab : Int64) (bl : Int64) (u_warmth : Nat → Int32) (u_degrees : Nat → Int32) (u_thousandths : Nat → Int32) (po : Int32) (day : Int32) (hp0 : 0 ≤ pts) (hp6 : pts ≤ 6) (hdg : okDeg u_degrees pts) (hpo : 0 ≤ po) (hp40 : po ≤ 40) (hda : day ≤ 40) : CtI l yX4_hardness wsX4_hardness 1 24 0 0 [.ref y0, .int po, .int day] D [(cI, .int), (cQ, .array .int)] [(y0, .inr (4, [.int num, .int pts, .int nw, .int en, .int gl, .int bw, .int sp, .int be, .ref m_kind, .ref m_floor, .ref m_volume, .ref m_size, .ref m_faces, .ref m_when, .ref m_ahead, .ref m_order, .ref m_tried, .ref m_chosen, .ref m_forms, .ref m_warmth, .ref m_degrees, .ref m_thousandths, .ref m_longest, .long ab, .long bl])), (m_warmth, .inl (cI, 40, .inl u_warmth)), (m_degrees, .inl (cI, 6, .inl u_degrees)), (m_thousandths, .inl (cI, 6, .inl u_thousandths))] sz (fun (r : Int32) (u : Unit) => r = hrd u_warmth bw u_degrees u_thousandths pts po day) (fun (u : Unit) => [(y0, .inr (4, [.int num, .int pts, .int nw, .int en, .int gl, .int bw, .int sp, .int be, .ref m_kind, .ref m_floor, .ref m_volume, .ref m_size, .ref m_faces, .ref m_when, .ref m_ahead, .ref m_order, .ref m_tried, .ref m_chosen, .ref m_forms, .ref m_warmth, .ref m_degrees, .ref m_thousandths, .ref m_longest, .long ab, .long bl])), (m_warmth, .inl (cI, 40, .inl u_warmth)), (m_degrees, .inl (cI, 6, .inl u_degrees)), (m_thousandths, .inl (cI, 6, .inl u_thousandths))]) := by
  refine Met.ofW (cc := cX4_hardness) (maxL := 5) (ret := (some .int)) (by decide) rfl ?_
  intro p e s m args below meth c s₁ B hml hv
  obtain ⟨rfl, hsz, hP, hK, hD0, hN⟩ := hv
  have hx := B.exec
  have hb := B.bytes
  have hr := B.returns
  have hts := atoms_spec (ws := wsX4_hardness) B.pre
  have hown : s.vm.findClass RX4 = some m.cls := findClass_of_methodNamed B.named
  have hlocks := B.notSynchronized
  subst hsz
  have hD := hD0.self (sz := s.heap.size)
  generalize hAe : va_A [(y0, .inr (4, [.int num, .int pts, .int nw, .int en, .int gl, .int bw, .int sp, .int be, .ref m_kind, .ref m_floor, .ref m_volume, .ref m_size, .ref m_faces, .ref m_when, .ref m_ahead, .ref m_order, .ref m_tried, .ref m_chosen, .ref m_forms, .ref m_warmth, .ref m_degrees, .ref m_thousandths, .ref m_longest, .long ab, .long bl])), (m_warmth, .inl (cI, 40, .inl u_warmth)), (m_degrees, .inl (cI, 6, .inl u_degrees)), (m_thousandths, .inl (cI, 6, .inl u_thousandths))] s.heap.size = A at hD ⊢
  have hA : ∀ q : Nat, s.heap.size ≤ q → A q := fun q h => by rw [← hAe]; exact Or.inr h
  have hS : va_S A s.heap s.heap [] := va_S.rf
  have hl := lv_entry ([.ref y0, .int po, .int day]) (n := 5) (Nat.le_of_ble_eq_true rfl)
  rw [lg_entry_eq]
  generalize (lg_sl ([.ref y0, .int po, .int day]) ++ List.replicate (5 - (lg_sl ([.ref y0, .int po, .int day])).length) Slot.unset).toArray = ls at hl ⊢
  have hl : lv_has ls 5 [(0, .ref y0), (1, .int po), (2, .int day)] := hl
  refine W_gen (fun GW hIn hOut => ?_)
  refine hIn _ _ _ _ _ ?_
  have hP0 := hP
  refine lv_iconst (v := 0) hx hb dX4_hardness_0 (by decide) ?_
  refine lv_istore_n (lv' := [(3, .int 0), (0, .ref y0), (1, .int po), (2, .int day)]) hx hb dX4_hardness_1 rfl hl (by decide) rfl (fun ls hl => ?_)
  refine lv_iload_n hx hb dX4_hardness_2 rfl (lv_at hl 2 rfl) ?_
  refine lv_istore (lv' := [(4, .int po), (3, .int 0), (0, .ref y0), (1, .int po), (2, .int day)]) hx hb dX4_hardness_3 hl (by decide) rfl (fun ls hl => ?_)
  have lp_5 : ∀ (n : Nat) (k : Int32) (ks : Int32) (H : Heap) (locs : List Loc) (ls : Array Slot), 40 - k.toNatClampNeg < n → (po ≤ k) → (k ≤ 40) → (ks = sumD u_warmth bw po (k.toNatClampNeg - po.toNatClampNeg)) → (po ≤ day → k ≤ day) → (day < po → k = po) → va_P D vwCl [(y0, .inr (4, [.int num, .int pts, .int nw, .int en, .int gl, .int bw, .int sp, .int be, .ref m_kind, .ref m_floor, .ref m_volume, .ref m_size, .ref m_faces, .ref m_when, .ref m_ahead, .ref m_order, .ref m_tried, .ref m_chosen, .ref m_forms, .ref m_warmth, .ref m_degrees, .ref m_thousandths, .ref m_longest, .long ab, .long bl])), (m_warmth, .inl (cI, 40, .inl u_warmth)), (m_degrees, .inl (cI, 6, .inl u_degrees)), (m_thousandths, .inl (cI, 6, .inl u_thousandths))] H → va_D A [(y0, .inr (4, [.int num, .int pts, .int nw, .int en, .int gl, .int bw, .int sp, .int be, .ref m_kind, .ref m_floor, .ref m_volume, .ref m_size, .ref m_faces, .ref m_when, .ref m_ahead, .ref m_order, .ref m_tried, .ref m_chosen, .ref m_forms, .ref m_warmth, .ref m_degrees, .ref m_thousandths, .ref m_longest, .long ab, .long bl])), (m_warmth, .inl (cI, 40, .inl u_warmth)), (m_degrees, .inl (cI, 6, .inl u_degrees)), (m_thousandths, .inl (cI, 6, .inl u_thousandths))] → va_S A s.heap H locs → lv_has ls 5 [(0, .ref y0), (1, .int po), (2, .int day), (3, .int ks), (4, .int k)] → GW H locs 0 0 (F0 m 5 ls []) := by
    intro n_5
    induction n_5 with
    | zero => intro k ks H locs ls hn_5; exact absurd hn_5 (Nat.not_lt_zero _)
    | succ n_5 ih_5 =>
      intro k ks H locs ls hn_5 h0k h1k hsu hkd hk9 hP hD hS hl
      refine hIn _ _ _ _ _ ?_
      refine lv_iload hx hb dX4_hardness_5 (lv_at hl 4 rfl) ?_
      refine lv_iload_n hx hb dX4_hardness_7 rfl (lv_at hl 2 rfl) ?_
      refine lv_icmp_ge (tgt := 50) hx hb dX4_hardness_8 (by decide) (fun c_1 => ?_) (fun c_1 => ?_)
      · refine lv_aload_n hx hb dX4_hardness_50 rfl (lv_at hl 0 rfl) ?_
        refine lv_iload_n hx hb dX4_hardness_51 rfl (lv_at hl 3 rfl) ?_
        refine cc_i (wc := [(y0, .inr (4, [.int num, .int pts, .int nw, .int en, .int gl, .int bw, .int sp, .int be, .ref m_kind, .ref m_floor, .ref m_volume, .ref m_size, .ref m_faces, .ref m_when, .ref m_ahead, .ref m_order, .ref m_tried, .ref m_chosen, .ref m_forms, .ref m_warmth, .ref m_degrees, .ref m_thousandths, .ref m_longest, .long ab, .long bl])), (m_degrees, .inl (cI, 6, .inl u_degrees)), (m_thousandths, .inl (cI, 6, .inl u_thousandths))]) (wr := [(m_warmth, .inl (cI, 40, .inl u_warmth))]) (va_runV (As := [.int ks]) (rest := []) ⟨hx, hb, hml, hown, hts⟩ (c_X4_table l D cI cQ H.size y0 m_degrees m_thousandths m_kind m_floor m_volume m_size m_faces m_when m_ahead m_order m_tried m_chosen m_forms m_warmth m_longest num pts nw en gl bw sp be ab bl u_degrees u_thousandths ks (pf_X4_hardness_1 pts bw u_warmth u_degrees po day n_5 k ks hp0 hp6 hdg hpo hp40 hda hn_5 h0k h1k hsu hkd hk9 c_1) (pf_X4_hardness_2 pts bw u_warmth u_degrees po day n_5 k ks hp0 hp6 hdg hpo hp40 hda hn_5 h0k h1k hsu hkd hk9 c_1) (pf_X4_hardness_3 pts bw u_warmth u_degrees po day n_5 k ks hp0 hp6 hdg hpo hp40 hda hn_5 h0k h1k hsu hkd hk9 c_1)) (cwV 1 hts gX4_hardness_X4_table rfl rfl rfl (by decide +kernel) ⟨Nat.le_of_ble_eq_true rfl, Nat.le_of_ble_eq_true rfl⟩) (preV (wc := [(y0, .inr (4, [.int num, .int pts, .int nw, .int en, .int gl, .int bw, .int sp, .int be, .ref m_kind, .ref m_floor, .ref m_volume, .ref m_size, .ref m_faces, .ref m_when, .ref m_ahead, .ref m_order, .ref m_tried, .ref m_chosen, .ref m_forms, .ref m_warmth, .ref m_degrees, .ref m_thousandths, .ref m_longest, .long ab, .long bl])), (m_degrees, .inl (cI, 6, .inl u_degrees)), (m_thousandths, .inl (cI, 6, .inl u_thousandths))]) (ci := 4) (q0 := 0) hK hP hD hN [0, 2, 3] rfl (by decide) rfl rfl) rfl rfl hl.1 rfl (lv_room (Nat.le_of_ble_eq_true rfl)) dX4_hardness_52 ⟨Nat.le_of_ble_eq_true rfl, Nat.le_of_ble_eq_true rfl⟩) hP hD hS hA [0, 2, 3] [1] rfl rfl (by decide) (by decide) (fun r_2 u H locs w_3 hP hD hS => ?_)
        have hP : va_P D vwCl [(m_warmth, .inl (cI, 40, .inl u_warmth)), (y0, .inr (4, [.int num, .int pts, .int nw, .int en, .int gl, .int bw, .int sp, .int be, .ref m_kind, .ref m_floor, .ref m_volume, .ref m_size, .ref m_faces, .ref m_when, .ref m_ahead, .ref m_order, .ref m_tried, .ref m_chosen, .ref m_forms, .ref m_warmth, .ref m_degrees, .ref m_thousandths, .ref m_longest, .long ab, .long bl])), (m_degrees, .inl (cI, 6, .inl u_degrees)), (m_thousandths, .inl (cI, 6, .inl u_thousandths))] H := hP
        have hD : va_D A [(m_warmth, .inl (cI, 40, .inl u_warmth)), (y0, .inr (4, [.int num, .int pts, .int nw, .int en, .int gl, .int bw, .int sp, .int be, .ref m_kind, .ref m_floor, .ref m_volume, .ref m_size, .ref m_faces, .ref m_when, .ref m_ahead, .ref m_order, .ref m_tried, .ref m_chosen, .ref m_forms, .ref m_warmth, .ref m_degrees, .ref m_thousandths, .ref m_longest, .long ab, .long bl])), (m_degrees, .inl (cI, 6, .inl u_degrees)), (m_thousandths, .inl (cI, 6, .inl u_thousandths))] := hD
        have w_3 : r_2 = (if ks < 0 then -2 else hof u_degrees u_thousandths pts ks 7 0 0 0) := w_3
        refine W.widen (k := 0) (n := 0) (Nat.le_of_ble_eq_true rfl) (Nat.le_of_ble_eq_true rfl) ?_
        exact fi_i () hx hb hr hlocks hK (hP.sub [1, 0, 2, 3] rfl) (hD.sub [1, 0, 2, 3] (by decide) rfl) hS (pf_X4_hardness_4 pts bw u_warmth u_degrees u_thousandths po day n_5 k ks r_2 hp0 hp6 hdg hpo hp40 hda hn_5 h0k h1k hsu hkd hk9 c_1 w_3) dX4_hardness_55
      · refine lv_iload_n hx hb dX4_hardness_11 rfl (lv_at hl 3 rfl) ?_
        refine lv_aload_n hx hb dX4_hardness_12 rfl (lv_at hl 0 rfl) ?_
        refine va_get (D := D) (ci := 4) (v := .ref m_warmth) (C := RX4) (T := TX4) (N := 25) hx hb hts iw_X4_hardness_4 hown hK hP 0 rfl rfl 19 (by decide) (hts _ wd_X4_hardness_1) (fun _ h9 => h9) rfl dX4_hardness_13 ?_
        refine lv_iload hx hb dX4_hardness_16 (lv_at hl 4 rfl) ?_
        refine va_iald hx hb hK hP 1 0 rfl rfl (pf_X4_hardness_5 pts bw u_warmth u_degrees po day n_5 k ks hp0 hp6 hdg hpo hp40 hda hn_5 h0k h1k hsu hkd hk9 c_1) dX4_hardness_18 ?_
        refine lv_topi (fun v_5 ev_5 => ?_)
        refine lv_aload_n hx hb dX4_hardness_19 rfl (lv_at hl 0 rfl) ?_
        refine va_get (D := D) (ci := 4) (v := .int bw) (C := RX4) (T := TX4) (N := 25) hx hb hts iw_X4_hardness_4 hown hK hP 0 rfl rfl 5 (by decide) (hts _ wd_X4_hardness_2) (fun _ h9 => h9) rfl dX4_hardness_20 ?_
        refine lv_icmp_le (tgt := 41) hx hb dX4_hardness_23 (by decide) (fun c_6 => ?_) (fun c_6 => ?_)
        · refine lv_iconst (v := 0) hx hb dX4_hardness_41 (by decide) ?_
          refine lv_iadd hx hb dX4_hardness_42 ?_
          refine lv_topi (fun v_7 ev_7 => ?_)
          refine lv_istore_n (lv' := [(3, .int v_7), (0, .ref y0), (1, .int po), (2, .int day), (4, .int k)]) hx hb dX4_hardness_43 rfl hl (by decide) rfl (fun ls hl => ?_)
          obtain ⟨v_8, ev_8⟩ : ∃ y : Int32, y = k + 1 := ⟨_, rfl⟩
          refine lv_iinc (v := v_8) (lv' := [(4, .int v_8), (3, .int v_7), (0, .ref y0), (1, .int po), (2, .int day)]) hx hb dX4_hardness_44 hl (k := 4) rfl (by rw [ev_8]; rfl) (by decide) rfl (fun ls hl => ?_)
          refine lv_goto (tgt := 5) hx hb dX4_hardness_47 (by decide) ?_
          exact hOut _ _ _ _ _ (ih_5 v_8 v_7 _ _ _ (pf_X4_hardness_6 pts bw u_warmth u_degrees po day n_5 k ks v_5 v_7 v_8 hp0 hp6 hdg hpo hp40 hda hn_5 h0k h1k hsu hkd hk9 c_1 ev_5 c_6 ev_7 ev_8) (pf_X4_hardness_7 pts bw u_warmth u_degrees po day n_5 k ks v_5 v_7 v_8 hp0 hp6 hdg hpo hp40 hda hn_5 h0k h1k hsu hkd hk9 c_1 ev_5 c_6 ev_7 ev_8) (pf_X4_hardness_8 pts bw u_warmth u_degrees po day n_5 k ks v_5 v_7 v_8 hp0 hp6 hdg hpo hp40 hda hn_5 h0k h1k hsu hkd hk9 c_1 ev_5 c_6 ev_7 ev_8) (pf_X4_hardness_9 pts bw u_warmth u_degrees po day n_5 k ks v_5 v_7 v_8 hp0 hp6 hdg hpo hp40 hda hn_5 h0k h1k hsu hkd hk9 c_1 ev_5 c_6 ev_7 ev_8) (pf_X4_hardness_10 pts bw u_warmth u_degrees po day n_5 k ks v_5 v_7 v_8 hp0 hp6 hdg hpo hp40 hda hn_5 h0k h1k hsu hkd hk9 c_1 ev_5 c_6 ev_7 ev_8) (pf_X4_hardness_11 pts bw u_warmth u_degrees po day n_5 k ks v_5 v_7 v_8 hp0 hp6 hdg hpo hp40 hda hn_5 h0k h1k hsu hkd hk9 c_1 ev_5 c_6 ev_7 ev_8) (hP.sub [0, 1, 2, 3] rfl) (hD.sub [0, 1, 2, 3] (by decide) rfl) hS (lv_sub hl [2, 3, 4, 1, 0] rfl))
        · refine lv_aload_n hx hb dX4_hardness_26 rfl (lv_at hl 0 rfl) ?_
          refine va_get (D := D) (ci := 4) (v := .ref m_warmth) (C := RX4) (T := TX4) (N := 25) hx hb hts iw_X4_hardness_4 hown hK hP 0 rfl rfl 19 (by decide) (hts _ wd_X4_hardness_1) (fun _ h9 => h9) rfl dX4_hardness_27 ?_
          refine lv_iload hx hb dX4_hardness_30 (lv_at hl 4 rfl) ?_
          refine va_iald hx hb hK hP 1 0 rfl rfl (pf_X4_hardness_12 pts bw u_warmth u_degrees po day n_5 k ks v_5 hp0 hp6 hdg hpo hp40 hda hn_5 h0k h1k hsu hkd hk9 c_1 ev_5 c_6) dX4_hardness_32 ?_
          refine lv_topi (fun v_9 ev_9 => ?_)
          refine lv_aload_n hx hb dX4_hardness_33 rfl (lv_at hl 0 rfl) ?_
          refine va_get (D := D) (ci := 4) (v := .int bw) (C := RX4) (T := TX4) (N := 25) hx hb hts iw_X4_hardness_4 hown hK hP 0 rfl rfl 5 (by decide) (hts _ wd_X4_hardness_2) (fun _ h9 => h9) rfl dX4_hardness_34 ?_
          refine lv_isub hx hb dX4_hardness_37 ?_
          refine lv_topi (fun v_10 ev_10 => ?_)
          refine lv_goto (tgt := 42) hx hb dX4_hardness_38 (by decide) ?_
          refine lv_iadd hx hb dX4_hardness_42 ?_
          refine lv_topi (fun v_11 ev_11 => ?_)
          refine lv_istore_n (lv' := [(3, .int v_11), (0, .ref y0), (1, .int po), (2, .int day), (4, .int k)]) hx hb dX4_hardness_43 rfl hl (by decide) rfl (fun ls hl => ?_)
          obtain ⟨v_12, ev_12⟩ : ∃ y : Int32, y = k + 1 := ⟨_, rfl⟩
          refine lv_iinc (v := v_12) (lv' := [(4, .int v_12), (3, .int v_11), (0, .ref y0), (1, .int po), (2, .int day)]) hx hb dX4_hardness_44 hl (k := 4) rfl (by rw [ev_12]; rfl) (by decide) rfl (fun ls hl => ?_)
          refine lv_goto (tgt := 5) hx hb dX4_hardness_47 (by decide) ?_
          exact hOut _ _ _ _ _ (ih_5 v_12 v_11 _ _ _ (pf_X4_hardness_13 pts bw u_warmth u_degrees po day n_5 k ks v_5 v_9 v_10 v_11 v_12 hp0 hp6 hdg hpo hp40 hda hn_5 h0k h1k hsu hkd hk9 c_1 ev_5 c_6 ev_9 ev_10 ev_11 ev_12) (pf_X4_hardness_14 pts bw u_warmth u_degrees po day n_5 k ks v_5 v_9 v_10 v_11 v_12 hp0 hp6 hdg hpo hp40 hda hn_5 h0k h1k hsu hkd hk9 c_1 ev_5 c_6 ev_9 ev_10 ev_11 ev_12) (pf_X4_hardness_15 pts bw u_warmth u_degrees po day n_5 k ks v_5 v_9 v_10 v_11 v_12 hp0 hp6 hdg hpo hp40 hda hn_5 h0k h1k hsu hkd hk9 c_1 ev_5 c_6 ev_9 ev_10 ev_11 ev_12) (pf_X4_hardness_16 pts bw u_warmth u_degrees po day n_5 k ks v_5 v_9 v_10 v_11 v_12 hp0 hp6 hdg hpo hp40 hda hn_5 h0k h1k hsu hkd hk9 c_1 ev_5 c_6 ev_9 ev_10 ev_11 ev_12) (pf_X4_hardness_17 pts bw u_warmth u_degrees po day n_5 k ks v_5 v_9 v_10 v_11 v_12 hp0 hp6 hdg hpo hp40 hda hn_5 h0k h1k hsu hkd hk9 c_1 ev_5 c_6 ev_9 ev_10 ev_11 ev_12) (pf_X4_hardness_18 pts bw u_warmth u_degrees po day n_5 k ks v_5 v_9 v_10 v_11 v_12 hp0 hp6 hdg hpo hp40 hda hn_5 h0k h1k hsu hkd hk9 c_1 ev_5 c_6 ev_9 ev_10 ev_11 ev_12) (hP.sub [0, 1, 2, 3] rfl) (hD.sub [0, 1, 2, 3] (by decide) rfl) hS (lv_sub hl [2, 3, 4, 1, 0] rfl))
  exact hOut _ _ _ _ _ (lp_5 (40 - po.toNatClampNeg + 1) po 0 _ _ _ (Nat.lt_succ_self _) (pf_X4_hardness_19 pts u_degrees po day hp0 hp6 hdg hpo hp40 hda) (pf_X4_hardness_20 pts u_degrees po day hp0 hp6 hdg hpo hp40 hda) (pf_X4_hardness_21 pts bw u_warmth u_degrees po day hp0 hp6 hdg hpo hp40 hda) (pf_X4_hardness_22 pts u_degrees po day hp0 hp6 hdg hpo hp40 hda) (pf_X4_hardness_23 pts u_degrees po day hp0 hp6 hdg hpo hp40 hda) (hP.sub [0, 1, 2, 3] rfl) (hD.sub [0, 1, 2, 3] (by decide) rfl) hS (lv_sub hl [2, 3, 4, 1, 0] rfl))

theorem iw_X4_stripped_4 : ∀ w ∈ wsX40, w ∈ wsX4_stripped := fun w h => (List.mem_cons_of_mem _ (List.mem_append_right _ h))
theorem wd_X4_stripped_1 : (.fieldLink RX4 15 "PourPlanModel" "strip" "I" : Cond) ∈ wsX4_stripped := List.mem_of_getElem? (i := 1) rfl
set_option maxHeartbeats 1000000 in
theorem pf_X4_stripped_1 (pts : Int32) (u_degrees : Nat → Int32) (po : Int32) (v_1 : Int32) (n_4 : Nat) (k : Int32) (hp0 : 0 ≤ pts) (hp6 : pts ≤ 6) (hdg : okDeg u_degrees pts) (hpo : 0 ≤ po) (hp39 : po ≤ 39) (ev_1 : v_1 = po + 1) (hn_4 : 40 - k.toNatClampNeg < n_4 + 1) (h0k : 0 ≤ k) (c_2 : 40 ≤ k) : (40 : Int32) ≤ 40 := by
  grind
set_option maxHeartbeats 1000000 in
theorem pf_X4_stripped_2 (pts : Int32) (u_degrees : Nat → Int32) (po : Int32) (v_1 : Int32) (n_4 : Nat) (k : Int32) (hp0 : 0 ≤ pts) (hp6 : pts ≤ 6) (hdg : okDeg u_degrees pts) (hpo : 0 ≤ po) (hp39 : po ≤ 39) (ev_1 : v_1 = po + 1) (hn_4 : 40 - k.toNatClampNeg < n_4 + 1) (h0k : 0 ≤ k) (c_2 : ¬ 40 ≤ k) : 0 ≤ pts := by
  grind
set_option maxHeartbeats 1000000 in
theorem pf_X4_stripped_3 (pts : Int32) (u_degrees : Nat → Int32) (po : Int32) (v_1 : Int32) (n_4 : Nat) (k : Int32) (hp0 : 0 ≤ pts) (hp6 : pts ≤ 6) (hdg : okDeg u_degrees pts) (hpo : 0 ≤ po) (hp39 : po ≤ 39) (ev_1 : v_1 = po + 1) (hn_4 : 40 - k.toNatClampNeg < n_4 + 1) (h0k : 0 ≤ k) (c_2 : ¬ 40 ≤ k) : pts ≤ 6 := by
  grind
set_option maxHeartbeats 1000000 in
theorem pf_X4_stripped_4 (pts : Int32) (u_degrees : Nat → Int32) (po : Int32) (v_1 : Int32) (n_4 : Nat) (k : Int32) (hp0 : 0 ≤ pts) (hp6 : pts ≤ 6) (hdg : okDeg u_degrees pts) (hpo : 0 ≤ po) (hp39 : po ≤ 39) (ev_1 : v_1 = po + 1) (hn_4 : 40 - k.toNatClampNeg < n_4 + 1) (h0k : 0 ≤ k) (c_2 : ¬ 40 ≤ k) : okDeg u_degrees pts := by
  exact hdg
set_option maxHeartbeats 1000000 in
theorem pf_X4_stripped_5 (pts : Int32) (u_degrees : Nat → Int32) (po : Int32) (v_1 : Int32) (n_4 : Nat) (k : Int32) (hp0 : 0 ≤ pts) (hp6 : pts ≤ 6) (hdg : okDeg u_degrees pts) (hpo : 0 ≤ po) (hp39 : po ≤ 39) (ev_1 : v_1 = po + 1) (hn_4 : 40 - k.toNatClampNeg < n_4 + 1) (h0k : 0 ≤ k) (c_2 : ¬ 40 ≤ k) : 0 ≤ po := by
  grind
set_option maxHeartbeats 1000000 in
theorem pf_X4_stripped_6 (pts : Int32) (u_degrees : Nat → Int32) (po : Int32) (v_1 : Int32) (n_4 : Nat) (k : Int32) (hp0 : 0 ≤ pts) (hp6 : pts ≤ 6) (hdg : okDeg u_degrees pts) (hpo : 0 ≤ po) (hp39 : po ≤ 39) (ev_1 : v_1 = po + 1) (hn_4 : 40 - k.toNatClampNeg < n_4 + 1) (h0k : 0 ≤ k) (c_2 : ¬ 40 ≤ k) : po ≤ 40 := by
  grind
set_option maxHeartbeats 1000000 in
theorem pf_X4_stripped_7 (pts : Int32) (u_degrees : Nat → Int32) (po : Int32) (v_1 : Int32) (n_4 : Nat) (k : Int32) (hp0 : 0 ≤ pts) (hp6 : pts ≤ 6) (hdg : okDeg u_degrees pts) (hpo : 0 ≤ po) (hp39 : po ≤ 39) (ev_1 : v_1 = po + 1) (hn_4 : 40 - k.toNatClampNeg < n_4 + 1) (h0k : 0 ≤ k) (c_2 : ¬ 40 ≤ k) : k ≤ 40 := by
  grind
set_option maxHeartbeats 1000000 in
theorem pf_X4_stripped_8 (pts : Int32) (bw : Int32) (sp : Int32) (u_warmth : Nat → Int32) (u_degrees : Nat → Int32) (u_thousandths : Nat → Int32) (po : Int32) (v_1 : Int32) (n_4 : Nat) (k : Int32) (r_3 : Int32) (v_7 : Int32) (hp0 : 0 ≤ pts) (hp6 : pts ≤ 6) (hdg : okDeg u_degrees pts) (hpo : 0 ≤ po) (hp39 : po ≤ 39) (ev_1 : v_1 = po + 1) (hn_4 : 40 - k.toNatClampNeg < n_4 + 1) (h0k : 0 ≤ k) (c_2 : ¬ 40 ≤ k) (w_4 : r_3 = hrd u_warmth bw u_degrees u_thousandths pts po k) (c_6 : r_3 < sp) (ev_7 : v_7 = k + 1) : 40 - v_7.toNatClampNeg < n_4 := by
  exact ms_dec (L := 40) (k := k) (by grind) (show ¬ (40 : Int32) ≤ k by grind) (by omega) (by assumption) hn_4
set_option maxHeartbeats 1000000 in
theorem pf_X4_stripped_9 (pts : Int32) (bw : Int32) (sp : Int32) (u_warmth : Nat → Int32) (u_degrees : Nat → Int32) (u_thousandths : Nat → Int32) (po : Int32) (v_1 : Int32) (n_4 : Nat) (k : Int32) (r_3 : Int32) (v_7 : Int32) (hp0 : 0 ≤ pts) (hp6 : pts ≤ 6) (hdg : okDeg u_degrees pts) (hpo : 0 ≤ po) (hp39 : po ≤ 39) (ev_1 : v_1 = po + 1) (hn_4 : 40 - k.toNatClampNeg < n_4 + 1) (h0k : 0 ≤ k) (c_2 : ¬ 40 ≤ k) (w_4 : r_3 = hrd u_warmth bw u_degrees u_thousandths pts po k) (c_6 : r_3 < sp) (ev_7 : v_7 = k + 1) : 0 ≤ v_7 := by
  grind
set_option maxHeartbeats 1000000 in
theorem pf_X4_stripped_10 (pts : Int32) (bw : Int32) (sp : Int32) (u_warmth : Nat → Int32) (u_degrees : Nat → Int32) (u_thousandths : Nat → Int32) (po : Int32) (v_1 : Int32) (n_4 : Nat) (k : Int32) (r_3 : Int32) (hp0 : 0 ≤ pts) (hp6 : pts ≤ 6) (hdg : okDeg u_degrees pts) (hpo : 0 ≤ po) (hp39 : po ≤ 39) (ev_1 : v_1 = po + 1) (hn_4 : 40 - k.toNatClampNeg < n_4 + 1) (h0k : 0 ≤ k) (c_2 : ¬ 40 ≤ k) (w_4 : r_3 = hrd u_warmth bw u_degrees u_thousandths pts po k) (c_6 : ¬ r_3 < sp) : k ≤ 40 := by
  grind
set_option maxHeartbeats 1000000 in
theorem pf_X4_stripped_11 (pts : Int32) (u_degrees : Nat → Int32) (po : Int32) (v_1 : Int32) (hp0 : 0 ≤ pts) (hp6 : pts ≤ 6) (hdg : okDeg u_degrees pts) (hpo : 0 ≤ po) (hp39 : po ≤ 39) (ev_1 : v_1 = po + 1) : 0 ≤ v_1 := by
  grind
set_option maxHeartbeats 4000000 in
set_option maxRecDepth 100000 in
theorem c_X4_stripped (l : Launch) (D : va_G) (cI cQ : ClassId) (sz : Nat) (y0 : Nat) (m_warmth : Nat) (m_degrees : Nat) (m_thousandths : Nat) (m_kind : Nat) (m_floor : Nat) (m_volume : Nat) (m_size : Nat) (m_faces : Nat) (m_when : Nat) (m_ahead : Nat) (m_order : Nat) (m_tried : Nat) (m_chosen : Nat) (m_forms : Nat) (m_longest : Nat) (num : Int32) (pts : Int32) (nw : Int32) (en : Int32) (gl : Int32) (bw : Int32) (sp : Int32) (be : Int32) (ab : Int64) (bl : Int64) (u_warmth : Nat → Int32) (u_degrees : Nat → Int32) (u_thousandths : Nat → Int32) (po : Int32) (hp0 : 0 ≤ pts) (hp6 : pts ≤ 6) (hdg : okDeg u_degrees pts) (hpo : 0 ≤ po) (hp39 : po ≤ 39) : CtI l yX4_stripped wsX4_stripped 2 48 0 0 [.ref y0, .int po] D [(cI, .int), (cQ, .array .int)] [(y0, .inr (4, [.int num, .int pts, .int nw, .int en, .int gl, .int bw, .int sp, .int be, .ref m_kind, .ref m_floor, .ref m_volume, .ref m_size, .ref m_faces, .ref m_when, .ref m_ahead, .ref m_order, .ref m_tried, .ref m_chosen, .ref m_forms, .ref m_warmth, .ref m_degrees, .ref m_thousandths, .ref m_longest, .long ab, .long bl])), (m_warmth, .inl (cI, 40, .inl u_warmth)), (m_degrees, .inl (cI, 6, .inl u_degrees)), (m_thousandths, .inl (cI, 6, .inl u_thousandths))] sz (fun (r : Int32) (u : Unit) => r ≤ 40) (fun (u : Unit) => [(y0, .inr (4, [.int num, .int pts, .int nw, .int en, .int gl, .int bw, .int sp, .int be, .ref m_kind, .ref m_floor, .ref m_volume, .ref m_size, .ref m_faces, .ref m_when, .ref m_ahead, .ref m_order, .ref m_tried, .ref m_chosen, .ref m_forms, .ref m_warmth, .ref m_degrees, .ref m_thousandths, .ref m_longest, .long ab, .long bl])), (m_warmth, .inl (cI, 40, .inl u_warmth)), (m_degrees, .inl (cI, 6, .inl u_degrees)), (m_thousandths, .inl (cI, 6, .inl u_thousandths))]) := by
  refine Met.ofW (cc := cX4_stripped) (maxL := 3) (ret := (some .int)) (by decide) rfl ?_
  intro p e s m args below meth c s₁ B hml hv
  obtain ⟨rfl, hsz, hP, hK, hD0, hN⟩ := hv
  have hx := B.exec
  have hb := B.bytes
  have hr := B.returns
  have hts := atoms_spec (ws := wsX4_stripped) B.pre
  have hown : s.vm.findClass RX4 = some m.cls := findClass_of_methodNamed B.named
  have hlocks := B.notSynchronized
  subst hsz
  have hD := hD0.self (sz := s.heap.size)
  generalize hAe : va_A [(y0, .inr (4, [.int num, .int pts, .int nw, .int en, .int gl, .int bw, .int sp, .int be, .ref m_kind, .ref m_floor, .ref m_volume, .ref m_size, .ref m_faces, .ref m_when, .ref m_ahead, .ref m_order, .ref m_tried, .ref m_chosen, .ref m_forms, .ref m_warmth, .ref m_degrees, .ref m_thousandths, .ref m_longest, .long ab, .long bl])), (m_warmth, .inl (cI, 40, .inl u_warmth)), (m_degrees, .inl (cI, 6, .inl u_degrees)), (m_thousandths, .inl (cI, 6, .inl u_thousandths))] s.heap.size = A at hD ⊢
  have hA : ∀ q : Nat, s.heap.size ≤ q → A q := fun q h => by rw [← hAe]; exact Or.inr h
  have hS : va_S A s.heap s.heap [] := va_S.rf
  have hl := lv_entry ([.ref y0, .int po]) (n := 3) (Nat.le_of_ble_eq_true rfl)
  rw [lg_entry_eq]
  generalize (lg_sl ([.ref y0, .int po]) ++ List.replicate (3 - (lg_sl ([.ref y0, .int po])).length) Slot.unset).toArray = ls at hl ⊢
  have hl : lv_has ls 3 [(0, .ref y0), (1, .int po)] := hl
  refine W_gen (fun GW hIn hOut => ?_)
  refine hIn _ _ _ _ _ ?_
  have hP0 := hP
  refine lv_iload_n hx hb dX4_stripped_0 rfl (lv_at hl 1 rfl) ?_
  refine lv_iconst (v := 1) hx hb dX4_stripped_1 (by decide) ?_
  refine lv_iadd hx hb dX4_stripped_2 ?_
  refine lv_topi (fun v_1 ev_1 => ?_)
  refine lv_istore_n (lv' := [(2, .int v_1), (0, .ref y0), (1, .int po)]) hx hb dX4_stripped_3 rfl hl (by decide) rfl (fun ls hl => ?_)
  have lp_4 : ∀ (n : Nat) (k : Int32) (H : Heap) (locs : List Loc) (ls : Array Slot), 40 - k.toNatClampNeg < n → (0 ≤ k) → va_P D vwCl [(y0, .inr (4, [.int num, .int pts, .int nw, .int en, .int gl, .int bw, .int sp, .int be, .ref m_kind, .ref m_floor, .ref m_volume, .ref m_size, .ref m_faces, .ref m_when, .ref m_ahead, .ref m_order, .ref m_tried, .ref m_chosen, .ref m_forms, .ref m_warmth, .ref m_degrees, .ref m_thousandths, .ref m_longest, .long ab, .long bl])), (m_warmth, .inl (cI, 40, .inl u_warmth)), (m_degrees, .inl (cI, 6, .inl u_degrees)), (m_thousandths, .inl (cI, 6, .inl u_thousandths))] H → va_D A [(y0, .inr (4, [.int num, .int pts, .int nw, .int en, .int gl, .int bw, .int sp, .int be, .ref m_kind, .ref m_floor, .ref m_volume, .ref m_size, .ref m_faces, .ref m_when, .ref m_ahead, .ref m_order, .ref m_tried, .ref m_chosen, .ref m_forms, .ref m_warmth, .ref m_degrees, .ref m_thousandths, .ref m_longest, .long ab, .long bl])), (m_warmth, .inl (cI, 40, .inl u_warmth)), (m_degrees, .inl (cI, 6, .inl u_degrees)), (m_thousandths, .inl (cI, 6, .inl u_thousandths))] → va_S A s.heap H locs → lv_has ls 3 [(0, .ref y0), (1, .int po), (2, .int k)] → GW H locs 0 0 (F0 m 4 ls []) := by
    intro n_4
    induction n_4 with
    | zero => intro k H locs ls hn_4; exact absurd hn_4 (Nat.not_lt_zero _)
    | succ n_4 ih_4 =>
      intro k H locs ls hn_4 h0k hP hD hS hl
      refine hIn _ _ _ _ _ ?_
      refine lv_iload_n hx hb dX4_stripped_4 rfl (lv_at hl 2 rfl) ?_
      refine lv_bipush (v := 40) hx hb dX4_stripped_5 (by decide) ?_
      refine lv_icmp_ge (tgt := 31) hx hb dX4_stripped_7 (by decide) (fun c_2 => ?_) (fun c_2 => ?_)
      · refine lv_bipush (v := 40) hx hb dX4_stripped_31 (by decide) ?_
        refine W.widen (k := 0) (n := 0) (Nat.le_of_ble_eq_true rfl) (Nat.le_of_ble_eq_true rfl) ?_
        exact fi_i () hx hb hr hlocks hK (hP.sub [0, 1, 2, 3] rfl) (hD.sub [0, 1, 2, 3] (by decide) rfl) hS (pf_X4_stripped_1 pts u_degrees po v_1 n_4 k hp0 hp6 hdg hpo hp39 ev_1 hn_4 h0k c_2) dX4_stripped_33
      · refine lv_aload_n hx hb dX4_stripped_10 rfl (lv_at hl 0 rfl) ?_
        refine lv_iload_n hx hb dX4_stripped_11 rfl (lv_at hl 1 rfl) ?_
        refine lv_iload_n hx hb dX4_stripped_12 rfl (lv_at hl 2 rfl) ?_
        refine cc_i (wc := [(y0, .inr (4, [.int num, .int pts, .int nw, .int en, .int gl, .int bw, .int sp, .int be, .ref m_kind, .ref m_floor, .ref m_volume, .ref m_size, .ref m_faces, .ref m_when, .ref m_ahead, .ref m_order, .ref m_tried, .ref m_chosen, .ref m_forms, .ref m_warmth, .ref m_degrees, .ref m_thousandths, .ref m_longest, .long ab, .long bl])), (m_warmth, .inl (cI, 40, .inl u_warmth)), (m_degrees, .inl (cI, 6, .inl u_degrees)), (m_thousandths, .inl (cI, 6, .inl u_thousandths))]) (wr := []) (va_runV (As := [.int po, .int k]) (rest := []) ⟨hx, hb, hml, hown, hts⟩ (c_X4_hardness l D cI cQ H.size y0 m_warmth m_degrees m_thousandths m_kind m_floor m_volume m_size m_faces m_when m_ahead m_order m_tried m_chosen m_forms m_longest num pts nw en gl bw sp be ab bl u_warmth u_degrees u_thousandths po k (pf_X4_stripped_2 pts u_degrees po v_1 n_4 k hp0 hp6 hdg hpo hp39 ev_1 hn_4 h0k c_2) (pf_X4_stripped_3 pts u_degrees po v_1 n_4 k hp0 hp6 hdg hpo hp39 ev_1 hn_4 h0k c_2) (pf_X4_stripped_4 pts u_degrees po v_1 n_4 k hp0 hp6 hdg hpo hp39 ev_1 hn_4 h0k c_2) (pf_X4_stripped_5 pts u_degrees po v_1 n_4 k hp0 hp6 hdg hpo hp39 ev_1 hn_4 h0k c_2) (pf_X4_stripped_6 pts u_degrees po v_1 n_4 k hp0 hp6 hdg hpo hp39 ev_1 hn_4 h0k c_2) (pf_X4_stripped_7 pts u_degrees po v_1 n_4 k hp0 hp6 hdg hpo hp39 ev_1 hn_4 h0k c_2)) (cwV 2 hts gX4_stripped_X4_hardness rfl rfl rfl (by decide +kernel) ⟨Nat.le_of_ble_eq_true rfl, Nat.le_of_ble_eq_true rfl⟩) (preV (wc := [(y0, .inr (4, [.int num, .int pts, .int nw, .int en, .int gl, .int bw, .int sp, .int be, .ref m_kind, .ref m_floor, .ref m_volume, .ref m_size, .ref m_faces, .ref m_when, .ref m_ahead, .ref m_order, .ref m_tried, .ref m_chosen, .ref m_forms, .ref m_warmth, .ref m_degrees, .ref m_thousandths, .ref m_longest, .long ab, .long bl])), (m_warmth, .inl (cI, 40, .inl u_warmth)), (m_degrees, .inl (cI, 6, .inl u_degrees)), (m_thousandths, .inl (cI, 6, .inl u_thousandths))]) (ci := 4) (q0 := 0) hK hP hD hN [0, 1, 2, 3] rfl (by decide) rfl rfl) rfl rfl hl.1 rfl (lv_room (Nat.le_of_ble_eq_true rfl)) dX4_stripped_13 ⟨Nat.le_of_ble_eq_true rfl, Nat.le_of_ble_eq_true rfl⟩) hP hD hS hA [0, 1, 2, 3] [] rfl rfl (by decide) (by decide) (fun r_3 u H locs w_4 hP hD hS => ?_)
        have hP : va_P D vwCl [(y0, .inr (4, [.int num, .int pts, .int nw, .int en, .int gl, .int bw, .int sp, .int be, .ref m_kind, .ref m_floor, .ref m_volume, .ref m_size, .ref m_faces, .ref m_when, .ref m_ahead, .ref m_order, .ref m_tried, .ref m_chosen, .ref m_forms, .ref m_warmth, .ref m_degrees, .ref m_thousandths, .ref m_longest, .long ab, .long bl])), (m_warmth, .inl (cI, 40, .inl u_warmth)), (m_degrees, .inl (cI, 6, .inl u_degrees)), (m_thousandths, .inl (cI, 6, .inl u_thousandths))] H := hP
        have hD : va_D A [(y0, .inr (4, [.int num, .int pts, .int nw, .int en, .int gl, .int bw, .int sp, .int be, .ref m_kind, .ref m_floor, .ref m_volume, .ref m_size, .ref m_faces, .ref m_when, .ref m_ahead, .ref m_order, .ref m_tried, .ref m_chosen, .ref m_forms, .ref m_warmth, .ref m_degrees, .ref m_thousandths, .ref m_longest, .long ab, .long bl])), (m_warmth, .inl (cI, 40, .inl u_warmth)), (m_degrees, .inl (cI, 6, .inl u_degrees)), (m_thousandths, .inl (cI, 6, .inl u_thousandths))] := hD
        have w_4 : r_3 = hrd u_warmth bw u_degrees u_thousandths pts po k := w_4
        refine lv_aload_n hx hb dX4_stripped_16 rfl (lv_at hl 0 rfl) ?_
        refine va_get (D := D) (ci := 4) (v := .int sp) (C := RX4) (T := TX4) (N := 25) hx hb hts iw_X4_stripped_4 hown hK hP 0 rfl rfl 6 (by decide) (hts _ wd_X4_stripped_1) (fun _ h9 => h9) rfl dX4_stripped_17 ?_
        refine lv_icmp_lt (tgt := 25) hx hb dX4_stripped_20 (by decide) (fun c_6 => ?_) (fun c_6 => ?_)
        · obtain ⟨v_7, ev_7⟩ : ∃ y : Int32, y = k + 1 := ⟨_, rfl⟩
          refine lv_iinc (v := v_7) (lv' := [(2, .int v_7), (0, .ref y0), (1, .int po)]) hx hb dX4_stripped_25 hl (k := 2) rfl (by rw [ev_7]; rfl) (by decide) rfl (fun ls hl => ?_)
          refine lv_goto (tgt := 4) hx hb dX4_stripped_28 (by decide) ?_
          exact hOut _ _ _ _ _ (ih_4 v_7 _ _ _ (pf_X4_stripped_8 pts bw sp u_warmth u_degrees u_thousandths po v_1 n_4 k r_3 v_7 hp0 hp6 hdg hpo hp39 ev_1 hn_4 h0k c_2 w_4 c_6 ev_7) (pf_X4_stripped_9 pts bw sp u_warmth u_degrees u_thousandths po v_1 n_4 k r_3 v_7 hp0 hp6 hdg hpo hp39 ev_1 hn_4 h0k c_2 w_4 c_6 ev_7) (hP.sub [0, 1, 2, 3] rfl) (hD.sub [0, 1, 2, 3] (by decide) rfl) hS (lv_sub hl [1, 2, 0] rfl))
        · refine lv_iload_n hx hb dX4_stripped_23 rfl (lv_at hl 2 rfl) ?_
          refine W.widen (k := 0) (n := 0) (Nat.le_of_ble_eq_true rfl) (Nat.le_of_ble_eq_true rfl) ?_
          exact fi_i () hx hb hr hlocks hK (hP.sub [0, 1, 2, 3] rfl) (hD.sub [0, 1, 2, 3] (by decide) rfl) hS (pf_X4_stripped_10 pts bw sp u_warmth u_degrees u_thousandths po v_1 n_4 k r_3 hp0 hp6 hdg hpo hp39 ev_1 hn_4 h0k c_2 w_4 c_6) dX4_stripped_24
  exact hOut _ _ _ _ _ (lp_4 (40 - v_1.toNatClampNeg + 1) v_1 _ _ _ (Nat.lt_succ_self _) (pf_X4_stripped_11 pts u_degrees po v_1 hp0 hp6 hdg hpo hp39 ev_1) (hP.sub [0, 1, 2, 3] rfl) (hD.sub [0, 1, 2, 3] (by decide) rfl) hS (lv_sub hl [1, 2, 0] rfl))

theorem iw_X4_isPoured_4 : ∀ w ∈ wsX40, w ∈ wsX4_isPoured := fun w h => (List.mem_cons_of_mem _ (List.mem_append_right _ h))
theorem wd_X4_isPoured_1 : (.fieldLink RX4 37 "PourPlanModel" "when" "[I" : Cond) ∈ wsX4_isPoured := List.mem_of_getElem? (i := 1) rfl
set_option maxHeartbeats 1000000 in
theorem pf_X4_isPoured_1 (a : Int32) (ha : vp_in a 10) : vp_in a 10 := by
  exact ha
set_option maxHeartbeats 1000000 in
theorem pf_X4_isPoured_2 (u_when : Nat → Int32) (a : Int32) (day : Int32) (v_1 : Int32) (ha : vp_in a 10) (ev_1 : v_1 = u_when a.toNatClampNeg) (c_2 : v_1 = (-1)) : (0 : Int32) = bSt (u_when a.toNatClampNeg) day := by
  grind [bSt]
set_option maxHeartbeats 1000000 in
theorem pf_X4_isPoured_3 (u_when : Nat → Int32) (a : Int32) (v_1 : Int32) (ha : vp_in a 10) (ev_1 : v_1 = u_when a.toNatClampNeg) (c_2 : ¬ v_1 = (-1)) : vp_in a 10 := by
  exact ha
set_option maxHeartbeats 1000000 in
theorem pf_X4_isPoured_4 (u_when : Nat → Int32) (a : Int32) (day : Int32) (v_1 : Int32) (v_3 : Int32) (ha : vp_in a 10) (ev_1 : v_1 = u_when a.toNatClampNeg) (c_2 : ¬ v_1 = (-1)) (ev_3 : v_3 = u_when a.toNatClampNeg) (c_4 : day < v_3) : (0 : Int32) = bSt (u_when a.toNatClampNeg) day := by
  grind [bSt]
set_option maxHeartbeats 1000000 in
theorem pf_X4_isPoured_5 (u_when : Nat → Int32) (a : Int32) (day : Int32) (v_1 : Int32) (v_3 : Int32) (ha : vp_in a 10) (ev_1 : v_1 = u_when a.toNatClampNeg) (c_2 : ¬ v_1 = (-1)) (ev_3 : v_3 = u_when a.toNatClampNeg) (c_4 : ¬ day < v_3) : (1 : Int32) = bSt (u_when a.toNatClampNeg) day := by
  grind [bSt]
set_option maxHeartbeats 4000000 in
set_option maxRecDepth 100000 in
theorem c_X4_isPoured (l : Launch) (D : va_G) (cI cQ : ClassId) (sz : Nat) (y0 : Nat) (m_when : Nat) (m_kind : Nat) (m_floor : Nat) (m_volume : Nat) (m_size : Nat) (m_faces : Nat) (m_ahead : Nat) (m_order : Nat) (m_tried : Nat) (m_chosen : Nat) (m_forms : Nat) (m_warmth : Nat) (m_degrees : Nat) (m_thousandths : Nat) (m_longest : Nat) (num : Int32) (pts : Int32) (nw : Int32) (en : Int32) (gl : Int32) (bw : Int32) (sp : Int32) (be : Int32) (ab : Int64) (bl : Int64) (u_when : Nat → Int32) (a : Int32) (day : Int32) (ha : vp_in a 10) : CtI l yX4_isPoured wsX4_isPoured 0 0 0 0 [.ref y0, .int a, .int day] D [(cI, .int), (cQ, .array .int)] [(y0, .inr (4, [.int num, .int pts, .int nw, .int en, .int gl, .int bw, .int sp, .int be, .ref m_kind, .ref m_floor, .ref m_volume, .ref m_size, .ref m_faces, .ref m_when, .ref m_ahead, .ref m_order, .ref m_tried, .ref m_chosen, .ref m_forms, .ref m_warmth, .ref m_degrees, .ref m_thousandths, .ref m_longest, .long ab, .long bl])), (m_when, .inl (cI, 10, .inl u_when))] sz (fun (r : Int32) (u : Unit) => r = bSt (u_when a.toNatClampNeg) day) (fun (u : Unit) => [(y0, .inr (4, [.int num, .int pts, .int nw, .int en, .int gl, .int bw, .int sp, .int be, .ref m_kind, .ref m_floor, .ref m_volume, .ref m_size, .ref m_faces, .ref m_when, .ref m_ahead, .ref m_order, .ref m_tried, .ref m_chosen, .ref m_forms, .ref m_warmth, .ref m_degrees, .ref m_thousandths, .ref m_longest, .long ab, .long bl])), (m_when, .inl (cI, 10, .inl u_when))]) := by
  refine Met.ofW (cc := cX4_isPoured) (maxL := 3) (ret := (some .boolean)) (by decide) rfl ?_
  intro p e s m args below meth c s₁ B hml hv
  obtain ⟨rfl, hsz, hP, hK, hD0, hN⟩ := hv
  have hx := B.exec
  have hb := B.bytes
  have hr := B.returns
  have hts := atoms_spec (ws := wsX4_isPoured) B.pre
  have hown : s.vm.findClass RX4 = some m.cls := findClass_of_methodNamed B.named
  have hlocks := B.notSynchronized
  subst hsz
  have hD := hD0.self (sz := s.heap.size)
  generalize hAe : va_A [(y0, .inr (4, [.int num, .int pts, .int nw, .int en, .int gl, .int bw, .int sp, .int be, .ref m_kind, .ref m_floor, .ref m_volume, .ref m_size, .ref m_faces, .ref m_when, .ref m_ahead, .ref m_order, .ref m_tried, .ref m_chosen, .ref m_forms, .ref m_warmth, .ref m_degrees, .ref m_thousandths, .ref m_longest, .long ab, .long bl])), (m_when, .inl (cI, 10, .inl u_when))] s.heap.size = A at hD ⊢
  have hA : ∀ q : Nat, s.heap.size ≤ q → A q := fun q h => by rw [← hAe]; exact Or.inr h
  have hS : va_S A s.heap s.heap [] := va_S.rf
  have hl := lv_entry ([.ref y0, .int a, .int day]) (n := 3) (Nat.le_of_ble_eq_true rfl)
  rw [lg_entry_eq]
  generalize (lg_sl ([.ref y0, .int a, .int day]) ++ List.replicate (3 - (lg_sl ([.ref y0, .int a, .int day])).length) Slot.unset).toArray = ls at hl ⊢
  have hl : lv_has ls 3 [(0, .ref y0), (1, .int a), (2, .int day)] := hl
  have hP0 := hP
  refine lv_aload_n hx hb dX4_isPoured_0 rfl (lv_at hl 0 rfl) ?_
  refine va_get (D := D) (ci := 4) (v := .ref m_when) (C := RX4) (T := TX4) (N := 25) hx hb hts iw_X4_isPoured_4 hown hK hP 0 rfl rfl 13 (by decide) (hts _ wd_X4_isPoured_1) (fun _ h9 => h9) rfl dX4_isPoured_1 ?_
  refine lv_iload_n hx hb dX4_isPoured_4 rfl (lv_at hl 1 rfl) ?_
  refine va_iald hx hb hK hP 1 0 rfl rfl (pf_X4_isPoured_1 a ha) dX4_isPoured_5 ?_
  refine lv_topi (fun v_1 ev_1 => ?_)
  refine lv_iconst (v := (-1)) hx hb dX4_isPoured_6 (by decide) ?_
  refine lv_icmp_eq (tgt := 24) hx hb dX4_isPoured_7 (by decide) (fun c_2 => ?_) (fun c_2 => ?_)
  · refine lv_iconst (v := 0) hx hb dX4_isPoured_24 (by decide) ?_
    refine W.widen (k := 0) (n := 0) (Nat.le_of_ble_eq_true rfl) (Nat.le_of_ble_eq_true rfl) ?_
    exact fi_z () hx hb hr rfl hlocks hK (hP.sub [0, 1] rfl) (hD.sub [0, 1] (by decide) rfl) hS (pf_X4_isPoured_2 u_when a day v_1 ha ev_1 c_2) dX4_isPoured_25
  · refine lv_aload_n hx hb dX4_isPoured_10 rfl (lv_at hl 0 rfl) ?_
    refine va_get (D := D) (ci := 4) (v := .ref m_when) (C := RX4) (T := TX4) (N := 25) hx hb hts iw_X4_isPoured_4 hown hK hP 0 rfl rfl 13 (by decide) (hts _ wd_X4_isPoured_1) (fun _ h9 => h9) rfl dX4_isPoured_11 ?_
    refine lv_iload_n hx hb dX4_isPoured_14 rfl (lv_at hl 1 rfl) ?_
    refine va_iald hx hb hK hP 1 0 rfl rfl (pf_X4_isPoured_3 u_when a v_1 ha ev_1 c_2) dX4_isPoured_15 ?_
    refine lv_topi (fun v_3 ev_3 => ?_)
    refine lv_iload_n hx hb dX4_isPoured_16 rfl (lv_at hl 2 rfl) ?_
    refine lv_icmp_gt (tgt := 24) hx hb dX4_isPoured_17 (by decide) (fun c_4 => ?_) (fun c_4 => ?_)
    · refine lv_iconst (v := 0) hx hb dX4_isPoured_24 (by decide) ?_
      refine W.widen (k := 0) (n := 0) (Nat.le_of_ble_eq_true rfl) (Nat.le_of_ble_eq_true rfl) ?_
      exact fi_z () hx hb hr rfl hlocks hK (hP.sub [0, 1] rfl) (hD.sub [0, 1] (by decide) rfl) hS (pf_X4_isPoured_4 u_when a day v_1 v_3 ha ev_1 c_2 ev_3 c_4) dX4_isPoured_25
    · refine lv_iconst (v := 1) hx hb dX4_isPoured_20 (by decide) ?_
      refine lv_goto (tgt := 25) hx hb dX4_isPoured_21 (by decide) ?_
      refine W.widen (k := 0) (n := 0) (Nat.le_of_ble_eq_true rfl) (Nat.le_of_ble_eq_true rfl) ?_
      exact fi_z () hx hb hr rfl hlocks hK (hP.sub [0, 1] rfl) (hD.sub [0, 1] (by decide) rfl) hS (pf_X4_isPoured_5 u_when a day v_1 v_3 ha ev_1 c_2 ev_3 c_4) dX4_isPoured_25

theorem iw_X4_holds_4 : ∀ w ∈ wsX40, w ∈ wsX4_holds := fun w h => (List.mem_cons_of_mem _ (List.mem_append_right _ h))
theorem wd_X4_holds_1 : (.fieldLink RX4 37 "PourPlanModel" "when" "[I" : Cond) ∈ wsX4_holds := List.mem_of_getElem? (i := 1) rfl
set_option maxHeartbeats 1000000 in
theorem pf_X4_holds_1 (pts : Int32) (u_when : Nat → Int32) (u_degrees : Nat → Int32) (a : Int32) (hp0 : 0 ≤ pts) (hp6 : pts ≤ 6) (hdg : okDeg u_degrees pts) (hwh : okWh u_when) (ha : vp_in a 10) : vp_in a 10 := by
  exact ha
set_option maxHeartbeats 1000000 in
theorem pf_X4_holds_2 (pts : Int32) (u_when : Nat → Int32) (u_degrees : Nat → Int32) (a : Int32) (day : Int32) (r_1 : Int32) (hp0 : 0 ≤ pts) (hp6 : pts ≤ 6) (hdg : okDeg u_degrees pts) (hwh : okWh u_when) (ha : vp_in a 10) (w_2 : r_1 = bSt (u_when a.toNatClampNeg) day) (c_4 : ¬ r_1 = 0) : vp_in a 10 := by
  exact ha
set_option maxHeartbeats 1000000 in
theorem pf_X4_holds_3 (pts : Int32) (u_when : Nat → Int32) (u_degrees : Nat → Int32) (a : Int32) (day : Int32) (r_1 : Int32) (v_5 : Int32) (hp0 : 0 ≤ pts) (hp6 : pts ≤ 6) (hdg : okDeg u_degrees pts) (hwh : okWh u_when) (ha : vp_in a 10) (w_2 : r_1 = bSt (u_when a.toNatClampNeg) day) (c_4 : ¬ r_1 = 0) (ev_5 : v_5 = u_when a.toNatClampNeg) : -1 ≤ v_5 ∧ v_5 ≤ 39 := by
  have h9 := hwh a.toNatClampNeg
  grind
set_option maxHeartbeats 1000000 in
theorem pf_X4_holds_4 (pts : Int32) (u_when : Nat → Int32) (u_degrees : Nat → Int32) (a : Int32) (day : Int32) (r_1 : Int32) (v_5 : Int32) (hp0 : 0 ≤ pts) (hp6 : pts ≤ 6) (hdg : okDeg u_degrees pts) (hwh : okWh u_when) (ha : vp_in a 10) (w_2 : r_1 = bSt (u_when a.toNatClampNeg) day) (c_4 : ¬ r_1 = 0) (ev_5 : v_5 = u_when a.toNatClampNeg) (fx_6 : -1 ≤ v_5 ∧ v_5 ≤ 39) : 0 ≤ pts := by
  grind [bSt]
set_option maxHeartbeats 1000000 in
theorem pf_X4_holds_5 (pts : Int32) (u_when : Nat → Int32) (u_degrees : Nat → Int32) (a : Int32) (day : Int32) (r_1 : Int32) (v_5 : Int32) (hp0 : 0 ≤ pts) (hp6 : pts ≤ 6) (hdg : okDeg u_degrees pts) (hwh : okWh u_when) (ha : vp_in a 10) (w_2 : r_1 = bSt (u_when a.toNatClampNeg) day) (c_4 : ¬ r_1 = 0) (ev_5 : v_5 = u_when a.toNatClampNeg) (fx_6 : -1 ≤ v_5 ∧ v_5 ≤ 39) : pts ≤ 6 := by
  grind [bSt]
set_option maxHeartbeats 1000000 in
theorem pf_X4_holds_6 (pts : Int32) (u_when : Nat → Int32) (u_degrees : Nat → Int32) (a : Int32) (day : Int32) (r_1 : Int32) (v_5 : Int32) (hp0 : 0 ≤ pts) (hp6 : pts ≤ 6) (hdg : okDeg u_degrees pts) (hwh : okWh u_when) (ha : vp_in a 10) (w_2 : r_1 = bSt (u_when a.toNatClampNeg) day) (c_4 : ¬ r_1 = 0) (ev_5 : v_5 = u_when a.toNatClampNeg) (fx_6 : -1 ≤ v_5 ∧ v_5 ≤ 39) : okDeg u_degrees pts := by
  exact hdg
set_option maxHeartbeats 1000000 in
theorem pf_X4_holds_7 (pts : Int32) (u_when : Nat → Int32) (u_degrees : Nat → Int32) (a : Int32) (day : Int32) (r_1 : Int32) (v_5 : Int32) (hp0 : 0 ≤ pts) (hp6 : pts ≤ 6) (hdg : okDeg u_degrees pts) (hwh : okWh u_when) (ha : vp_in a 10) (w_2 : r_1 = bSt (u_when a.toNatClampNeg) day) (c_4 : ¬ r_1 = 0) (ev_5 : v_5 = u_when a.toNatClampNeg) (fx_6 : -1 ≤ v_5 ∧ v_5 ≤ 39) : 0 ≤ v_5 := by
  grind [bSt]
set_option maxHeartbeats 1000000 in
theorem pf_X4_holds_8 (pts : Int32) (u_when : Nat → Int32) (u_degrees : Nat → Int32) (a : Int32) (day : Int32) (r_1 : Int32) (v_5 : Int32) (hp0 : 0 ≤ pts) (hp6 : pts ≤ 6) (hdg : okDeg u_degrees pts) (hwh : okWh u_when) (ha : vp_in a 10) (w_2 : r_1 = bSt (u_when a.toNatClampNeg) day) (c_4 : ¬ r_1 = 0) (ev_5 : v_5 = u_when a.toNatClampNeg) (fx_6 : -1 ≤ v_5 ∧ v_5 ≤ 39) : v_5 ≤ 39 := by
  grind [bSt]
set_option maxHeartbeats 4000000 in
set_option maxRecDepth 100000 in
theorem c_X4_holds (l : Launch) (D : va_G) (cI cQ : ClassId) (sz : Nat) (y0 : Nat) (m_when : Nat) (m_warmth : Nat) (m_degrees : Nat) (m_thousandths : Nat) (m_kind : Nat) (m_floor : Nat) (m_volume : Nat) (m_size : Nat) (m_faces : Nat) (m_ahead : Nat) (m_order : Nat) (m_tried : Nat) (m_chosen : Nat) (m_forms : Nat) (m_longest : Nat) (num : Int32) (pts : Int32) (nw : Int32) (en : Int32) (gl : Int32) (bw : Int32) (sp : Int32) (be : Int32) (ab : Int64) (bl : Int64) (u_when : Nat → Int32) (u_warmth : Nat → Int32) (u_degrees : Nat → Int32) (u_thousandths : Nat → Int32) (a : Int32) (day : Int32) (hp0 : 0 ≤ pts) (hp6 : pts ≤ 6) (hdg : okDeg u_degrees pts) (hwh : okWh u_when) (ha : vp_in a 10) : CtI l yX4_holds wsX4_holds 3 70 0 0 [.ref y0, .int a, .int day] D [(cI, .int), (cQ, .array .int)] [(y0, .inr (4, [.int num, .int pts, .int nw, .int en, .int gl, .int bw, .int sp, .int be, .ref m_kind, .ref m_floor, .ref m_volume, .ref m_size, .ref m_faces, .ref m_when, .ref m_ahead, .ref m_order, .ref m_tried, .ref m_chosen, .ref m_forms, .ref m_warmth, .ref m_degrees, .ref m_thousandths, .ref m_longest, .long ab, .long bl])), (m_when, .inl (cI, 10, .inl u_when)), (m_warmth, .inl (cI, 40, .inl u_warmth)), (m_degrees, .inl (cI, 6, .inl u_degrees)), (m_thousandths, .inl (cI, 6, .inl u_thousandths))] sz (fun (r : Int32) (u : Unit) => True) (fun (u : Unit) => [(y0, .inr (4, [.int num, .int pts, .int nw, .int en, .int gl, .int bw, .int sp, .int be, .ref m_kind, .ref m_floor, .ref m_volume, .ref m_size, .ref m_faces, .ref m_when, .ref m_ahead, .ref m_order, .ref m_tried, .ref m_chosen, .ref m_forms, .ref m_warmth, .ref m_degrees, .ref m_thousandths, .ref m_longest, .long ab, .long bl])), (m_when, .inl (cI, 10, .inl u_when)), (m_warmth, .inl (cI, 40, .inl u_warmth)), (m_degrees, .inl (cI, 6, .inl u_degrees)), (m_thousandths, .inl (cI, 6, .inl u_thousandths))]) := by
  refine Met.ofW (cc := cX4_holds) (maxL := 3) (ret := (some .boolean)) (by decide) rfl ?_
  intro p e s m args below meth c s₁ B hml hv
  obtain ⟨rfl, hsz, hP, hK, hD0, hN⟩ := hv
  have hx := B.exec
  have hb := B.bytes
  have hr := B.returns
  have hts := atoms_spec (ws := wsX4_holds) B.pre
  have hown : s.vm.findClass RX4 = some m.cls := findClass_of_methodNamed B.named
  have hlocks := B.notSynchronized
  subst hsz
  have hD := hD0.self (sz := s.heap.size)
  generalize hAe : va_A [(y0, .inr (4, [.int num, .int pts, .int nw, .int en, .int gl, .int bw, .int sp, .int be, .ref m_kind, .ref m_floor, .ref m_volume, .ref m_size, .ref m_faces, .ref m_when, .ref m_ahead, .ref m_order, .ref m_tried, .ref m_chosen, .ref m_forms, .ref m_warmth, .ref m_degrees, .ref m_thousandths, .ref m_longest, .long ab, .long bl])), (m_when, .inl (cI, 10, .inl u_when)), (m_warmth, .inl (cI, 40, .inl u_warmth)), (m_degrees, .inl (cI, 6, .inl u_degrees)), (m_thousandths, .inl (cI, 6, .inl u_thousandths))] s.heap.size = A at hD ⊢
  have hA : ∀ q : Nat, s.heap.size ≤ q → A q := fun q h => by rw [← hAe]; exact Or.inr h
  have hS : va_S A s.heap s.heap [] := va_S.rf
  have hl := lv_entry ([.ref y0, .int a, .int day]) (n := 3) (Nat.le_of_ble_eq_true rfl)
  rw [lg_entry_eq]
  generalize (lg_sl ([.ref y0, .int a, .int day]) ++ List.replicate (3 - (lg_sl ([.ref y0, .int a, .int day])).length) Slot.unset).toArray = ls at hl ⊢
  have hl : lv_has ls 3 [(0, .ref y0), (1, .int a), (2, .int day)] := hl
  have hP0 := hP
  refine lv_aload_n hx hb dX4_holds_0 rfl (lv_at hl 0 rfl) ?_
  refine lv_iload_n hx hb dX4_holds_1 rfl (lv_at hl 1 rfl) ?_
  refine lv_iload_n hx hb dX4_holds_2 rfl (lv_at hl 2 rfl) ?_
  refine cc_i (wc := [(y0, .inr (4, [.int num, .int pts, .int nw, .int en, .int gl, .int bw, .int sp, .int be, .ref m_kind, .ref m_floor, .ref m_volume, .ref m_size, .ref m_faces, .ref m_when, .ref m_ahead, .ref m_order, .ref m_tried, .ref m_chosen, .ref m_forms, .ref m_warmth, .ref m_degrees, .ref m_thousandths, .ref m_longest, .long ab, .long bl])), (m_when, .inl (cI, 10, .inl u_when))]) (wr := [(m_warmth, .inl (cI, 40, .inl u_warmth)), (m_degrees, .inl (cI, 6, .inl u_degrees)), (m_thousandths, .inl (cI, 6, .inl u_thousandths))]) (va_runV (As := [.int a, .int day]) (rest := []) ⟨hx, hb, hml, hown, hts⟩ (c_X4_isPoured l D cI cQ s.heap.size y0 m_when m_kind m_floor m_volume m_size m_faces m_ahead m_order m_tried m_chosen m_forms m_warmth m_degrees m_thousandths m_longest num pts nw en gl bw sp be ab bl u_when a day (pf_X4_holds_1 pts u_when u_degrees a hp0 hp6 hdg hwh ha)) (cwV 2 hts gX4_holds_X4_isPoured rfl rfl rfl (by decide +kernel) ⟨Nat.le_of_ble_eq_true rfl, Nat.le_of_ble_eq_true rfl⟩) (preV (wc := [(y0, .inr (4, [.int num, .int pts, .int nw, .int en, .int gl, .int bw, .int sp, .int be, .ref m_kind, .ref m_floor, .ref m_volume, .ref m_size, .ref m_faces, .ref m_when, .ref m_ahead, .ref m_order, .ref m_tried, .ref m_chosen, .ref m_forms, .ref m_warmth, .ref m_degrees, .ref m_thousandths, .ref m_longest, .long ab, .long bl])), (m_when, .inl (cI, 10, .inl u_when))]) (ci := 4) (q0 := 0) hK hP hD hN [0, 1] rfl (by decide) rfl rfl) rfl rfl hl.1 rfl (lv_room (Nat.le_of_ble_eq_true rfl)) dX4_holds_3 ⟨Nat.le_of_ble_eq_true rfl, Nat.le_of_ble_eq_true rfl⟩) hP hD hS hA [0, 1] [2, 3, 4] rfl rfl (by decide) (by decide) (fun r_1 u H locs w_2 hP hD hS => ?_)
  have hP : va_P D vwCl [(m_warmth, .inl (cI, 40, .inl u_warmth)), (m_degrees, .inl (cI, 6, .inl u_degrees)), (m_thousandths, .inl (cI, 6, .inl u_thousandths)), (y0, .inr (4, [.int num, .int pts, .int nw, .int en, .int gl, .int bw, .int sp, .int be, .ref m_kind, .ref m_floor, .ref m_volume, .ref m_size, .ref m_faces, .ref m_when, .ref m_ahead, .ref m_order, .ref m_tried, .ref m_chosen, .ref m_forms, .ref m_warmth, .ref m_degrees, .ref m_thousandths, .ref m_longest, .long ab, .long bl])), (m_when, .inl (cI, 10, .inl u_when))] H := hP
  have hD : va_D A [(m_warmth, .inl (cI, 40, .inl u_warmth)), (m_degrees, .inl (cI, 6, .inl u_degrees)), (m_thousandths, .inl (cI, 6, .inl u_thousandths)), (y0, .inr (4, [.int num, .int pts, .int nw, .int en, .int gl, .int bw, .int sp, .int be, .ref m_kind, .ref m_floor, .ref m_volume, .ref m_size, .ref m_faces, .ref m_when, .ref m_ahead, .ref m_order, .ref m_tried, .ref m_chosen, .ref m_forms, .ref m_warmth, .ref m_degrees, .ref m_thousandths, .ref m_longest, .long ab, .long bl])), (m_when, .inl (cI, 10, .inl u_when))] := hD
  have w_2 : r_1 = bSt (u_when a.toNatClampNeg) day := w_2
  refine lv_if_eq (tgt := 27) hx hb dX4_holds_6 (by decide) (fun c_4 => ?_) (fun c_4 => ?_)
  · refine lv_iconst (v := 0) hx hb dX4_holds_27 (by decide) ?_
    refine W.widen (k := 0) (n := 0) (Nat.le_of_ble_eq_true rfl) (Nat.le_of_ble_eq_true rfl) ?_
    exact fi_z () hx hb hr rfl hlocks hK (hP.sub [3, 4, 0, 1, 2] rfl) (hD.sub [3, 4, 0, 1, 2] (by decide) rfl) hS trivial dX4_holds_28
  · refine lv_iload_n hx hb dX4_holds_9 rfl (lv_at hl 2 rfl) ?_
    refine lv_aload_n hx hb dX4_holds_10 rfl (lv_at hl 0 rfl) ?_
    refine lv_aload_n hx hb dX4_holds_11 rfl (lv_at hl 0 rfl) ?_
    refine va_get (D := D) (ci := 4) (v := .ref m_when) (C := RX4) (T := TX4) (N := 25) hx hb hts iw_X4_holds_4 hown hK hP 3 rfl rfl 13 (by decide) (hts _ wd_X4_holds_1) (fun _ h9 => h9) rfl dX4_holds_12 ?_
    refine lv_iload_n hx hb dX4_holds_15 rfl (lv_at hl 1 rfl) ?_
    refine va_iald hx hb hK hP 4 0 rfl rfl (pf_X4_holds_2 pts u_when u_degrees a day r_1 hp0 hp6 hdg hwh ha w_2 c_4) dX4_holds_16 ?_
    refine lv_topi (fun v_5 ev_5 => ?_)
    have fx_6 : -1 ≤ v_5 ∧ v_5 ≤ 39 := (pf_X4_holds_3 pts u_when u_degrees a day r_1 v_5 hp0 hp6 hdg hwh ha w_2 c_4 ev_5)
    refine cc_i (wc := [(y0, .inr (4, [.int num, .int pts, .int nw, .int en, .int gl, .int bw, .int sp, .int be, .ref m_kind, .ref m_floor, .ref m_volume, .ref m_size, .ref m_faces, .ref m_when, .ref m_ahead, .ref m_order, .ref m_tried, .ref m_chosen, .ref m_forms, .ref m_warmth, .ref m_degrees, .ref m_thousandths, .ref m_longest, .long ab, .long bl])), (m_warmth, .inl (cI, 40, .inl u_warmth)), (m_degrees, .inl (cI, 6, .inl u_degrees)), (m_thousandths, .inl (cI, 6, .inl u_thousandths))]) (wr := [(m_when, .inl (cI, 10, .inl u_when))]) (va_runV (As := [.int v_5]) (rest := [.int day]) ⟨hx, hb, hml, hown, hts⟩ (c_X4_stripped l D cI cQ H.size y0 m_warmth m_degrees m_thousandths m_kind m_floor m_volume m_size m_faces m_when m_ahead m_order m_tried m_chosen m_forms m_longest num pts nw en gl bw sp be ab bl u_warmth u_degrees u_thousandths v_5 (pf_X4_holds_4 pts u_when u_degrees a day r_1 v_5 hp0 hp6 hdg hwh ha w_2 c_4 ev_5 fx_6) (pf_X4_holds_5 pts u_when u_degrees a day r_1 v_5 hp0 hp6 hdg hwh ha w_2 c_4 ev_5 fx_6) (pf_X4_holds_6 pts u_when u_degrees a day r_1 v_5 hp0 hp6 hdg hwh ha w_2 c_4 ev_5 fx_6) (pf_X4_holds_7 pts u_when u_degrees a day r_1 v_5 hp0 hp6 hdg hwh ha w_2 c_4 ev_5 fx_6) (pf_X4_holds_8 pts u_when u_degrees a day r_1 v_5 hp0 hp6 hdg hwh ha w_2 c_4 ev_5 fx_6)) (cwV 1 hts gX4_holds_X4_stripped rfl rfl rfl (by decide +kernel) ⟨Nat.le_of_ble_eq_true rfl, Nat.le_of_ble_eq_true rfl⟩) (preV (wc := [(y0, .inr (4, [.int num, .int pts, .int nw, .int en, .int gl, .int bw, .int sp, .int be, .ref m_kind, .ref m_floor, .ref m_volume, .ref m_size, .ref m_faces, .ref m_when, .ref m_ahead, .ref m_order, .ref m_tried, .ref m_chosen, .ref m_forms, .ref m_warmth, .ref m_degrees, .ref m_thousandths, .ref m_longest, .long ab, .long bl])), (m_warmth, .inl (cI, 40, .inl u_warmth)), (m_degrees, .inl (cI, 6, .inl u_degrees)), (m_thousandths, .inl (cI, 6, .inl u_thousandths))]) (ci := 4) (q0 := 3) hK hP hD hN [3, 0, 1, 2] rfl (by decide) rfl rfl) rfl rfl hl.1 rfl (lv_room (Nat.le_of_ble_eq_true rfl)) dX4_holds_17 ⟨Nat.le_of_ble_eq_true rfl, Nat.le_of_ble_eq_true rfl⟩) hP hD hS hA [3, 0, 1, 2] [4] rfl rfl (by decide) (by decide) (fun r_7 u H locs w_8 hP hD hS => ?_)
    have hP : va_P D vwCl [(m_when, .inl (cI, 10, .inl u_when)), (y0, .inr (4, [.int num, .int pts, .int nw, .int en, .int gl, .int bw, .int sp, .int be, .ref m_kind, .ref m_floor, .ref m_volume, .ref m_size, .ref m_faces, .ref m_when, .ref m_ahead, .ref m_order, .ref m_tried, .ref m_chosen, .ref m_forms, .ref m_warmth, .ref m_degrees, .ref m_thousandths, .ref m_longest, .long ab, .long bl])), (m_warmth, .inl (cI, 40, .inl u_warmth)), (m_degrees, .inl (cI, 6, .inl u_degrees)), (m_thousandths, .inl (cI, 6, .inl u_thousandths))] H := hP
    have hD : va_D A [(m_when, .inl (cI, 10, .inl u_when)), (y0, .inr (4, [.int num, .int pts, .int nw, .int en, .int gl, .int bw, .int sp, .int be, .ref m_kind, .ref m_floor, .ref m_volume, .ref m_size, .ref m_faces, .ref m_when, .ref m_ahead, .ref m_order, .ref m_tried, .ref m_chosen, .ref m_forms, .ref m_warmth, .ref m_degrees, .ref m_thousandths, .ref m_longest, .long ab, .long bl])), (m_warmth, .inl (cI, 40, .inl u_warmth)), (m_degrees, .inl (cI, 6, .inl u_degrees)), (m_thousandths, .inl (cI, 6, .inl u_thousandths))] := hD
    have w_8 : r_7 ≤ 40 := w_8
    refine lv_icmp_ge (tgt := 27) hx hb dX4_holds_20 (by decide) (fun c_10 => ?_) (fun c_10 => ?_)
    · refine lv_iconst (v := 0) hx hb dX4_holds_27 (by decide) ?_
      refine W.widen (k := 0) (n := 0) (Nat.le_of_ble_eq_true rfl) (Nat.le_of_ble_eq_true rfl) ?_
      exact fi_z () hx hb hr rfl hlocks hK (hP.sub [1, 0, 2, 3, 4] rfl) (hD.sub [1, 0, 2, 3, 4] (by decide) rfl) hS trivial dX4_holds_28
    · refine lv_iconst (v := 1) hx hb dX4_holds_23 (by decide) ?_
      refine lv_goto (tgt := 28) hx hb dX4_holds_24 (by decide) ?_
      refine W.widen (k := 0) (n := 0) (Nat.le_of_ble_eq_true rfl) (Nat.le_of_ble_eq_true rfl) ?_
      exact fi_z () hx hb hr rfl hlocks hK (hP.sub [1, 0, 2, 3, 4] rfl) (hD.sub [1, 0, 2, 3, 4] (by decide) rfl) hS trivial dX4_holds_28

theorem iw_X4_freeOf_4 : ∀ w ∈ wsX40, w ∈ wsX4_freeOf := fun w h => (List.mem_cons_of_mem _ (List.mem_append_right _ h))
theorem wd_X4_freeOf_1 : (.fieldLink RX4 52 "PourPlanModel" "forms" "[I" : Cond) ∈ wsX4_freeOf := List.mem_of_getElem? (i := 1) rfl
theorem wd_X4_freeOf_2 : (.fieldLink RX4 67 "PourPlanModel" "pieces" "I" : Cond) ∈ wsX4_freeOf := List.mem_of_getElem? (i := 2) rfl
theorem wd_X4_freeOf_3 : (.fieldLink RX4 31 "PourPlanModel" "size" "[I" : Cond) ∈ wsX4_freeOf := List.mem_of_getElem? (i := 3) rfl
theorem wd_X4_freeOf_4 : (.fieldLink RX4 34 "PourPlanModel" "faces" "[I" : Cond) ∈ wsX4_freeOf := List.mem_of_getElem? (i := 4) rfl
set_option maxHeartbeats 1000000 in
theorem pf_X4_freeOf_1 (num : Int32) (pts : Int32) (u_when : Nat → Int32) (u_degrees : Nat → Int32) (s1 : Int32) (hn0 : 0 ≤ num) (hn1 : num ≤ 10) (hp0 : 0 ≤ pts) (hp6 : pts ≤ 6) (hdg : okDeg u_degrees pts) (hwh : okWh u_when) (hs1 : vp_in s1 3) : vp_in s1 3 := by
  exact hs1
set_option maxHeartbeats 1000000 in
theorem pf_X4_freeOf_2 (num : Int32) (pts : Int32) (u_forms : Nat → Int32) (u_when : Nat → Int32) (u_degrees : Nat → Int32) (s1 : Int32) (bu : Int32) (v_1 : Int32) (n_11 : Nat) (k : Int32) (v_4 : Int32) (hn0 : 0 ≤ num) (hn1 : num ≤ 10) (hp0 : 0 ≤ pts) (hp6 : pts ≤ 6) (hdg : okDeg u_degrees pts) (hwh : okWh u_when) (hs1 : vp_in s1 3) (ev_1 : v_1 = u_forms s1.toNatClampNeg) (hn_11 : 10 - k.toNatClampNeg < n_11 + 1) (h0k : 0 ≤ k) (c_2 : ¬ num ≤ k) (c_3 : k = bu) (ev_4 : v_4 = k + 1) : 10 - v_4.toNatClampNeg < n_11 := by
  exact ms_dec (L := 10) (k := k) (by grind) (show ¬ (10 : Int32) ≤ k by grind) (by omega) (by assumption) hn_11
set_option maxHeartbeats 1000000 in
theorem pf_X4_freeOf_3 (num : Int32) (pts : Int32) (u_forms : Nat → Int32) (u_when : Nat → Int32) (u_degrees : Nat → Int32) (s1 : Int32) (bu : Int32) (v_1 : Int32) (n_11 : Nat) (k : Int32) (v_4 : Int32) (hn0 : 0 ≤ num) (hn1 : num ≤ 10) (hp0 : 0 ≤ pts) (hp6 : pts ≤ 6) (hdg : okDeg u_degrees pts) (hwh : okWh u_when) (hs1 : vp_in s1 3) (ev_1 : v_1 = u_forms s1.toNatClampNeg) (hn_11 : 10 - k.toNatClampNeg < n_11 + 1) (h0k : 0 ≤ k) (c_2 : ¬ num ≤ k) (c_3 : k = bu) (ev_4 : v_4 = k + 1) : 0 ≤ v_4 := by
  grind
set_option maxHeartbeats 1000000 in
theorem pf_X4_freeOf_4 (num : Int32) (pts : Int32) (u_forms : Nat → Int32) (u_when : Nat → Int32) (u_degrees : Nat → Int32) (s1 : Int32) (bu : Int32) (v_1 : Int32) (n_11 : Nat) (k : Int32) (hn0 : 0 ≤ num) (hn1 : num ≤ 10) (hp0 : 0 ≤ pts) (hp6 : pts ≤ 6) (hdg : okDeg u_degrees pts) (hwh : okWh u_when) (hs1 : vp_in s1 3) (ev_1 : v_1 = u_forms s1.toNatClampNeg) (hn_11 : 10 - k.toNatClampNeg < n_11 + 1) (h0k : 0 ≤ k) (c_2 : ¬ num ≤ k) (c_3 : ¬ k = bu) : vp_in k 10 := by
  exact vi_in (M := 10) rfl (by grind) (by grind)
set_option maxHeartbeats 1000000 in
theorem pf_X4_freeOf_5 (num : Int32) (pts : Int32) (u_forms : Nat → Int32) (u_size : Nat → Int32) (u_when : Nat → Int32) (u_degrees : Nat → Int32) (s1 : Int32) (bu : Int32) (v_1 : Int32) (n_11 : Nat) (k : Int32) (v_5 : Int32) (v_7 : Int32) (hn0 : 0 ≤ num) (hn1 : num ≤ 10) (hp0 : 0 ≤ pts) (hp6 : pts ≤ 6) (hdg : okDeg u_degrees pts) (hwh : okWh u_when) (hs1 : vp_in s1 3) (ev_1 : v_1 = u_forms s1.toNatClampNeg) (hn_11 : 10 - k.toNatClampNeg < n_11 + 1) (h0k : 0 ≤ k) (c_2 : ¬ num ≤ k) (c_3 : ¬ k = bu) (ev_5 : v_5 = u_size k.toNatClampNeg) (c_6 : ¬ v_5 = s1) (ev_7 : v_7 = k + 1) : 10 - v_7.toNatClampNeg < n_11 := by
  exact ms_dec (L := 10) (k := k) (by grind) (show ¬ (10 : Int32) ≤ k by grind) (by omega) (by assumption) hn_11
set_option maxHeartbeats 1000000 in
theorem pf_X4_freeOf_6 (num : Int32) (pts : Int32) (u_forms : Nat → Int32) (u_size : Nat → Int32) (u_when : Nat → Int32) (u_degrees : Nat → Int32) (s1 : Int32) (bu : Int32) (v_1 : Int32) (n_11 : Nat) (k : Int32) (v_5 : Int32) (v_7 : Int32) (hn0 : 0 ≤ num) (hn1 : num ≤ 10) (hp0 : 0 ≤ pts) (hp6 : pts ≤ 6) (hdg : okDeg u_degrees pts) (hwh : okWh u_when) (hs1 : vp_in s1 3) (ev_1 : v_1 = u_forms s1.toNatClampNeg) (hn_11 : 10 - k.toNatClampNeg < n_11 + 1) (h0k : 0 ≤ k) (c_2 : ¬ num ≤ k) (c_3 : ¬ k = bu) (ev_5 : v_5 = u_size k.toNatClampNeg) (c_6 : ¬ v_5 = s1) (ev_7 : v_7 = k + 1) : 0 ≤ v_7 := by
  grind
set_option maxHeartbeats 1000000 in
theorem pf_X4_freeOf_7 (num : Int32) (pts : Int32) (u_forms : Nat → Int32) (u_size : Nat → Int32) (u_when : Nat → Int32) (u_degrees : Nat → Int32) (s1 : Int32) (bu : Int32) (v_1 : Int32) (n_11 : Nat) (k : Int32) (v_5 : Int32) (hn0 : 0 ≤ num) (hn1 : num ≤ 10) (hp0 : 0 ≤ pts) (hp6 : pts ≤ 6) (hdg : okDeg u_degrees pts) (hwh : okWh u_when) (hs1 : vp_in s1 3) (ev_1 : v_1 = u_forms s1.toNatClampNeg) (hn_11 : 10 - k.toNatClampNeg < n_11 + 1) (h0k : 0 ≤ k) (c_2 : ¬ num ≤ k) (c_3 : ¬ k = bu) (ev_5 : v_5 = u_size k.toNatClampNeg) (c_6 : v_5 = s1) : 0 ≤ pts := by
  grind
set_option maxHeartbeats 1000000 in
theorem pf_X4_freeOf_8 (num : Int32) (pts : Int32) (u_forms : Nat → Int32) (u_size : Nat → Int32) (u_when : Nat → Int32) (u_degrees : Nat → Int32) (s1 : Int32) (bu : Int32) (v_1 : Int32) (n_11 : Nat) (k : Int32) (v_5 : Int32) (hn0 : 0 ≤ num) (hn1 : num ≤ 10) (hp0 : 0 ≤ pts) (hp6 : pts ≤ 6) (hdg : okDeg u_degrees pts) (hwh : okWh u_when) (hs1 : vp_in s1 3) (ev_1 : v_1 = u_forms s1.toNatClampNeg) (hn_11 : 10 - k.toNatClampNeg < n_11 + 1) (h0k : 0 ≤ k) (c_2 : ¬ num ≤ k) (c_3 : ¬ k = bu) (ev_5 : v_5 = u_size k.toNatClampNeg) (c_6 : v_5 = s1) : pts ≤ 6 := by
  grind
set_option maxHeartbeats 1000000 in
theorem pf_X4_freeOf_9 (num : Int32) (pts : Int32) (u_forms : Nat → Int32) (u_size : Nat → Int32) (u_when : Nat → Int32) (u_degrees : Nat → Int32) (s1 : Int32) (bu : Int32) (v_1 : Int32) (n_11 : Nat) (k : Int32) (v_5 : Int32) (hn0 : 0 ≤ num) (hn1 : num ≤ 10) (hp0 : 0 ≤ pts) (hp6 : pts ≤ 6) (hdg : okDeg u_degrees pts) (hwh : okWh u_when) (hs1 : vp_in s1 3) (ev_1 : v_1 = u_forms s1.toNatClampNeg) (hn_11 : 10 - k.toNatClampNeg < n_11 + 1) (h0k : 0 ≤ k) (c_2 : ¬ num ≤ k) (c_3 : ¬ k = bu) (ev_5 : v_5 = u_size k.toNatClampNeg) (c_6 : v_5 = s1) : okDeg u_degrees pts := by
  exact hdg
set_option maxHeartbeats 1000000 in
theorem pf_X4_freeOf_10 (num : Int32) (pts : Int32) (u_forms : Nat → Int32) (u_size : Nat → Int32) (u_when : Nat → Int32) (u_degrees : Nat → Int32) (s1 : Int32) (bu : Int32) (v_1 : Int32) (n_11 : Nat) (k : Int32) (v_5 : Int32) (hn0 : 0 ≤ num) (hn1 : num ≤ 10) (hp0 : 0 ≤ pts) (hp6 : pts ≤ 6) (hdg : okDeg u_degrees pts) (hwh : okWh u_when) (hs1 : vp_in s1 3) (ev_1 : v_1 = u_forms s1.toNatClampNeg) (hn_11 : 10 - k.toNatClampNeg < n_11 + 1) (h0k : 0 ≤ k) (c_2 : ¬ num ≤ k) (c_3 : ¬ k = bu) (ev_5 : v_5 = u_size k.toNatClampNeg) (c_6 : v_5 = s1) : okWh u_when := by
  exact hwh
set_option maxHeartbeats 1000000 in
theorem pf_X4_freeOf_11 (num : Int32) (pts : Int32) (u_forms : Nat → Int32) (u_size : Nat → Int32) (u_when : Nat → Int32) (u_degrees : Nat → Int32) (s1 : Int32) (bu : Int32) (v_1 : Int32) (n_11 : Nat) (k : Int32) (v_5 : Int32) (hn0 : 0 ≤ num) (hn1 : num ≤ 10) (hp0 : 0 ≤ pts) (hp6 : pts ≤ 6) (hdg : okDeg u_degrees pts) (hwh : okWh u_when) (hs1 : vp_in s1 3) (ev_1 : v_1 = u_forms s1.toNatClampNeg) (hn_11 : 10 - k.toNatClampNeg < n_11 + 1) (h0k : 0 ≤ k) (c_2 : ¬ num ≤ k) (c_3 : ¬ k = bu) (ev_5 : v_5 = u_size k.toNatClampNeg) (c_6 : v_5 = s1) : vp_in k 10 := by
  exact vi_in (M := 10) rfl (by grind) (by grind)
set_option maxHeartbeats 1000000 in
theorem pf_X4_freeOf_12 (num : Int32) (pts : Int32) (u_forms : Nat → Int32) (u_size : Nat → Int32) (u_when : Nat → Int32) (u_degrees : Nat → Int32) (s1 : Int32) (bu : Int32) (v_1 : Int32) (n_11 : Nat) (k : Int32) (v_5 : Int32) (r_8 : Int32) (v_11 : Int32) (hn0 : 0 ≤ num) (hn1 : num ≤ 10) (hp0 : 0 ≤ pts) (hp6 : pts ≤ 6) (hdg : okDeg u_degrees pts) (hwh : okWh u_when) (hs1 : vp_in s1 3) (ev_1 : v_1 = u_forms s1.toNatClampNeg) (hn_11 : 10 - k.toNatClampNeg < n_11 + 1) (h0k : 0 ≤ k) (c_2 : ¬ num ≤ k) (c_3 : ¬ k = bu) (ev_5 : v_5 = u_size k.toNatClampNeg) (c_6 : v_5 = s1) (c_10 : r_8 = 0) (ev_11 : v_11 = k + 1) : 10 - v_11.toNatClampNeg < n_11 := by
  exact ms_dec (L := 10) (k := k) (by grind) (show ¬ (10 : Int32) ≤ k by grind) (by omega) (by assumption) hn_11
set_option maxHeartbeats 1000000 in
theorem pf_X4_freeOf_13 (num : Int32) (pts : Int32) (u_forms : Nat → Int32) (u_size : Nat → Int32) (u_when : Nat → Int32) (u_degrees : Nat → Int32) (s1 : Int32) (bu : Int32) (v_1 : Int32) (n_11 : Nat) (k : Int32) (v_5 : Int32) (r_8 : Int32) (v_11 : Int32) (hn0 : 0 ≤ num) (hn1 : num ≤ 10) (hp0 : 0 ≤ pts) (hp6 : pts ≤ 6) (hdg : okDeg u_degrees pts) (hwh : okWh u_when) (hs1 : vp_in s1 3) (ev_1 : v_1 = u_forms s1.toNatClampNeg) (hn_11 : 10 - k.toNatClampNeg < n_11 + 1) (h0k : 0 ≤ k) (c_2 : ¬ num ≤ k) (c_3 : ¬ k = bu) (ev_5 : v_5 = u_size k.toNatClampNeg) (c_6 : v_5 = s1) (c_10 : r_8 = 0) (ev_11 : v_11 = k + 1) : 0 ≤ v_11 := by
  grind
set_option maxHeartbeats 1000000 in
theorem pf_X4_freeOf_14 (num : Int32) (pts : Int32) (u_forms : Nat → Int32) (u_size : Nat → Int32) (u_when : Nat → Int32) (u_degrees : Nat → Int32) (s1 : Int32) (bu : Int32) (v_1 : Int32) (n_11 : Nat) (k : Int32) (v_5 : Int32) (r_8 : Int32) (hn0 : 0 ≤ num) (hn1 : num ≤ 10) (hp0 : 0 ≤ pts) (hp6 : pts ≤ 6) (hdg : okDeg u_degrees pts) (hwh : okWh u_when) (hs1 : vp_in s1 3) (ev_1 : v_1 = u_forms s1.toNatClampNeg) (hn_11 : 10 - k.toNatClampNeg < n_11 + 1) (h0k : 0 ≤ k) (c_2 : ¬ num ≤ k) (c_3 : ¬ k = bu) (ev_5 : v_5 = u_size k.toNatClampNeg) (c_6 : v_5 = s1) (c_10 : ¬ r_8 = 0) : vp_in k 10 := by
  exact vi_in (M := 10) rfl (by grind) (by grind)
set_option maxHeartbeats 1000000 in
theorem pf_X4_freeOf_15 (num : Int32) (pts : Int32) (u_forms : Nat → Int32) (u_size : Nat → Int32) (u_faces : Nat → Int32) (u_when : Nat → Int32) (u_degrees : Nat → Int32) (s1 : Int32) (bu : Int32) (v_1 : Int32) (n_11 : Nat) (k : Int32) (kf : Int32) (v_5 : Int32) (r_8 : Int32) (v_12 : Int32) (v_13 : Int32) (v_14 : Int32) (hn0 : 0 ≤ num) (hn1 : num ≤ 10) (hp0 : 0 ≤ pts) (hp6 : pts ≤ 6) (hdg : okDeg u_degrees pts) (hwh : okWh u_when) (hs1 : vp_in s1 3) (ev_1 : v_1 = u_forms s1.toNatClampNeg) (hn_11 : 10 - k.toNatClampNeg < n_11 + 1) (h0k : 0 ≤ k) (c_2 : ¬ num ≤ k) (c_3 : ¬ k = bu) (ev_5 : v_5 = u_size k.toNatClampNeg) (c_6 : v_5 = s1) (c_10 : ¬ r_8 = 0) (ev_12 : v_12 = u_faces k.toNatClampNeg) (ev_13 : v_13 = kf - v_12) (ev_14 : v_14 = k + 1) : 10 - v_14.toNatClampNeg < n_11 := by
  exact ms_dec (L := 10) (k := k) (by grind) (show ¬ (10 : Int32) ≤ k by grind) (by omega) (by assumption) hn_11
set_option maxHeartbeats 1000000 in
theorem pf_X4_freeOf_16 (num : Int32) (pts : Int32) (u_forms : Nat → Int32) (u_size : Nat → Int32) (u_faces : Nat → Int32) (u_when : Nat → Int32) (u_degrees : Nat → Int32) (s1 : Int32) (bu : Int32) (v_1 : Int32) (n_11 : Nat) (k : Int32) (kf : Int32) (v_5 : Int32) (r_8 : Int32) (v_12 : Int32) (v_13 : Int32) (v_14 : Int32) (hn0 : 0 ≤ num) (hn1 : num ≤ 10) (hp0 : 0 ≤ pts) (hp6 : pts ≤ 6) (hdg : okDeg u_degrees pts) (hwh : okWh u_when) (hs1 : vp_in s1 3) (ev_1 : v_1 = u_forms s1.toNatClampNeg) (hn_11 : 10 - k.toNatClampNeg < n_11 + 1) (h0k : 0 ≤ k) (c_2 : ¬ num ≤ k) (c_3 : ¬ k = bu) (ev_5 : v_5 = u_size k.toNatClampNeg) (c_6 : v_5 = s1) (c_10 : ¬ r_8 = 0) (ev_12 : v_12 = u_faces k.toNatClampNeg) (ev_13 : v_13 = kf - v_12) (ev_14 : v_14 = k + 1) : 0 ≤ v_14 := by
  grind
set_option maxHeartbeats 1000000 in
theorem pf_X4_freeOf_17 (num : Int32) (pts : Int32) (u_forms : Nat → Int32) (u_when : Nat → Int32) (u_degrees : Nat → Int32) (s1 : Int32) (v_1 : Int32) (hn0 : 0 ≤ num) (hn1 : num ≤ 10) (hp0 : 0 ≤ pts) (hp6 : pts ≤ 6) (hdg : okDeg u_degrees pts) (hwh : okWh u_when) (hs1 : vp_in s1 3) (ev_1 : v_1 = u_forms s1.toNatClampNeg) : 0 ≤ (0 : Int32) := by
  grind
set_option maxHeartbeats 4000000 in
set_option maxRecDepth 100000 in
theorem c_X4_freeOf (l : Launch) (D : va_G) (cI cQ : ClassId) (sz : Nat) (y0 : Nat) (m_forms : Nat) (m_size : Nat) (m_faces : Nat) (m_when : Nat) (m_warmth : Nat) (m_degrees : Nat) (m_thousandths : Nat) (m_kind : Nat) (m_floor : Nat) (m_volume : Nat) (m_ahead : Nat) (m_order : Nat) (m_tried : Nat) (m_chosen : Nat) (m_longest : Nat) (num : Int32) (pts : Int32) (nw : Int32) (en : Int32) (gl : Int32) (bw : Int32) (sp : Int32) (be : Int32) (ab : Int64) (bl : Int64) (u_forms : Nat → Int32) (u_size : Nat → Int32) (u_faces : Nat → Int32) (u_when : Nat → Int32) (u_warmth : Nat → Int32) (u_degrees : Nat → Int32) (u_thousandths : Nat → Int32) (s1 : Int32) (day : Int32) (bu : Int32) (hn0 : 0 ≤ num) (hn1 : num ≤ 10) (hp0 : 0 ≤ pts) (hp6 : pts ≤ 6) (hdg : okDeg u_degrees pts) (hwh : okWh u_when) (hs1 : vp_in s1 3) : CtI l yX4_freeOf wsX4_freeOf 4 92 0 0 [.ref y0, .int s1, .int day, .int bu] D [(cI, .int), (cQ, .array .int)] [(y0, .inr (4, [.int num, .int pts, .int nw, .int en, .int gl, .int bw, .int sp, .int be, .ref m_kind, .ref m_floor, .ref m_volume, .ref m_size, .ref m_faces, .ref m_when, .ref m_ahead, .ref m_order, .ref m_tried, .ref m_chosen, .ref m_forms, .ref m_warmth, .ref m_degrees, .ref m_thousandths, .ref m_longest, .long ab, .long bl])), (m_forms, .inl (cI, 3, .inl u_forms)), (m_size, .inl (cI, 10, .inl u_size)), (m_faces, .inl (cI, 10, .inl u_faces)), (m_when, .inl (cI, 10, .inl u_when)), (m_warmth, .inl (cI, 40, .inl u_warmth)), (m_degrees, .inl (cI, 6, .inl u_degrees)), (m_thousandths, .inl (cI, 6, .inl u_thousandths))] sz (fun (r : Int32) (u : Unit) => True) (fun (u : Unit) => [(y0, .inr (4, [.int num, .int pts, .int nw, .int en, .int gl, .int bw, .int sp, .int be, .ref m_kind, .ref m_floor, .ref m_volume, .ref m_size, .ref m_faces, .ref m_when, .ref m_ahead, .ref m_order, .ref m_tried, .ref m_chosen, .ref m_forms, .ref m_warmth, .ref m_degrees, .ref m_thousandths, .ref m_longest, .long ab, .long bl])), (m_forms, .inl (cI, 3, .inl u_forms)), (m_size, .inl (cI, 10, .inl u_size)), (m_faces, .inl (cI, 10, .inl u_faces)), (m_when, .inl (cI, 10, .inl u_when)), (m_warmth, .inl (cI, 40, .inl u_warmth)), (m_degrees, .inl (cI, 6, .inl u_degrees)), (m_thousandths, .inl (cI, 6, .inl u_thousandths))]) := by
  refine Met.ofW (cc := cX4_freeOf) (maxL := 6) (ret := (some .int)) (by decide) rfl ?_
  intro p e s m args below meth c s₁ B hml hv
  obtain ⟨rfl, hsz, hP, hK, hD0, hN⟩ := hv
  have hx := B.exec
  have hb := B.bytes
  have hr := B.returns
  have hts := atoms_spec (ws := wsX4_freeOf) B.pre
  have hown : s.vm.findClass RX4 = some m.cls := findClass_of_methodNamed B.named
  have hlocks := B.notSynchronized
  subst hsz
  have hD := hD0.self (sz := s.heap.size)
  generalize hAe : va_A [(y0, .inr (4, [.int num, .int pts, .int nw, .int en, .int gl, .int bw, .int sp, .int be, .ref m_kind, .ref m_floor, .ref m_volume, .ref m_size, .ref m_faces, .ref m_when, .ref m_ahead, .ref m_order, .ref m_tried, .ref m_chosen, .ref m_forms, .ref m_warmth, .ref m_degrees, .ref m_thousandths, .ref m_longest, .long ab, .long bl])), (m_forms, .inl (cI, 3, .inl u_forms)), (m_size, .inl (cI, 10, .inl u_size)), (m_faces, .inl (cI, 10, .inl u_faces)), (m_when, .inl (cI, 10, .inl u_when)), (m_warmth, .inl (cI, 40, .inl u_warmth)), (m_degrees, .inl (cI, 6, .inl u_degrees)), (m_thousandths, .inl (cI, 6, .inl u_thousandths))] s.heap.size = A at hD ⊢
  have hA : ∀ q : Nat, s.heap.size ≤ q → A q := fun q h => by rw [← hAe]; exact Or.inr h
  have hS : va_S A s.heap s.heap [] := va_S.rf
  have hl := lv_entry ([.ref y0, .int s1, .int day, .int bu]) (n := 6) (Nat.le_of_ble_eq_true rfl)
  rw [lg_entry_eq]
  generalize (lg_sl ([.ref y0, .int s1, .int day, .int bu]) ++ List.replicate (6 - (lg_sl ([.ref y0, .int s1, .int day, .int bu])).length) Slot.unset).toArray = ls at hl ⊢
  have hl : lv_has ls 6 [(0, .ref y0), (1, .int s1), (2, .int day), (3, .int bu)] := hl
  refine W_gen (fun GW hIn hOut => ?_)
  refine hIn _ _ _ _ _ ?_
  have hP0 := hP
  refine lv_aload_n hx hb dX4_freeOf_0 rfl (lv_at hl 0 rfl) ?_
  refine va_get (D := D) (ci := 4) (v := .ref m_forms) (C := RX4) (T := TX4) (N := 25) hx hb hts iw_X4_freeOf_4 hown hK hP 0 rfl rfl 18 (by decide) (hts _ wd_X4_freeOf_1) (fun _ h9 => h9) rfl dX4_freeOf_1 ?_
  refine lv_iload_n hx hb dX4_freeOf_4 rfl (lv_at hl 1 rfl) ?_
  refine va_iald hx hb hK hP 1 0 rfl rfl (pf_X4_freeOf_1 num pts u_when u_degrees s1 hn0 hn1 hp0 hp6 hdg hwh hs1) dX4_freeOf_5 ?_
  refine lv_topi (fun v_1 ev_1 => ?_)
  refine lv_istore (lv' := [(4, .int v_1), (0, .ref y0), (1, .int s1), (2, .int day), (3, .int bu)]) hx hb dX4_freeOf_6 hl (by decide) rfl (fun ls hl => ?_)
  refine lv_iconst (v := 0) hx hb dX4_freeOf_8 (by decide) ?_
  refine lv_istore (lv' := [(5, .int 0), (4, .int v_1), (0, .ref y0), (1, .int s1), (2, .int day), (3, .int bu)]) hx hb dX4_freeOf_9 hl (by decide) rfl (fun ls hl => ?_)
  have lp_11 : ∀ (n : Nat) (k : Int32) (kf : Int32) (H : Heap) (locs : List Loc) (ls : Array Slot), 10 - k.toNatClampNeg < n → (0 ≤ k) → va_P D vwCl [(y0, .inr (4, [.int num, .int pts, .int nw, .int en, .int gl, .int bw, .int sp, .int be, .ref m_kind, .ref m_floor, .ref m_volume, .ref m_size, .ref m_faces, .ref m_when, .ref m_ahead, .ref m_order, .ref m_tried, .ref m_chosen, .ref m_forms, .ref m_warmth, .ref m_degrees, .ref m_thousandths, .ref m_longest, .long ab, .long bl])), (m_forms, .inl (cI, 3, .inl u_forms)), (m_size, .inl (cI, 10, .inl u_size)), (m_faces, .inl (cI, 10, .inl u_faces)), (m_when, .inl (cI, 10, .inl u_when)), (m_warmth, .inl (cI, 40, .inl u_warmth)), (m_degrees, .inl (cI, 6, .inl u_degrees)), (m_thousandths, .inl (cI, 6, .inl u_thousandths))] H → va_D A [(y0, .inr (4, [.int num, .int pts, .int nw, .int en, .int gl, .int bw, .int sp, .int be, .ref m_kind, .ref m_floor, .ref m_volume, .ref m_size, .ref m_faces, .ref m_when, .ref m_ahead, .ref m_order, .ref m_tried, .ref m_chosen, .ref m_forms, .ref m_warmth, .ref m_degrees, .ref m_thousandths, .ref m_longest, .long ab, .long bl])), (m_forms, .inl (cI, 3, .inl u_forms)), (m_size, .inl (cI, 10, .inl u_size)), (m_faces, .inl (cI, 10, .inl u_faces)), (m_when, .inl (cI, 10, .inl u_when)), (m_warmth, .inl (cI, 40, .inl u_warmth)), (m_degrees, .inl (cI, 6, .inl u_degrees)), (m_thousandths, .inl (cI, 6, .inl u_thousandths))] → va_S A s.heap H locs → lv_has ls 6 [(0, .ref y0), (1, .int s1), (2, .int day), (3, .int bu), (4, .int kf), (5, .int k)] → GW H locs 0 0 (F0 m 11 ls []) := by
    intro n_11
    induction n_11 with
    | zero => intro k kf H locs ls hn_11; exact absurd hn_11 (Nat.not_lt_zero _)
    | succ n_11 ih_11 =>
      intro k kf H locs ls hn_11 h0k hP hD hS hl
      refine hIn _ _ _ _ _ ?_
      refine lv_iload hx hb dX4_freeOf_11 (lv_at hl 5 rfl) ?_
      refine lv_aload_n hx hb dX4_freeOf_13 rfl (lv_at hl 0 rfl) ?_
      refine va_get (D := D) (ci := 4) (v := .int num) (C := RX4) (T := TX4) (N := 25) hx hb hts iw_X4_freeOf_4 hown hK hP 0 rfl rfl 0 (by decide) (hts _ wd_X4_freeOf_2) (fun _ h9 => h9) rfl dX4_freeOf_14 ?_
      refine lv_icmp_ge (tgt := 65) hx hb dX4_freeOf_17 (by decide) (fun c_2 => ?_) (fun c_2 => ?_)
      · refine lv_iload hx hb dX4_freeOf_65 (lv_at hl 4 rfl) ?_
        refine W.widen (k := 0) (n := 0) (Nat.le_of_ble_eq_true rfl) (Nat.le_of_ble_eq_true rfl) ?_
        exact fi_i () hx hb hr hlocks hK (hP.sub [0, 1, 2, 3, 4, 5, 6, 7] rfl) (hD.sub [0, 1, 2, 3, 4, 5, 6, 7] (by decide) rfl) hS trivial dX4_freeOf_67
      · refine lv_iload hx hb dX4_freeOf_20 (lv_at hl 5 rfl) ?_
        refine lv_iload_n hx hb dX4_freeOf_22 rfl (lv_at hl 3 rfl) ?_
        refine lv_icmp_eq (tgt := 59) hx hb dX4_freeOf_23 (by decide) (fun c_3 => ?_) (fun c_3 => ?_)
        · obtain ⟨v_4, ev_4⟩ : ∃ y : Int32, y = k + 1 := ⟨_, rfl⟩
          refine lv_iinc (v := v_4) (lv' := [(5, .int v_4), (0, .ref y0), (1, .int s1), (2, .int day), (3, .int bu), (4, .int kf)]) hx hb dX4_freeOf_59 hl (k := 5) rfl (by rw [ev_4]; rfl) (by decide) rfl (fun ls hl => ?_)
          refine lv_goto (tgt := 11) hx hb dX4_freeOf_62 (by decide) ?_
          exact hOut _ _ _ _ _ (ih_11 v_4 kf _ _ _ (pf_X4_freeOf_2 num pts u_forms u_when u_degrees s1 bu v_1 n_11 k v_4 hn0 hn1 hp0 hp6 hdg hwh hs1 ev_1 hn_11 h0k c_2 c_3 ev_4) (pf_X4_freeOf_3 num pts u_forms u_when u_degrees s1 bu v_1 n_11 k v_4 hn0 hn1 hp0 hp6 hdg hwh hs1 ev_1 hn_11 h0k c_2 c_3 ev_4) (hP.sub [0, 1, 2, 3, 4, 5, 6, 7] rfl) (hD.sub [0, 1, 2, 3, 4, 5, 6, 7] (by decide) rfl) hS (lv_sub hl [1, 2, 3, 4, 5, 0] rfl))
        · refine lv_aload_n hx hb dX4_freeOf_26 rfl (lv_at hl 0 rfl) ?_
          refine va_get (D := D) (ci := 4) (v := .ref m_size) (C := RX4) (T := TX4) (N := 25) hx hb hts iw_X4_freeOf_4 hown hK hP 0 rfl rfl 11 (by decide) (hts _ wd_X4_freeOf_3) (fun _ h9 => h9) rfl dX4_freeOf_27 ?_
          refine lv_iload hx hb dX4_freeOf_30 (lv_at hl 5 rfl) ?_
          refine va_iald hx hb hK hP 2 0 rfl rfl (pf_X4_freeOf_4 num pts u_forms u_when u_degrees s1 bu v_1 n_11 k hn0 hn1 hp0 hp6 hdg hwh hs1 ev_1 hn_11 h0k c_2 c_3) dX4_freeOf_32 ?_
          refine lv_topi (fun v_5 ev_5 => ?_)
          refine lv_iload_n hx hb dX4_freeOf_33 rfl (lv_at hl 1 rfl) ?_
          refine lv_icmp_ne (tgt := 59) hx hb dX4_freeOf_34 (by decide) (fun c_6 => ?_) (fun c_6 => ?_)
          · obtain ⟨v_7, ev_7⟩ : ∃ y : Int32, y = k + 1 := ⟨_, rfl⟩
            refine lv_iinc (v := v_7) (lv' := [(5, .int v_7), (0, .ref y0), (1, .int s1), (2, .int day), (3, .int bu), (4, .int kf)]) hx hb dX4_freeOf_59 hl (k := 5) rfl (by rw [ev_7]; rfl) (by decide) rfl (fun ls hl => ?_)
            refine lv_goto (tgt := 11) hx hb dX4_freeOf_62 (by decide) ?_
            exact hOut _ _ _ _ _ (ih_11 v_7 kf _ _ _ (pf_X4_freeOf_5 num pts u_forms u_size u_when u_degrees s1 bu v_1 n_11 k v_5 v_7 hn0 hn1 hp0 hp6 hdg hwh hs1 ev_1 hn_11 h0k c_2 c_3 ev_5 c_6 ev_7) (pf_X4_freeOf_6 num pts u_forms u_size u_when u_degrees s1 bu v_1 n_11 k v_5 v_7 hn0 hn1 hp0 hp6 hdg hwh hs1 ev_1 hn_11 h0k c_2 c_3 ev_5 c_6 ev_7) (hP.sub [0, 1, 2, 3, 4, 5, 6, 7] rfl) (hD.sub [0, 1, 2, 3, 4, 5, 6, 7] (by decide) rfl) hS (lv_sub hl [1, 2, 3, 4, 5, 0] rfl))
          · refine lv_aload_n hx hb dX4_freeOf_37 rfl (lv_at hl 0 rfl) ?_
            refine lv_iload hx hb dX4_freeOf_38 (lv_at hl 5 rfl) ?_
            refine lv_iload_n hx hb dX4_freeOf_40 rfl (lv_at hl 2 rfl) ?_
            refine cc_i (wc := [(y0, .inr (4, [.int num, .int pts, .int nw, .int en, .int gl, .int bw, .int sp, .int be, .ref m_kind, .ref m_floor, .ref m_volume, .ref m_size, .ref m_faces, .ref m_when, .ref m_ahead, .ref m_order, .ref m_tried, .ref m_chosen, .ref m_forms, .ref m_warmth, .ref m_degrees, .ref m_thousandths, .ref m_longest, .long ab, .long bl])), (m_when, .inl (cI, 10, .inl u_when)), (m_warmth, .inl (cI, 40, .inl u_warmth)), (m_degrees, .inl (cI, 6, .inl u_degrees)), (m_thousandths, .inl (cI, 6, .inl u_thousandths))]) (wr := [(m_forms, .inl (cI, 3, .inl u_forms)), (m_size, .inl (cI, 10, .inl u_size)), (m_faces, .inl (cI, 10, .inl u_faces))]) (va_runV (As := [.int k, .int day]) (rest := []) ⟨hx, hb, hml, hown, hts⟩ (c_X4_holds l D cI cQ H.size y0 m_when m_warmth m_degrees m_thousandths m_kind m_floor m_volume m_size m_faces m_ahead m_order m_tried m_chosen m_forms m_longest num pts nw en gl bw sp be ab bl u_when u_warmth u_degrees u_thousandths k day (pf_X4_freeOf_7 num pts u_forms u_size u_when u_degrees s1 bu v_1 n_11 k v_5 hn0 hn1 hp0 hp6 hdg hwh hs1 ev_1 hn_11 h0k c_2 c_3 ev_5 c_6) (pf_X4_freeOf_8 num pts u_forms u_size u_when u_degrees s1 bu v_1 n_11 k v_5 hn0 hn1 hp0 hp6 hdg hwh hs1 ev_1 hn_11 h0k c_2 c_3 ev_5 c_6) (pf_X4_freeOf_9 num pts u_forms u_size u_when u_degrees s1 bu v_1 n_11 k v_5 hn0 hn1 hp0 hp6 hdg hwh hs1 ev_1 hn_11 h0k c_2 c_3 ev_5 c_6) (pf_X4_freeOf_10 num pts u_forms u_size u_when u_degrees s1 bu v_1 n_11 k v_5 hn0 hn1 hp0 hp6 hdg hwh hs1 ev_1 hn_11 h0k c_2 c_3 ev_5 c_6) (pf_X4_freeOf_11 num pts u_forms u_size u_when u_degrees s1 bu v_1 n_11 k v_5 hn0 hn1 hp0 hp6 hdg hwh hs1 ev_1 hn_11 h0k c_2 c_3 ev_5 c_6)) (cwV 2 hts gX4_freeOf_X4_holds rfl rfl rfl (by decide +kernel) ⟨Nat.le_of_ble_eq_true rfl, Nat.le_of_ble_eq_true rfl⟩) (preV (wc := [(y0, .inr (4, [.int num, .int pts, .int nw, .int en, .int gl, .int bw, .int sp, .int be, .ref m_kind, .ref m_floor, .ref m_volume, .ref m_size, .ref m_faces, .ref m_when, .ref m_ahead, .ref m_order, .ref m_tried, .ref m_chosen, .ref m_forms, .ref m_warmth, .ref m_degrees, .ref m_thousandths, .ref m_longest, .long ab, .long bl])), (m_when, .inl (cI, 10, .inl u_when)), (m_warmth, .inl (cI, 40, .inl u_warmth)), (m_degrees, .inl (cI, 6, .inl u_degrees)), (m_thousandths, .inl (cI, 6, .inl u_thousandths))]) (ci := 4) (q0 := 0) hK hP hD hN [0, 4, 5, 6, 7] rfl (by decide) rfl rfl) rfl rfl hl.1 rfl (lv_room (Nat.le_of_ble_eq_true rfl)) dX4_freeOf_41 ⟨Nat.le_of_ble_eq_true rfl, Nat.le_of_ble_eq_true rfl⟩) hP hD hS hA [0, 4, 5, 6, 7] [1, 2, 3] rfl rfl (by decide) (by decide) (fun r_8 u H locs w_9 hP hD hS => ?_)
            have hP : va_P D vwCl [(m_forms, .inl (cI, 3, .inl u_forms)), (m_size, .inl (cI, 10, .inl u_size)), (m_faces, .inl (cI, 10, .inl u_faces)), (y0, .inr (4, [.int num, .int pts, .int nw, .int en, .int gl, .int bw, .int sp, .int be, .ref m_kind, .ref m_floor, .ref m_volume, .ref m_size, .ref m_faces, .ref m_when, .ref m_ahead, .ref m_order, .ref m_tried, .ref m_chosen, .ref m_forms, .ref m_warmth, .ref m_degrees, .ref m_thousandths, .ref m_longest, .long ab, .long bl])), (m_when, .inl (cI, 10, .inl u_when)), (m_warmth, .inl (cI, 40, .inl u_warmth)), (m_degrees, .inl (cI, 6, .inl u_degrees)), (m_thousandths, .inl (cI, 6, .inl u_thousandths))] H := hP
            have hD : va_D A [(m_forms, .inl (cI, 3, .inl u_forms)), (m_size, .inl (cI, 10, .inl u_size)), (m_faces, .inl (cI, 10, .inl u_faces)), (y0, .inr (4, [.int num, .int pts, .int nw, .int en, .int gl, .int bw, .int sp, .int be, .ref m_kind, .ref m_floor, .ref m_volume, .ref m_size, .ref m_faces, .ref m_when, .ref m_ahead, .ref m_order, .ref m_tried, .ref m_chosen, .ref m_forms, .ref m_warmth, .ref m_degrees, .ref m_thousandths, .ref m_longest, .long ab, .long bl])), (m_when, .inl (cI, 10, .inl u_when)), (m_warmth, .inl (cI, 40, .inl u_warmth)), (m_degrees, .inl (cI, 6, .inl u_degrees)), (m_thousandths, .inl (cI, 6, .inl u_thousandths))] := hD
            refine lv_if_eq (tgt := 59) hx hb dX4_freeOf_44 (by decide) (fun c_10 => ?_) (fun c_10 => ?_)
            · obtain ⟨v_11, ev_11⟩ : ∃ y : Int32, y = k + 1 := ⟨_, rfl⟩
              refine lv_iinc (v := v_11) (lv' := [(5, .int v_11), (0, .ref y0), (1, .int s1), (2, .int day), (3, .int bu), (4, .int kf)]) hx hb dX4_freeOf_59 hl (k := 5) rfl (by rw [ev_11]; rfl) (by decide) rfl (fun ls hl => ?_)
              refine lv_goto (tgt := 11) hx hb dX4_freeOf_62 (by decide) ?_
              exact hOut _ _ _ _ _ (ih_11 v_11 kf _ _ _ (pf_X4_freeOf_12 num pts u_forms u_size u_when u_degrees s1 bu v_1 n_11 k v_5 r_8 v_11 hn0 hn1 hp0 hp6 hdg hwh hs1 ev_1 hn_11 h0k c_2 c_3 ev_5 c_6 c_10 ev_11) (pf_X4_freeOf_13 num pts u_forms u_size u_when u_degrees s1 bu v_1 n_11 k v_5 r_8 v_11 hn0 hn1 hp0 hp6 hdg hwh hs1 ev_1 hn_11 h0k c_2 c_3 ev_5 c_6 c_10 ev_11) (hP.sub [3, 0, 1, 2, 4, 5, 6, 7] rfl) (hD.sub [3, 0, 1, 2, 4, 5, 6, 7] (by decide) rfl) hS (lv_sub hl [1, 2, 3, 4, 5, 0] rfl))
            · refine lv_iload hx hb dX4_freeOf_47 (lv_at hl 4 rfl) ?_
              refine lv_aload_n hx hb dX4_freeOf_49 rfl (lv_at hl 0 rfl) ?_
              refine va_get (D := D) (ci := 4) (v := .ref m_faces) (C := RX4) (T := TX4) (N := 25) hx hb hts iw_X4_freeOf_4 hown hK hP 3 rfl rfl 12 (by decide) (hts _ wd_X4_freeOf_4) (fun _ h9 => h9) rfl dX4_freeOf_50 ?_
              refine lv_iload hx hb dX4_freeOf_53 (lv_at hl 5 rfl) ?_
              refine va_iald hx hb hK hP 2 0 rfl rfl (pf_X4_freeOf_14 num pts u_forms u_size u_when u_degrees s1 bu v_1 n_11 k v_5 r_8 hn0 hn1 hp0 hp6 hdg hwh hs1 ev_1 hn_11 h0k c_2 c_3 ev_5 c_6 c_10) dX4_freeOf_55 ?_
              refine lv_topi (fun v_12 ev_12 => ?_)
              refine lv_isub hx hb dX4_freeOf_56 ?_
              refine lv_topi (fun v_13 ev_13 => ?_)
              refine lv_istore (lv' := [(4, .int v_13), (0, .ref y0), (1, .int s1), (2, .int day), (3, .int bu), (5, .int k)]) hx hb dX4_freeOf_57 hl (by decide) rfl (fun ls hl => ?_)
              obtain ⟨v_14, ev_14⟩ : ∃ y : Int32, y = k + 1 := ⟨_, rfl⟩
              refine lv_iinc (v := v_14) (lv' := [(5, .int v_14), (4, .int v_13), (0, .ref y0), (1, .int s1), (2, .int day), (3, .int bu)]) hx hb dX4_freeOf_59 hl (k := 5) rfl (by rw [ev_14]; rfl) (by decide) rfl (fun ls hl => ?_)
              refine lv_goto (tgt := 11) hx hb dX4_freeOf_62 (by decide) ?_
              exact hOut _ _ _ _ _ (ih_11 v_14 v_13 _ _ _ (pf_X4_freeOf_15 num pts u_forms u_size u_faces u_when u_degrees s1 bu v_1 n_11 k kf v_5 r_8 v_12 v_13 v_14 hn0 hn1 hp0 hp6 hdg hwh hs1 ev_1 hn_11 h0k c_2 c_3 ev_5 c_6 c_10 ev_12 ev_13 ev_14) (pf_X4_freeOf_16 num pts u_forms u_size u_faces u_when u_degrees s1 bu v_1 n_11 k kf v_5 r_8 v_12 v_13 v_14 hn0 hn1 hp0 hp6 hdg hwh hs1 ev_1 hn_11 h0k c_2 c_3 ev_5 c_6 c_10 ev_12 ev_13 ev_14) (hP.sub [3, 0, 1, 2, 4, 5, 6, 7] rfl) (hD.sub [3, 0, 1, 2, 4, 5, 6, 7] (by decide) rfl) hS (lv_sub hl [2, 3, 4, 5, 1, 0] rfl))
  exact hOut _ _ _ _ _ (lp_11 (10 - (0 : Int32).toNatClampNeg + 1) 0 v_1 _ _ _ (Nat.lt_succ_self _) (pf_X4_freeOf_17 num pts u_forms u_when u_degrees s1 v_1 hn0 hn1 hp0 hp6 hdg hwh hs1 ev_1) (hP.sub [0, 1, 2, 3, 4, 5, 6, 7] rfl) (hD.sub [0, 1, 2, 3, 4, 5, 6, 7] (by decide) rfl) hS (lv_sub hl [2, 3, 4, 5, 1, 0] rfl))

theorem iw_X4_volumes_4 : ∀ w ∈ wsX40, w ∈ wsX4_volumes := fun w h => (List.mem_cons_of_mem _ (List.mem_append_right _ h))
theorem wd_X4_volumes_1 : (.fieldLink RX4 67 "PourPlanModel" "pieces" "I" : Cond) ∈ wsX4_volumes := List.mem_of_getElem? (i := 1) rfl
theorem wd_X4_volumes_2 : (.fieldLink RX4 37 "PourPlanModel" "when" "[I" : Cond) ∈ wsX4_volumes := List.mem_of_getElem? (i := 2) rfl
theorem wd_X4_volumes_3 : (.fieldLink RX4 28 "PourPlanModel" "volume" "[I" : Cond) ∈ wsX4_volumes := List.mem_of_getElem? (i := 3) rfl
set_option maxHeartbeats 1000000 in
theorem pf_X4_volumes_1 (num : Int32) (bu : Int32) (n_5 : Nat) (k : Int32) (v_3 : Int32) (hn0 : 0 ≤ num) (hn1 : num ≤ 10) (hn_5 : 10 - k.toNatClampNeg < n_5 + 1) (h0k : 0 ≤ k) (c_1 : ¬ num ≤ k) (c_2 : k = bu) (ev_3 : v_3 = k + 1) : 10 - v_3.toNatClampNeg < n_5 := by
  exact ms_dec (L := 10) (k := k) (by grind) (show ¬ (10 : Int32) ≤ k by grind) (by omega) (by assumption) hn_5
set_option maxHeartbeats 1000000 in
theorem pf_X4_volumes_2 (num : Int32) (bu : Int32) (n_5 : Nat) (k : Int32) (v_3 : Int32) (hn0 : 0 ≤ num) (hn1 : num ≤ 10) (hn_5 : 10 - k.toNatClampNeg < n_5 + 1) (h0k : 0 ≤ k) (c_1 : ¬ num ≤ k) (c_2 : k = bu) (ev_3 : v_3 = k + 1) : 0 ≤ v_3 := by
  grind
set_option maxHeartbeats 1000000 in
theorem pf_X4_volumes_3 (num : Int32) (bu : Int32) (n_5 : Nat) (k : Int32) (hn0 : 0 ≤ num) (hn1 : num ≤ 10) (hn_5 : 10 - k.toNatClampNeg < n_5 + 1) (h0k : 0 ≤ k) (c_1 : ¬ num ≤ k) (c_2 : ¬ k = bu) : vp_in k 10 := by
  exact vi_in (M := 10) rfl (by grind) (by grind)
set_option maxHeartbeats 1000000 in
theorem pf_X4_volumes_4 (num : Int32) (u_when : Nat → Int32) (day : Int32) (bu : Int32) (n_5 : Nat) (k : Int32) (v_4 : Int32) (v_6 : Int32) (hn0 : 0 ≤ num) (hn1 : num ≤ 10) (hn_5 : 10 - k.toNatClampNeg < n_5 + 1) (h0k : 0 ≤ k) (c_1 : ¬ num ≤ k) (c_2 : ¬ k = bu) (ev_4 : v_4 = u_when k.toNatClampNeg) (c_5 : ¬ v_4 = day) (ev_6 : v_6 = k + 1) : 10 - v_6.toNatClampNeg < n_5 := by
  exact ms_dec (L := 10) (k := k) (by grind) (show ¬ (10 : Int32) ≤ k by grind) (by omega) (by assumption) hn_5
set_option maxHeartbeats 1000000 in
theorem pf_X4_volumes_5 (num : Int32) (u_when : Nat → Int32) (day : Int32) (bu : Int32) (n_5 : Nat) (k : Int32) (v_4 : Int32) (v_6 : Int32) (hn0 : 0 ≤ num) (hn1 : num ≤ 10) (hn_5 : 10 - k.toNatClampNeg < n_5 + 1) (h0k : 0 ≤ k) (c_1 : ¬ num ≤ k) (c_2 : ¬ k = bu) (ev_4 : v_4 = u_when k.toNatClampNeg) (c_5 : ¬ v_4 = day) (ev_6 : v_6 = k + 1) : 0 ≤ v_6 := by
  grind
set_option maxHeartbeats 1000000 in
theorem pf_X4_volumes_6 (num : Int32) (u_when : Nat → Int32) (day : Int32) (bu : Int32) (n_5 : Nat) (k : Int32) (v_4 : Int32) (hn0 : 0 ≤ num) (hn1 : num ≤ 10) (hn_5 : 10 - k.toNatClampNeg < n_5 + 1) (h0k : 0 ≤ k) (c_1 : ¬ num ≤ k) (c_2 : ¬ k = bu) (ev_4 : v_4 = u_when k.toNatClampNeg) (c_5 : v_4 = day) : vp_in k 10 := by
  exact vi_in (M := 10) rfl (by grind) (by grind)
set_option maxHeartbeats 1000000 in
theorem pf_X4_volumes_7 (num : Int32) (u_volume : Nat → Int32) (u_when : Nat → Int32) (day : Int32) (bu : Int32) (n_5 : Nat) (k : Int32) (kv : Int32) (v_4 : Int32) (v_7 : Int32) (v_8 : Int32) (v_9 : Int32) (hn0 : 0 ≤ num) (hn1 : num ≤ 10) (hn_5 : 10 - k.toNatClampNeg < n_5 + 1) (h0k : 0 ≤ k) (c_1 : ¬ num ≤ k) (c_2 : ¬ k = bu) (ev_4 : v_4 = u_when k.toNatClampNeg) (c_5 : v_4 = day) (ev_7 : v_7 = u_volume k.toNatClampNeg) (ev_8 : v_8 = kv + v_7) (ev_9 : v_9 = k + 1) : 10 - v_9.toNatClampNeg < n_5 := by
  exact ms_dec (L := 10) (k := k) (by grind) (show ¬ (10 : Int32) ≤ k by grind) (by omega) (by assumption) hn_5
set_option maxHeartbeats 1000000 in
theorem pf_X4_volumes_8 (num : Int32) (u_volume : Nat → Int32) (u_when : Nat → Int32) (day : Int32) (bu : Int32) (n_5 : Nat) (k : Int32) (kv : Int32) (v_4 : Int32) (v_7 : Int32) (v_8 : Int32) (v_9 : Int32) (hn0 : 0 ≤ num) (hn1 : num ≤ 10) (hn_5 : 10 - k.toNatClampNeg < n_5 + 1) (h0k : 0 ≤ k) (c_1 : ¬ num ≤ k) (c_2 : ¬ k = bu) (ev_4 : v_4 = u_when k.toNatClampNeg) (c_5 : v_4 = day) (ev_7 : v_7 = u_volume k.toNatClampNeg) (ev_8 : v_8 = kv + v_7) (ev_9 : v_9 = k + 1) : 0 ≤ v_9 := by
  grind
set_option maxHeartbeats 1000000 in
theorem pf_X4_volumes_9 (num : Int32) (hn0 : 0 ≤ num) (hn1 : num ≤ 10) : 0 ≤ (0 : Int32) := by
  grind
set_option maxHeartbeats 4000000 in
set_option maxRecDepth 100000 in
theorem c_X4_volumes (l : Launch) (D : va_G) (cI cQ : ClassId) (sz : Nat) (y0 : Nat) (m_volume : Nat) (m_when : Nat) (m_kind : Nat) (m_floor : Nat) (m_size : Nat) (m_faces : Nat) (m_ahead : Nat) (m_order : Nat) (m_tried : Nat) (m_chosen : Nat) (m_forms : Nat) (m_warmth : Nat) (m_degrees : Nat) (m_thousandths : Nat) (m_longest : Nat) (num : Int32) (pts : Int32) (nw : Int32) (en : Int32) (gl : Int32) (bw : Int32) (sp : Int32) (be : Int32) (ab : Int64) (bl : Int64) (u_volume : Nat → Int32) (u_when : Nat → Int32) (day : Int32) (bu : Int32) (hn0 : 0 ≤ num) (hn1 : num ≤ 10) : CtI l yX4_volumes wsX4_volumes 0 0 0 0 [.ref y0, .int day, .int bu] D [(cI, .int), (cQ, .array .int)] [(y0, .inr (4, [.int num, .int pts, .int nw, .int en, .int gl, .int bw, .int sp, .int be, .ref m_kind, .ref m_floor, .ref m_volume, .ref m_size, .ref m_faces, .ref m_when, .ref m_ahead, .ref m_order, .ref m_tried, .ref m_chosen, .ref m_forms, .ref m_warmth, .ref m_degrees, .ref m_thousandths, .ref m_longest, .long ab, .long bl])), (m_volume, .inl (cI, 10, .inl u_volume)), (m_when, .inl (cI, 10, .inl u_when))] sz (fun (r : Int32) (u : Unit) => True) (fun (u : Unit) => [(y0, .inr (4, [.int num, .int pts, .int nw, .int en, .int gl, .int bw, .int sp, .int be, .ref m_kind, .ref m_floor, .ref m_volume, .ref m_size, .ref m_faces, .ref m_when, .ref m_ahead, .ref m_order, .ref m_tried, .ref m_chosen, .ref m_forms, .ref m_warmth, .ref m_degrees, .ref m_thousandths, .ref m_longest, .long ab, .long bl])), (m_volume, .inl (cI, 10, .inl u_volume)), (m_when, .inl (cI, 10, .inl u_when))]) := by
  refine Met.ofW (cc := cX4_volumes) (maxL := 5) (ret := (some .int)) (by decide) rfl ?_
  intro p e s m args below meth c s₁ B hml hv
  obtain ⟨rfl, hsz, hP, hK, hD0, hN⟩ := hv
  have hx := B.exec
  have hb := B.bytes
  have hr := B.returns
  have hts := atoms_spec (ws := wsX4_volumes) B.pre
  have hown : s.vm.findClass RX4 = some m.cls := findClass_of_methodNamed B.named
  have hlocks := B.notSynchronized
  subst hsz
  have hD := hD0.self (sz := s.heap.size)
  generalize hAe : va_A [(y0, .inr (4, [.int num, .int pts, .int nw, .int en, .int gl, .int bw, .int sp, .int be, .ref m_kind, .ref m_floor, .ref m_volume, .ref m_size, .ref m_faces, .ref m_when, .ref m_ahead, .ref m_order, .ref m_tried, .ref m_chosen, .ref m_forms, .ref m_warmth, .ref m_degrees, .ref m_thousandths, .ref m_longest, .long ab, .long bl])), (m_volume, .inl (cI, 10, .inl u_volume)), (m_when, .inl (cI, 10, .inl u_when))] s.heap.size = A at hD ⊢
  have hA : ∀ q : Nat, s.heap.size ≤ q → A q := fun q h => by rw [← hAe]; exact Or.inr h
  have hS : va_S A s.heap s.heap [] := va_S.rf
  have hl := lv_entry ([.ref y0, .int day, .int bu]) (n := 5) (Nat.le_of_ble_eq_true rfl)
  rw [lg_entry_eq]
  generalize (lg_sl ([.ref y0, .int day, .int bu]) ++ List.replicate (5 - (lg_sl ([.ref y0, .int day, .int bu])).length) Slot.unset).toArray = ls at hl ⊢
  have hl : lv_has ls 5 [(0, .ref y0), (1, .int day), (2, .int bu)] := hl
  refine W_gen (fun GW hIn hOut => ?_)
  refine hIn _ _ _ _ _ ?_
  have hP0 := hP
  refine lv_iconst (v := 0) hx hb dX4_volumes_0 (by decide) ?_
  refine lv_istore_n (lv' := [(3, .int 0), (0, .ref y0), (1, .int day), (2, .int bu)]) hx hb dX4_volumes_1 rfl hl (by decide) rfl (fun ls hl => ?_)
  refine lv_iconst (v := 0) hx hb dX4_volumes_2 (by decide) ?_
  refine lv_istore (lv' := [(4, .int 0), (3, .int 0), (0, .ref y0), (1, .int day), (2, .int bu)]) hx hb dX4_volumes_3 hl (by decide) rfl (fun ls hl => ?_)
  have lp_5 : ∀ (n : Nat) (k : Int32) (kv : Int32) (H : Heap) (locs : List Loc) (ls : Array Slot), 10 - k.toNatClampNeg < n → (0 ≤ k) → va_P D vwCl [(y0, .inr (4, [.int num, .int pts, .int nw, .int en, .int gl, .int bw, .int sp, .int be, .ref m_kind, .ref m_floor, .ref m_volume, .ref m_size, .ref m_faces, .ref m_when, .ref m_ahead, .ref m_order, .ref m_tried, .ref m_chosen, .ref m_forms, .ref m_warmth, .ref m_degrees, .ref m_thousandths, .ref m_longest, .long ab, .long bl])), (m_volume, .inl (cI, 10, .inl u_volume)), (m_when, .inl (cI, 10, .inl u_when))] H → va_D A [(y0, .inr (4, [.int num, .int pts, .int nw, .int en, .int gl, .int bw, .int sp, .int be, .ref m_kind, .ref m_floor, .ref m_volume, .ref m_size, .ref m_faces, .ref m_when, .ref m_ahead, .ref m_order, .ref m_tried, .ref m_chosen, .ref m_forms, .ref m_warmth, .ref m_degrees, .ref m_thousandths, .ref m_longest, .long ab, .long bl])), (m_volume, .inl (cI, 10, .inl u_volume)), (m_when, .inl (cI, 10, .inl u_when))] → va_S A s.heap H locs → lv_has ls 5 [(0, .ref y0), (1, .int day), (2, .int bu), (3, .int kv), (4, .int k)] → GW H locs 0 0 (F0 m 5 ls []) := by
    intro n_5
    induction n_5 with
    | zero => intro k kv H locs ls hn_5; exact absurd hn_5 (Nat.not_lt_zero _)
    | succ n_5 ih_5 =>
      intro k kv H locs ls hn_5 h0k hP hD hS hl
      refine hIn _ _ _ _ _ ?_
      refine lv_iload hx hb dX4_volumes_5 (lv_at hl 4 rfl) ?_
      refine lv_aload_n hx hb dX4_volumes_7 rfl (lv_at hl 0 rfl) ?_
      refine va_get (D := D) (ci := 4) (v := .int num) (C := RX4) (T := TX4) (N := 25) hx hb hts iw_X4_volumes_4 hown hK hP 0 rfl rfl 0 (by decide) (hts _ wd_X4_volumes_1) (fun _ h9 => h9) rfl dX4_volumes_8 ?_
      refine lv_icmp_ge (tgt := 47) hx hb dX4_volumes_11 (by decide) (fun c_1 => ?_) (fun c_1 => ?_)
      · refine lv_iload_n hx hb dX4_volumes_47 rfl (lv_at hl 3 rfl) ?_
        refine W.widen (k := 0) (n := 0) (Nat.le_of_ble_eq_true rfl) (Nat.le_of_ble_eq_true rfl) ?_
        exact fi_i () hx hb hr hlocks hK (hP.sub [0, 1, 2] rfl) (hD.sub [0, 1, 2] (by decide) rfl) hS trivial dX4_volumes_48
      · refine lv_iload hx hb dX4_volumes_14 (lv_at hl 4 rfl) ?_
        refine lv_iload_n hx hb dX4_volumes_16 rfl (lv_at hl 2 rfl) ?_
        refine lv_icmp_eq (tgt := 41) hx hb dX4_volumes_17 (by decide) (fun c_2 => ?_) (fun c_2 => ?_)
        · obtain ⟨v_3, ev_3⟩ : ∃ y : Int32, y = k + 1 := ⟨_, rfl⟩
          refine lv_iinc (v := v_3) (lv' := [(4, .int v_3), (0, .ref y0), (1, .int day), (2, .int bu), (3, .int kv)]) hx hb dX4_volumes_41 hl (k := 4) rfl (by rw [ev_3]; rfl) (by decide) rfl (fun ls hl => ?_)
          refine lv_goto (tgt := 5) hx hb dX4_volumes_44 (by decide) ?_
          exact hOut _ _ _ _ _ (ih_5 v_3 kv _ _ _ (pf_X4_volumes_1 num bu n_5 k v_3 hn0 hn1 hn_5 h0k c_1 c_2 ev_3) (pf_X4_volumes_2 num bu n_5 k v_3 hn0 hn1 hn_5 h0k c_1 c_2 ev_3) (hP.sub [0, 1, 2] rfl) (hD.sub [0, 1, 2] (by decide) rfl) hS (lv_sub hl [1, 2, 3, 4, 0] rfl))
        · refine lv_aload_n hx hb dX4_volumes_20 rfl (lv_at hl 0 rfl) ?_
          refine va_get (D := D) (ci := 4) (v := .ref m_when) (C := RX4) (T := TX4) (N := 25) hx hb hts iw_X4_volumes_4 hown hK hP 0 rfl rfl 13 (by decide) (hts _ wd_X4_volumes_2) (fun _ h9 => h9) rfl dX4_volumes_21 ?_
          refine lv_iload hx hb dX4_volumes_24 (lv_at hl 4 rfl) ?_
          refine va_iald hx hb hK hP 2 0 rfl rfl (pf_X4_volumes_3 num bu n_5 k hn0 hn1 hn_5 h0k c_1 c_2) dX4_volumes_26 ?_
          refine lv_topi (fun v_4 ev_4 => ?_)
          refine lv_iload_n hx hb dX4_volumes_27 rfl (lv_at hl 1 rfl) ?_
          refine lv_icmp_ne (tgt := 41) hx hb dX4_volumes_28 (by decide) (fun c_5 => ?_) (fun c_5 => ?_)
          · obtain ⟨v_6, ev_6⟩ : ∃ y : Int32, y = k + 1 := ⟨_, rfl⟩
            refine lv_iinc (v := v_6) (lv' := [(4, .int v_6), (0, .ref y0), (1, .int day), (2, .int bu), (3, .int kv)]) hx hb dX4_volumes_41 hl (k := 4) rfl (by rw [ev_6]; rfl) (by decide) rfl (fun ls hl => ?_)
            refine lv_goto (tgt := 5) hx hb dX4_volumes_44 (by decide) ?_
            exact hOut _ _ _ _ _ (ih_5 v_6 kv _ _ _ (pf_X4_volumes_4 num u_when day bu n_5 k v_4 v_6 hn0 hn1 hn_5 h0k c_1 c_2 ev_4 c_5 ev_6) (pf_X4_volumes_5 num u_when day bu n_5 k v_4 v_6 hn0 hn1 hn_5 h0k c_1 c_2 ev_4 c_5 ev_6) (hP.sub [0, 1, 2] rfl) (hD.sub [0, 1, 2] (by decide) rfl) hS (lv_sub hl [1, 2, 3, 4, 0] rfl))
          · refine lv_iload_n hx hb dX4_volumes_31 rfl (lv_at hl 3 rfl) ?_
            refine lv_aload_n hx hb dX4_volumes_32 rfl (lv_at hl 0 rfl) ?_
            refine va_get (D := D) (ci := 4) (v := .ref m_volume) (C := RX4) (T := TX4) (N := 25) hx hb hts iw_X4_volumes_4 hown hK hP 0 rfl rfl 10 (by decide) (hts _ wd_X4_volumes_3) (fun _ h9 => h9) rfl dX4_volumes_33 ?_
            refine lv_iload hx hb dX4_volumes_36 (lv_at hl 4 rfl) ?_
            refine va_iald hx hb hK hP 1 0 rfl rfl (pf_X4_volumes_6 num u_when day bu n_5 k v_4 hn0 hn1 hn_5 h0k c_1 c_2 ev_4 c_5) dX4_volumes_38 ?_
            refine lv_topi (fun v_7 ev_7 => ?_)
            refine lv_iadd hx hb dX4_volumes_39 ?_
            refine lv_topi (fun v_8 ev_8 => ?_)
            refine lv_istore_n (lv' := [(3, .int v_8), (0, .ref y0), (1, .int day), (2, .int bu), (4, .int k)]) hx hb dX4_volumes_40 rfl hl (by decide) rfl (fun ls hl => ?_)
            obtain ⟨v_9, ev_9⟩ : ∃ y : Int32, y = k + 1 := ⟨_, rfl⟩
            refine lv_iinc (v := v_9) (lv' := [(4, .int v_9), (3, .int v_8), (0, .ref y0), (1, .int day), (2, .int bu)]) hx hb dX4_volumes_41 hl (k := 4) rfl (by rw [ev_9]; rfl) (by decide) rfl (fun ls hl => ?_)
            refine lv_goto (tgt := 5) hx hb dX4_volumes_44 (by decide) ?_
            exact hOut _ _ _ _ _ (ih_5 v_9 v_8 _ _ _ (pf_X4_volumes_7 num u_volume u_when day bu n_5 k kv v_4 v_7 v_8 v_9 hn0 hn1 hn_5 h0k c_1 c_2 ev_4 c_5 ev_7 ev_8 ev_9) (pf_X4_volumes_8 num u_volume u_when day bu n_5 k kv v_4 v_7 v_8 v_9 hn0 hn1 hn_5 h0k c_1 c_2 ev_4 c_5 ev_7 ev_8 ev_9) (hP.sub [0, 1, 2] rfl) (hD.sub [0, 1, 2] (by decide) rfl) hS (lv_sub hl [2, 3, 4, 1, 0] rfl))
  exact hOut _ _ _ _ _ (lp_5 (10 - (0 : Int32).toNatClampNeg + 1) 0 0 _ _ _ (Nat.lt_succ_self _) (pf_X4_volumes_9 num hn0 hn1) (hP.sub [0, 1, 2] rfl) (hD.sub [0, 1, 2] (by decide) rfl) hS (lv_sub hl [2, 3, 4, 1, 0] rfl))

theorem iw_X4_isUnder_4 : ∀ w ∈ wsX40, w ∈ wsX4_isUnder := fun w h => (List.mem_cons_of_mem _ (List.mem_append_right _ h))
theorem wd_X4_isUnder_1 : (.fieldLink RX4 21 "PourPlanModel" "kind" "[I" : Cond) ∈ wsX4_isUnder := List.mem_of_getElem? (i := 1) rfl
theorem wd_X4_isUnder_2 : (.fieldLink RX4 25 "PourPlanModel" "floor" "[I" : Cond) ∈ wsX4_isUnder := List.mem_of_getElem? (i := 2) rfl
set_option maxHeartbeats 1000000 in
theorem pf_X4_isUnder_1 (a : Int32) (b1 : Int32) (ha : vp_in a 10) (hb1 : vp_in b1 10) (c_1 : ¬ b1 = a) : vp_in b1 10 := by
  exact hb1
set_option maxHeartbeats 1000000 in
theorem pf_X4_isUnder_2 (u_kind : Nat → Int32) (a : Int32) (b1 : Int32) (v_2 : Int32) (ha : vp_in a 10) (hb1 : vp_in b1 10) (c_1 : ¬ b1 = a) (ev_2 : v_2 = u_kind b1.toNatClampNeg) (c_3 : v_2 = 1) : vp_in b1 10 := by
  exact hb1
set_option maxHeartbeats 1000000 in
theorem pf_X4_isUnder_3 (u_kind : Nat → Int32) (u_floor : Nat → Int32) (a : Int32) (b1 : Int32) (v_2 : Int32) (v_4 : Int32) (ha : vp_in a 10) (hb1 : vp_in b1 10) (c_1 : ¬ b1 = a) (ev_2 : v_2 = u_kind b1.toNatClampNeg) (c_3 : v_2 = 1) (ev_4 : v_4 = u_floor b1.toNatClampNeg) : vp_in a 10 := by
  exact ha
set_option maxHeartbeats 1000000 in
theorem pf_X4_isUnder_4 (u_kind : Nat → Int32) (a : Int32) (b1 : Int32) (v_2 : Int32) (ha : vp_in a 10) (hb1 : vp_in b1 10) (c_1 : ¬ b1 = a) (ev_2 : v_2 = u_kind b1.toNatClampNeg) (c_3 : ¬ v_2 = 1) : vp_in b1 10 := by
  exact hb1
set_option maxHeartbeats 1000000 in
theorem pf_X4_isUnder_5 (u_kind : Nat → Int32) (a : Int32) (b1 : Int32) (v_2 : Int32) (v_7 : Int32) (ha : vp_in a 10) (hb1 : vp_in b1 10) (c_1 : ¬ b1 = a) (ev_2 : v_2 = u_kind b1.toNatClampNeg) (c_3 : ¬ v_2 = 1) (ev_7 : v_7 = u_kind b1.toNatClampNeg) (c_8 : ¬ v_7 = 2) : vp_in b1 10 := by
  exact hb1
set_option maxHeartbeats 1000000 in
theorem pf_X4_isUnder_6 (u_kind : Nat → Int32) (a : Int32) (b1 : Int32) (v_2 : Int32) (v_7 : Int32) (v_9 : Int32) (ha : vp_in a 10) (hb1 : vp_in b1 10) (c_1 : ¬ b1 = a) (ev_2 : v_2 = u_kind b1.toNatClampNeg) (c_3 : ¬ v_2 = 1) (ev_7 : v_7 = u_kind b1.toNatClampNeg) (c_8 : ¬ v_7 = 2) (ev_9 : v_9 = u_kind b1.toNatClampNeg) (c_10 : v_9 = 0) : vp_in b1 10 := by
  exact hb1
set_option maxHeartbeats 1000000 in
theorem pf_X4_isUnder_7 (u_kind : Nat → Int32) (u_floor : Nat → Int32) (a : Int32) (b1 : Int32) (v_2 : Int32) (v_7 : Int32) (v_9 : Int32) (v_11 : Int32) (ha : vp_in a 10) (hb1 : vp_in b1 10) (c_1 : ¬ b1 = a) (ev_2 : v_2 = u_kind b1.toNatClampNeg) (c_3 : ¬ v_2 = 1) (ev_7 : v_7 = u_kind b1.toNatClampNeg) (c_8 : ¬ v_7 = 2) (ev_9 : v_9 = u_kind b1.toNatClampNeg) (c_10 : v_9 = 0) (ev_11 : v_11 = u_floor b1.toNatClampNeg) : vp_in a 10 := by
  exact ha
set_option maxHeartbeats 1000000 in
theorem pf_X4_isUnder_8 (u_kind : Nat → Int32) (a : Int32) (b1 : Int32) (v_2 : Int32) (v_7 : Int32) (ha : vp_in a 10) (hb1 : vp_in b1 10) (c_1 : ¬ b1 = a) (ev_2 : v_2 = u_kind b1.toNatClampNeg) (c_3 : ¬ v_2 = 1) (ev_7 : v_7 = u_kind b1.toNatClampNeg) (c_8 : v_7 = 2) : vp_in b1 10 := by
  exact hb1
set_option maxHeartbeats 1000000 in
theorem pf_X4_isUnder_9 (u_kind : Nat → Int32) (u_floor : Nat → Int32) (a : Int32) (b1 : Int32) (v_2 : Int32) (v_7 : Int32) (v_15 : Int32) (ha : vp_in a 10) (hb1 : vp_in b1 10) (c_1 : ¬ b1 = a) (ev_2 : v_2 = u_kind b1.toNatClampNeg) (c_3 : ¬ v_2 = 1) (ev_7 : v_7 = u_kind b1.toNatClampNeg) (c_8 : v_7 = 2) (ev_15 : v_15 = u_floor b1.toNatClampNeg) : vp_in a 10 := by
  exact ha
set_option maxHeartbeats 4000000 in
set_option maxRecDepth 100000 in
theorem c_X4_isUnder (l : Launch) (D : va_G) (cI cQ : ClassId) (sz : Nat) (y0 : Nat) (m_kind : Nat) (m_floor : Nat) (m_volume : Nat) (m_size : Nat) (m_faces : Nat) (m_when : Nat) (m_ahead : Nat) (m_order : Nat) (m_tried : Nat) (m_chosen : Nat) (m_forms : Nat) (m_warmth : Nat) (m_degrees : Nat) (m_thousandths : Nat) (m_longest : Nat) (num : Int32) (pts : Int32) (nw : Int32) (en : Int32) (gl : Int32) (bw : Int32) (sp : Int32) (be : Int32) (ab : Int64) (bl : Int64) (u_kind : Nat → Int32) (u_floor : Nat → Int32) (a : Int32) (b1 : Int32) (ha : vp_in a 10) (hb1 : vp_in b1 10) : CtI l yX4_isUnder wsX4_isUnder 0 0 0 0 [.ref y0, .int a, .int b1] D [(cI, .int), (cQ, .array .int)] [(y0, .inr (4, [.int num, .int pts, .int nw, .int en, .int gl, .int bw, .int sp, .int be, .ref m_kind, .ref m_floor, .ref m_volume, .ref m_size, .ref m_faces, .ref m_when, .ref m_ahead, .ref m_order, .ref m_tried, .ref m_chosen, .ref m_forms, .ref m_warmth, .ref m_degrees, .ref m_thousandths, .ref m_longest, .long ab, .long bl])), (m_kind, .inl (cI, 10, .inl u_kind)), (m_floor, .inl (cI, 10, .inl u_floor))] sz (fun (r : Int32) (u : Unit) => True) (fun (u : Unit) => [(y0, .inr (4, [.int num, .int pts, .int nw, .int en, .int gl, .int bw, .int sp, .int be, .ref m_kind, .ref m_floor, .ref m_volume, .ref m_size, .ref m_faces, .ref m_when, .ref m_ahead, .ref m_order, .ref m_tried, .ref m_chosen, .ref m_forms, .ref m_warmth, .ref m_degrees, .ref m_thousandths, .ref m_longest, .long ab, .long bl])), (m_kind, .inl (cI, 10, .inl u_kind)), (m_floor, .inl (cI, 10, .inl u_floor))]) := by
  refine Met.ofW (cc := cX4_isUnder) (maxL := 3) (ret := (some .boolean)) (by decide) rfl ?_
  intro p e s m args below meth c s₁ B hml hv
  obtain ⟨rfl, hsz, hP, hK, hD0, hN⟩ := hv
  have hx := B.exec
  have hb := B.bytes
  have hr := B.returns
  have hts := atoms_spec (ws := wsX4_isUnder) B.pre
  have hown : s.vm.findClass RX4 = some m.cls := findClass_of_methodNamed B.named
  have hlocks := B.notSynchronized
  subst hsz
  have hD := hD0.self (sz := s.heap.size)
  generalize hAe : va_A [(y0, .inr (4, [.int num, .int pts, .int nw, .int en, .int gl, .int bw, .int sp, .int be, .ref m_kind, .ref m_floor, .ref m_volume, .ref m_size, .ref m_faces, .ref m_when, .ref m_ahead, .ref m_order, .ref m_tried, .ref m_chosen, .ref m_forms, .ref m_warmth, .ref m_degrees, .ref m_thousandths, .ref m_longest, .long ab, .long bl])), (m_kind, .inl (cI, 10, .inl u_kind)), (m_floor, .inl (cI, 10, .inl u_floor))] s.heap.size = A at hD ⊢
  have hA : ∀ q : Nat, s.heap.size ≤ q → A q := fun q h => by rw [← hAe]; exact Or.inr h
  have hS : va_S A s.heap s.heap [] := va_S.rf
  have hl := lv_entry ([.ref y0, .int a, .int b1]) (n := 3) (Nat.le_of_ble_eq_true rfl)
  rw [lg_entry_eq]
  generalize (lg_sl ([.ref y0, .int a, .int b1]) ++ List.replicate (3 - (lg_sl ([.ref y0, .int a, .int b1])).length) Slot.unset).toArray = ls at hl ⊢
  have hl : lv_has ls 3 [(0, .ref y0), (1, .int a), (2, .int b1)] := hl
  have hP0 := hP
  refine lv_iload_n hx hb dX4_isUnder_0 rfl (lv_at hl 2 rfl) ?_
  refine lv_iload_n hx hb dX4_isUnder_1 rfl (lv_at hl 1 rfl) ?_
  refine lv_icmp_ne (tgt := 7) hx hb dX4_isUnder_2 (by decide) (fun c_1 => ?_) (fun c_1 => ?_)
  · refine lv_aload_n hx hb dX4_isUnder_7 rfl (lv_at hl 0 rfl) ?_
    refine va_get (D := D) (ci := 4) (v := .ref m_kind) (C := RX4) (T := TX4) (N := 25) hx hb hts iw_X4_isUnder_4 hown hK hP 0 rfl rfl 8 (by decide) (hts _ wd_X4_isUnder_1) (fun _ h9 => h9) rfl dX4_isUnder_8 ?_
    refine lv_iload_n hx hb dX4_isUnder_11 rfl (lv_at hl 2 rfl) ?_
    refine va_iald hx hb hK hP 1 0 rfl rfl (pf_X4_isUnder_1 a b1 ha hb1 c_1) dX4_isUnder_12 ?_
    refine lv_topi (fun v_2 ev_2 => ?_)
    refine lv_iconst (v := 1) hx hb dX4_isUnder_13 (by decide) ?_
    refine lv_icmp_eq (tgt := 27) hx hb dX4_isUnder_14 (by decide) (fun c_3 => ?_) (fun c_3 => ?_)
    · refine lv_aload_n hx hb dX4_isUnder_27 rfl (lv_at hl 0 rfl) ?_
      refine va_get (D := D) (ci := 4) (v := .ref m_floor) (C := RX4) (T := TX4) (N := 25) hx hb hts iw_X4_isUnder_4 hown hK hP 0 rfl rfl 9 (by decide) (hts _ wd_X4_isUnder_2) (fun _ h9 => h9) rfl dX4_isUnder_28 ?_
      refine lv_iload_n hx hb dX4_isUnder_31 rfl (lv_at hl 2 rfl) ?_
      refine va_iald hx hb hK hP 2 0 rfl rfl (pf_X4_isUnder_2 u_kind a b1 v_2 ha hb1 c_1 ev_2 c_3) dX4_isUnder_32 ?_
      refine lv_topi (fun v_4 ev_4 => ?_)
      refine lv_aload_n hx hb dX4_isUnder_33 rfl (lv_at hl 0 rfl) ?_
      refine va_get (D := D) (ci := 4) (v := .ref m_floor) (C := RX4) (T := TX4) (N := 25) hx hb hts iw_X4_isUnder_4 hown hK hP 0 rfl rfl 9 (by decide) (hts _ wd_X4_isUnder_2) (fun _ h9 => h9) rfl dX4_isUnder_34 ?_
      refine lv_iload_n hx hb dX4_isUnder_37 rfl (lv_at hl 1 rfl) ?_
      refine va_iald hx hb hK hP 2 0 rfl rfl (pf_X4_isUnder_3 u_kind u_floor a b1 v_2 v_4 ha hb1 c_1 ev_2 c_3 ev_4) dX4_isUnder_38 ?_
      refine lv_topi (fun v_5 ev_5 => ?_)
      refine lv_icmp_ne (tgt := 46) hx hb dX4_isUnder_39 (by decide) (fun c_6 => ?_) (fun c_6 => ?_)
      · refine lv_iconst (v := 0) hx hb dX4_isUnder_46 (by decide) ?_
        refine W.widen (k := 0) (n := 0) (Nat.le_of_ble_eq_true rfl) (Nat.le_of_ble_eq_true rfl) ?_
        exact fi_z () hx hb hr rfl hlocks hK (hP.sub [0, 1, 2] rfl) (hD.sub [0, 1, 2] (by decide) rfl) hS trivial dX4_isUnder_47
      · refine lv_iconst (v := 1) hx hb dX4_isUnder_42 (by decide) ?_
        refine lv_goto (tgt := 47) hx hb dX4_isUnder_43 (by decide) ?_
        refine W.widen (k := 0) (n := 0) (Nat.le_of_ble_eq_true rfl) (Nat.le_of_ble_eq_true rfl) ?_
        exact fi_z () hx hb hr rfl hlocks hK (hP.sub [0, 1, 2] rfl) (hD.sub [0, 1, 2] (by decide) rfl) hS trivial dX4_isUnder_47
    · refine lv_aload_n hx hb dX4_isUnder_17 rfl (lv_at hl 0 rfl) ?_
      refine va_get (D := D) (ci := 4) (v := .ref m_kind) (C := RX4) (T := TX4) (N := 25) hx hb hts iw_X4_isUnder_4 hown hK hP 0 rfl rfl 8 (by decide) (hts _ wd_X4_isUnder_1) (fun _ h9 => h9) rfl dX4_isUnder_18 ?_
      refine lv_iload_n hx hb dX4_isUnder_21 rfl (lv_at hl 2 rfl) ?_
      refine va_iald hx hb hK hP 1 0 rfl rfl (pf_X4_isUnder_4 u_kind a b1 v_2 ha hb1 c_1 ev_2 c_3) dX4_isUnder_22 ?_
      refine lv_topi (fun v_7 ev_7 => ?_)
      refine lv_iconst (v := 2) hx hb dX4_isUnder_23 (by decide) ?_
      refine lv_icmp_ne (tgt := 48) hx hb dX4_isUnder_24 (by decide) (fun c_8 => ?_) (fun c_8 => ?_)
      · refine lv_aload_n hx hb dX4_isUnder_48 rfl (lv_at hl 0 rfl) ?_
        refine va_get (D := D) (ci := 4) (v := .ref m_kind) (C := RX4) (T := TX4) (N := 25) hx hb hts iw_X4_isUnder_4 hown hK hP 0 rfl rfl 8 (by decide) (hts _ wd_X4_isUnder_1) (fun _ h9 => h9) rfl dX4_isUnder_49 ?_
        refine lv_iload_n hx hb dX4_isUnder_52 rfl (lv_at hl 2 rfl) ?_
        refine va_iald hx hb hK hP 1 0 rfl rfl (pf_X4_isUnder_5 u_kind a b1 v_2 v_7 ha hb1 c_1 ev_2 c_3 ev_7 c_8) dX4_isUnder_53 ?_
        refine lv_topi (fun v_9 ev_9 => ?_)
        refine lv_if_ne (tgt := 78) hx hb dX4_isUnder_54 (by decide) (fun c_10 => ?_) (fun c_10 => ?_)
        · refine lv_iconst (v := 0) hx hb dX4_isUnder_78 (by decide) ?_
          refine W.widen (k := 0) (n := 0) (Nat.le_of_ble_eq_true rfl) (Nat.le_of_ble_eq_true rfl) ?_
          exact fi_z () hx hb hr rfl hlocks hK (hP.sub [0, 1, 2] rfl) (hD.sub [0, 1, 2] (by decide) rfl) hS trivial dX4_isUnder_79
        · refine lv_aload_n hx hb dX4_isUnder_57 rfl (lv_at hl 0 rfl) ?_
          refine va_get (D := D) (ci := 4) (v := .ref m_floor) (C := RX4) (T := TX4) (N := 25) hx hb hts iw_X4_isUnder_4 hown hK hP 0 rfl rfl 9 (by decide) (hts _ wd_X4_isUnder_2) (fun _ h9 => h9) rfl dX4_isUnder_58 ?_
          refine lv_iload_n hx hb dX4_isUnder_61 rfl (lv_at hl 2 rfl) ?_
          refine va_iald hx hb hK hP 2 0 rfl rfl (pf_X4_isUnder_6 u_kind a b1 v_2 v_7 v_9 ha hb1 c_1 ev_2 c_3 ev_7 c_8 ev_9 c_10) dX4_isUnder_62 ?_
          refine lv_topi (fun v_11 ev_11 => ?_)
          refine lv_aload_n hx hb dX4_isUnder_63 rfl (lv_at hl 0 rfl) ?_
          refine va_get (D := D) (ci := 4) (v := .ref m_floor) (C := RX4) (T := TX4) (N := 25) hx hb hts iw_X4_isUnder_4 hown hK hP 0 rfl rfl 9 (by decide) (hts _ wd_X4_isUnder_2) (fun _ h9 => h9) rfl dX4_isUnder_64 ?_
          refine lv_iload_n hx hb dX4_isUnder_67 rfl (lv_at hl 1 rfl) ?_
          refine va_iald hx hb hK hP 2 0 rfl rfl (pf_X4_isUnder_7 u_kind u_floor a b1 v_2 v_7 v_9 v_11 ha hb1 c_1 ev_2 c_3 ev_7 c_8 ev_9 c_10 ev_11) dX4_isUnder_68 ?_
          refine lv_topi (fun v_12 ev_12 => ?_)
          refine lv_iconst (v := 1) hx hb dX4_isUnder_69 (by decide) ?_
          refine lv_isub hx hb dX4_isUnder_70 ?_
          refine lv_topi (fun v_13 ev_13 => ?_)
          refine lv_icmp_ne (tgt := 78) hx hb dX4_isUnder_71 (by decide) (fun c_14 => ?_) (fun c_14 => ?_)
          · refine lv_iconst (v := 0) hx hb dX4_isUnder_78 (by decide) ?_
            refine W.widen (k := 0) (n := 0) (Nat.le_of_ble_eq_true rfl) (Nat.le_of_ble_eq_true rfl) ?_
            exact fi_z () hx hb hr rfl hlocks hK (hP.sub [0, 1, 2] rfl) (hD.sub [0, 1, 2] (by decide) rfl) hS trivial dX4_isUnder_79
          · refine lv_iconst (v := 1) hx hb dX4_isUnder_74 (by decide) ?_
            refine lv_goto (tgt := 79) hx hb dX4_isUnder_75 (by decide) ?_
            refine W.widen (k := 0) (n := 0) (Nat.le_of_ble_eq_true rfl) (Nat.le_of_ble_eq_true rfl) ?_
            exact fi_z () hx hb hr rfl hlocks hK (hP.sub [0, 1, 2] rfl) (hD.sub [0, 1, 2] (by decide) rfl) hS trivial dX4_isUnder_79
      · refine lv_aload_n hx hb dX4_isUnder_27 rfl (lv_at hl 0 rfl) ?_
        refine va_get (D := D) (ci := 4) (v := .ref m_floor) (C := RX4) (T := TX4) (N := 25) hx hb hts iw_X4_isUnder_4 hown hK hP 0 rfl rfl 9 (by decide) (hts _ wd_X4_isUnder_2) (fun _ h9 => h9) rfl dX4_isUnder_28 ?_
        refine lv_iload_n hx hb dX4_isUnder_31 rfl (lv_at hl 2 rfl) ?_
        refine va_iald hx hb hK hP 2 0 rfl rfl (pf_X4_isUnder_8 u_kind a b1 v_2 v_7 ha hb1 c_1 ev_2 c_3 ev_7 c_8) dX4_isUnder_32 ?_
        refine lv_topi (fun v_15 ev_15 => ?_)
        refine lv_aload_n hx hb dX4_isUnder_33 rfl (lv_at hl 0 rfl) ?_
        refine va_get (D := D) (ci := 4) (v := .ref m_floor) (C := RX4) (T := TX4) (N := 25) hx hb hts iw_X4_isUnder_4 hown hK hP 0 rfl rfl 9 (by decide) (hts _ wd_X4_isUnder_2) (fun _ h9 => h9) rfl dX4_isUnder_34 ?_
        refine lv_iload_n hx hb dX4_isUnder_37 rfl (lv_at hl 1 rfl) ?_
        refine va_iald hx hb hK hP 2 0 rfl rfl (pf_X4_isUnder_9 u_kind u_floor a b1 v_2 v_7 v_15 ha hb1 c_1 ev_2 c_3 ev_7 c_8 ev_15) dX4_isUnder_38 ?_
        refine lv_topi (fun v_16 ev_16 => ?_)
        refine lv_icmp_ne (tgt := 46) hx hb dX4_isUnder_39 (by decide) (fun c_17 => ?_) (fun c_17 => ?_)
        · refine lv_iconst (v := 0) hx hb dX4_isUnder_46 (by decide) ?_
          refine W.widen (k := 0) (n := 0) (Nat.le_of_ble_eq_true rfl) (Nat.le_of_ble_eq_true rfl) ?_
          exact fi_z () hx hb hr rfl hlocks hK (hP.sub [0, 1, 2] rfl) (hD.sub [0, 1, 2] (by decide) rfl) hS trivial dX4_isUnder_47
        · refine lv_iconst (v := 1) hx hb dX4_isUnder_42 (by decide) ?_
          refine lv_goto (tgt := 47) hx hb dX4_isUnder_43 (by decide) ?_
          refine W.widen (k := 0) (n := 0) (Nat.le_of_ble_eq_true rfl) (Nat.le_of_ble_eq_true rfl) ?_
          exact fi_z () hx hb hr rfl hlocks hK (hP.sub [0, 1, 2] rfl) (hD.sub [0, 1, 2] (by decide) rfl) hS trivial dX4_isUnder_47
  · refine lv_iconst (v := 0) hx hb dX4_isUnder_5 (by decide) ?_
    refine W.widen (k := 0) (n := 0) (Nat.le_of_ble_eq_true rfl) (Nat.le_of_ble_eq_true rfl) ?_
    exact fi_z () hx hb hr rfl hlocks hK (hP.sub [0, 1, 2] rfl) (hD.sub [0, 1, 2] (by decide) rfl) hS trivial dX4_isUnder_6

theorem iw_X4_hinders_4 : ∀ w ∈ wsX40, w ∈ wsX4_hinders := fun w h => (List.mem_cons_of_mem _ (List.mem_append_right _ h))
theorem wd_X4_hinders_1 : (.fieldLink RX4 67 "PourPlanModel" "pieces" "I" : Cond) ∈ wsX4_hinders := List.mem_of_getElem? (i := 1) rfl
theorem wd_X4_hinders_2 : (.fieldLink RX4 40 "PourPlanModel" "ahead" "[I" : Cond) ∈ wsX4_hinders := List.mem_of_getElem? (i := 2) rfl
theorem wd_X4_hinders_3 : (.fieldLink RX4 37 "PourPlanModel" "when" "[I" : Cond) ∈ wsX4_hinders := List.mem_of_getElem? (i := 3) rfl
theorem wd_X4_hinders_4 : (.fieldLink RX4 21 "PourPlanModel" "kind" "[I" : Cond) ∈ wsX4_hinders := List.mem_of_getElem? (i := 4) rfl
theorem wd_X4_hinders_5 : (.fieldLink RX4 18 "PourPlanModel" "bear" "I" : Cond) ∈ wsX4_hinders := List.mem_of_getElem? (i := 5) rfl
theorem wd_X4_hinders_6 : (.fieldLink RX4 31 "PourPlanModel" "size" "[I" : Cond) ∈ wsX4_hinders := List.mem_of_getElem? (i := 6) rfl
theorem wd_X4_hinders_7 : (.fieldLink RX4 34 "PourPlanModel" "faces" "[I" : Cond) ∈ wsX4_hinders := List.mem_of_getElem? (i := 7) rfl
theorem wd_X4_hinders_8 : (.fieldLink RX4 28 "PourPlanModel" "volume" "[I" : Cond) ∈ wsX4_hinders := List.mem_of_getElem? (i := 8) rfl
theorem wd_X4_hinders_9 : (.fieldLink RX4 9 "PourPlanModel" "gang" "I" : Cond) ∈ wsX4_hinders := List.mem_of_getElem? (i := 9) rfl
set_option maxHeartbeats 1000000 in
theorem pf_X4_hinders_1 (num : Int32) (pts : Int32) (u_size : Nat → Int32) (u_when : Nat → Int32) (u_degrees : Nat → Int32) (a : Int32) (day : Int32) (n_2 : Nat) (k : Int32) (n_62 : Nat) (k2 : Int32) (hn0 : 0 ≤ num) (hn1 : num ≤ 10) (hp0 : 0 ≤ pts) (hp6 : pts ≤ 6) (hdg : okDeg u_degrees pts) (hwh : okWh u_when) (hz : okSz u_size) (ha0 : 0 ≤ a) (ha1 : a < num) (hda : day ≤ 39) (hn_2 : 10 - k.toNatClampNeg < n_2 + 1) (h0k : 0 ≤ k) (c_1 : num ≤ k) (hn_62 : 10 - k2.toNatClampNeg < n_62 + 1) (h0k2 : 0 ≤ k2) (c_2 : num ≤ k2) : vp_in a 10 := by
  exact vi_in (M := 10) rfl (by grind [bSt]) (by grind [bSt])
set_option maxHeartbeats 1000000 in
theorem pf_X4_hinders_2 (num : Int32) (pts : Int32) (u_size : Nat → Int32) (u_when : Nat → Int32) (u_degrees : Nat → Int32) (a : Int32) (day : Int32) (n_2 : Nat) (k : Int32) (n_62 : Nat) (k2 : Int32) (v_3 : Int32) (hn0 : 0 ≤ num) (hn1 : num ≤ 10) (hp0 : 0 ≤ pts) (hp6 : pts ≤ 6) (hdg : okDeg u_degrees pts) (hwh : okWh u_when) (hz : okSz u_size) (ha0 : 0 ≤ a) (ha1 : a < num) (hda : day ≤ 39) (hn_2 : 10 - k.toNatClampNeg < n_2 + 1) (h0k : 0 ≤ k) (c_1 : num ≤ k) (hn_62 : 10 - k2.toNatClampNeg < n_62 + 1) (h0k2 : 0 ≤ k2) (c_2 : num ≤ k2) (ev_3 : v_3 = u_size a.toNatClampNeg) : vp_in v_3 3 := by
  have h9 := hz a.toNatClampNeg
  exact vi_in (M := 3) rfl (by grind) (by grind)
set_option maxHeartbeats 1000000 in
theorem pf_X4_hinders_3 (num : Int32) (pts : Int32) (u_size : Nat → Int32) (u_when : Nat → Int32) (u_degrees : Nat → Int32) (a : Int32) (day : Int32) (n_2 : Nat) (k : Int32) (n_62 : Nat) (k2 : Int32) (v_3 : Int32) (hn0 : 0 ≤ num) (hn1 : num ≤ 10) (hp0 : 0 ≤ pts) (hp6 : pts ≤ 6) (hdg : okDeg u_degrees pts) (hwh : okWh u_when) (hz : okSz u_size) (ha0 : 0 ≤ a) (ha1 : a < num) (hda : day ≤ 39) (hn_2 : 10 - k.toNatClampNeg < n_2 + 1) (h0k : 0 ≤ k) (c_1 : num ≤ k) (hn_62 : 10 - k2.toNatClampNeg < n_62 + 1) (h0k2 : 0 ≤ k2) (c_2 : num ≤ k2) (ev_3 : v_3 = u_size a.toNatClampNeg) (fx_4 : vp_in v_3 3) : 0 ≤ num := by
  grind [bSt]
set_option maxHeartbeats 1000000 in
theorem pf_X4_hinders_4 (num : Int32) (pts : Int32) (u_size : Nat → Int32) (u_when : Nat → Int32) (u_degrees : Nat → Int32) (a : Int32) (day : Int32) (n_2 : Nat) (k : Int32) (n_62 : Nat) (k2 : Int32) (v_3 : Int32) (hn0 : 0 ≤ num) (hn1 : num ≤ 10) (hp0 : 0 ≤ pts) (hp6 : pts ≤ 6) (hdg : okDeg u_degrees pts) (hwh : okWh u_when) (hz : okSz u_size) (ha0 : 0 ≤ a) (ha1 : a < num) (hda : day ≤ 39) (hn_2 : 10 - k.toNatClampNeg < n_2 + 1) (h0k : 0 ≤ k) (c_1 : num ≤ k) (hn_62 : 10 - k2.toNatClampNeg < n_62 + 1) (h0k2 : 0 ≤ k2) (c_2 : num ≤ k2) (ev_3 : v_3 = u_size a.toNatClampNeg) (fx_4 : vp_in v_3 3) : num ≤ 10 := by
  grind [bSt]
set_option maxHeartbeats 1000000 in
theorem pf_X4_hinders_5 (num : Int32) (pts : Int32) (u_size : Nat → Int32) (u_when : Nat → Int32) (u_degrees : Nat → Int32) (a : Int32) (day : Int32) (n_2 : Nat) (k : Int32) (n_62 : Nat) (k2 : Int32) (v_3 : Int32) (hn0 : 0 ≤ num) (hn1 : num ≤ 10) (hp0 : 0 ≤ pts) (hp6 : pts ≤ 6) (hdg : okDeg u_degrees pts) (hwh : okWh u_when) (hz : okSz u_size) (ha0 : 0 ≤ a) (ha1 : a < num) (hda : day ≤ 39) (hn_2 : 10 - k.toNatClampNeg < n_2 + 1) (h0k : 0 ≤ k) (c_1 : num ≤ k) (hn_62 : 10 - k2.toNatClampNeg < n_62 + 1) (h0k2 : 0 ≤ k2) (c_2 : num ≤ k2) (ev_3 : v_3 = u_size a.toNatClampNeg) (fx_4 : vp_in v_3 3) : 0 ≤ pts := by
  grind [bSt]
set_option maxHeartbeats 1000000 in
theorem pf_X4_hinders_6 (num : Int32) (pts : Int32) (u_size : Nat → Int32) (u_when : Nat → Int32) (u_degrees : Nat → Int32) (a : Int32) (day : Int32) (n_2 : Nat) (k : Int32) (n_62 : Nat) (k2 : Int32) (v_3 : Int32) (hn0 : 0 ≤ num) (hn1 : num ≤ 10) (hp0 : 0 ≤ pts) (hp6 : pts ≤ 6) (hdg : okDeg u_degrees pts) (hwh : okWh u_when) (hz : okSz u_size) (ha0 : 0 ≤ a) (ha1 : a < num) (hda : day ≤ 39) (hn_2 : 10 - k.toNatClampNeg < n_2 + 1) (h0k : 0 ≤ k) (c_1 : num ≤ k) (hn_62 : 10 - k2.toNatClampNeg < n_62 + 1) (h0k2 : 0 ≤ k2) (c_2 : num ≤ k2) (ev_3 : v_3 = u_size a.toNatClampNeg) (fx_4 : vp_in v_3 3) : pts ≤ 6 := by
  grind [bSt]
set_option maxHeartbeats 1000000 in
theorem pf_X4_hinders_7 (num : Int32) (pts : Int32) (u_size : Nat → Int32) (u_when : Nat → Int32) (u_degrees : Nat → Int32) (a : Int32) (day : Int32) (n_2 : Nat) (k : Int32) (n_62 : Nat) (k2 : Int32) (v_3 : Int32) (hn0 : 0 ≤ num) (hn1 : num ≤ 10) (hp0 : 0 ≤ pts) (hp6 : pts ≤ 6) (hdg : okDeg u_degrees pts) (hwh : okWh u_when) (hz : okSz u_size) (ha0 : 0 ≤ a) (ha1 : a < num) (hda : day ≤ 39) (hn_2 : 10 - k.toNatClampNeg < n_2 + 1) (h0k : 0 ≤ k) (c_1 : num ≤ k) (hn_62 : 10 - k2.toNatClampNeg < n_62 + 1) (h0k2 : 0 ≤ k2) (c_2 : num ≤ k2) (ev_3 : v_3 = u_size a.toNatClampNeg) (fx_4 : vp_in v_3 3) : okDeg u_degrees pts := by
  exact hdg
set_option maxHeartbeats 1000000 in
theorem pf_X4_hinders_8 (num : Int32) (pts : Int32) (u_size : Nat → Int32) (u_when : Nat → Int32) (u_degrees : Nat → Int32) (a : Int32) (day : Int32) (n_2 : Nat) (k : Int32) (n_62 : Nat) (k2 : Int32) (v_3 : Int32) (hn0 : 0 ≤ num) (hn1 : num ≤ 10) (hp0 : 0 ≤ pts) (hp6 : pts ≤ 6) (hdg : okDeg u_degrees pts) (hwh : okWh u_when) (hz : okSz u_size) (ha0 : 0 ≤ a) (ha1 : a < num) (hda : day ≤ 39) (hn_2 : 10 - k.toNatClampNeg < n_2 + 1) (h0k : 0 ≤ k) (c_1 : num ≤ k) (hn_62 : 10 - k2.toNatClampNeg < n_62 + 1) (h0k2 : 0 ≤ k2) (c_2 : num ≤ k2) (ev_3 : v_3 = u_size a.toNatClampNeg) (fx_4 : vp_in v_3 3) : okWh u_when := by
  exact hwh
set_option maxHeartbeats 1000000 in
theorem pf_X4_hinders_9 (num : Int32) (pts : Int32) (u_size : Nat → Int32) (u_when : Nat → Int32) (u_degrees : Nat → Int32) (a : Int32) (day : Int32) (n_2 : Nat) (k : Int32) (n_62 : Nat) (k2 : Int32) (v_3 : Int32) (hn0 : 0 ≤ num) (hn1 : num ≤ 10) (hp0 : 0 ≤ pts) (hp6 : pts ≤ 6) (hdg : okDeg u_degrees pts) (hwh : okWh u_when) (hz : okSz u_size) (ha0 : 0 ≤ a) (ha1 : a < num) (hda : day ≤ 39) (hn_2 : 10 - k.toNatClampNeg < n_2 + 1) (h0k : 0 ≤ k) (c_1 : num ≤ k) (hn_62 : 10 - k2.toNatClampNeg < n_62 + 1) (h0k2 : 0 ≤ k2) (c_2 : num ≤ k2) (ev_3 : v_3 = u_size a.toNatClampNeg) (fx_4 : vp_in v_3 3) : vp_in v_3 3 := by
  assumption
set_option maxHeartbeats 1000000 in
theorem pf_X4_hinders_10 (num : Int32) (pts : Int32) (u_size : Nat → Int32) (u_when : Nat → Int32) (u_degrees : Nat → Int32) (a : Int32) (day : Int32) (n_2 : Nat) (k : Int32) (n_62 : Nat) (k2 : Int32) (v_3 : Int32) (hn0 : 0 ≤ num) (hn1 : num ≤ 10) (hp0 : 0 ≤ pts) (hp6 : pts ≤ 6) (hdg : okDeg u_degrees pts) (hwh : okWh u_when) (hz : okSz u_size) (ha0 : 0 ≤ a) (ha1 : a < num) (hda : day ≤ 39) (hn_2 : 10 - k.toNatClampNeg < n_2 + 1) (h0k : 0 ≤ k) (c_1 : num ≤ k) (hn_62 : 10 - k2.toNatClampNeg < n_62 + 1) (h0k2 : 0 ≤ k2) (c_2 : num ≤ k2) (ev_3 : v_3 = u_size a.toNatClampNeg) (fx_4 : vp_in v_3 3) : vp_in a 10 := by
  exact vi_in (M := 10) rfl (by grind [bSt]) (by grind [bSt])
set_option maxHeartbeats 1000000 in
theorem pf_X4_hinders_11 (num : Int32) (pts : Int32) (u_size : Nat → Int32) (u_faces : Nat → Int32) (u_when : Nat → Int32) (u_degrees : Nat → Int32) (a : Int32) (day : Int32) (n_2 : Nat) (k : Int32) (n_62 : Nat) (k2 : Int32) (v_3 : Int32) (r_5 : Int32) (v_7 : Int32) (hn0 : 0 ≤ num) (hn1 : num ≤ 10) (hp0 : 0 ≤ pts) (hp6 : pts ≤ 6) (hdg : okDeg u_degrees pts) (hwh : okWh u_when) (hz : okSz u_size) (ha0 : 0 ≤ a) (ha1 : a < num) (hda : day ≤ 39) (hn_2 : 10 - k.toNatClampNeg < n_2 + 1) (h0k : 0 ≤ k) (c_1 : num ≤ k) (hn_62 : 10 - k2.toNatClampNeg < n_62 + 1) (h0k2 : 0 ≤ k2) (c_2 : num ≤ k2) (ev_3 : v_3 = u_size a.toNatClampNeg) (fx_4 : vp_in v_3 3) (ev_7 : v_7 = u_faces a.toNatClampNeg) (c_8 : v_7 ≤ r_5) : 0 ≤ num := by
  grind [bSt]
set_option maxHeartbeats 1000000 in
theorem pf_X4_hinders_12 (num : Int32) (pts : Int32) (u_size : Nat → Int32) (u_faces : Nat → Int32) (u_when : Nat → Int32) (u_degrees : Nat → Int32) (a : Int32) (day : Int32) (n_2 : Nat) (k : Int32) (n_62 : Nat) (k2 : Int32) (v_3 : Int32) (r_5 : Int32) (v_7 : Int32) (hn0 : 0 ≤ num) (hn1 : num ≤ 10) (hp0 : 0 ≤ pts) (hp6 : pts ≤ 6) (hdg : okDeg u_degrees pts) (hwh : okWh u_when) (hz : okSz u_size) (ha0 : 0 ≤ a) (ha1 : a < num) (hda : day ≤ 39) (hn_2 : 10 - k.toNatClampNeg < n_2 + 1) (h0k : 0 ≤ k) (c_1 : num ≤ k) (hn_62 : 10 - k2.toNatClampNeg < n_62 + 1) (h0k2 : 0 ≤ k2) (c_2 : num ≤ k2) (ev_3 : v_3 = u_size a.toNatClampNeg) (fx_4 : vp_in v_3 3) (ev_7 : v_7 = u_faces a.toNatClampNeg) (c_8 : v_7 ≤ r_5) : num ≤ 10 := by
  grind [bSt]
set_option maxHeartbeats 1000000 in
theorem pf_X4_hinders_13 (num : Int32) (pts : Int32) (u_size : Nat → Int32) (u_faces : Nat → Int32) (u_when : Nat → Int32) (u_degrees : Nat → Int32) (a : Int32) (day : Int32) (n_2 : Nat) (k : Int32) (n_62 : Nat) (k2 : Int32) (v_3 : Int32) (r_5 : Int32) (v_7 : Int32) (hn0 : 0 ≤ num) (hn1 : num ≤ 10) (hp0 : 0 ≤ pts) (hp6 : pts ≤ 6) (hdg : okDeg u_degrees pts) (hwh : okWh u_when) (hz : okSz u_size) (ha0 : 0 ≤ a) (ha1 : a < num) (hda : day ≤ 39) (hn_2 : 10 - k.toNatClampNeg < n_2 + 1) (h0k : 0 ≤ k) (c_1 : num ≤ k) (hn_62 : 10 - k2.toNatClampNeg < n_62 + 1) (h0k2 : 0 ≤ k2) (c_2 : num ≤ k2) (ev_3 : v_3 = u_size a.toNatClampNeg) (fx_4 : vp_in v_3 3) (ev_7 : v_7 = u_faces a.toNatClampNeg) (c_8 : v_7 ≤ r_5) : vp_in a 10 := by
  exact vi_in (M := 10) rfl (by grind [bSt]) (by grind [bSt])
set_option maxHeartbeats 1000000 in
theorem pf_X4_hinders_14 (num : Int32) (pts : Int32) (u_size : Nat → Int32) (u_when : Nat → Int32) (u_degrees : Nat → Int32) (a : Int32) (day : Int32) (n_2 : Nat) (k : Int32) (n_62 : Nat) (k2 : Int32) (hn0 : 0 ≤ num) (hn1 : num ≤ 10) (hp0 : 0 ≤ pts) (hp6 : pts ≤ 6) (hdg : okDeg u_degrees pts) (hwh : okWh u_when) (hz : okSz u_size) (ha0 : 0 ≤ a) (ha1 : a < num) (hda : day ≤ 39) (hn_2 : 10 - k.toNatClampNeg < n_2 + 1) (h0k : 0 ≤ k) (c_1 : num ≤ k) (hn_62 : 10 - k2.toNatClampNeg < n_62 + 1) (h0k2 : 0 ≤ k2) (c_2 : ¬ num ≤ k2) : vp_in a 10 := by
  exact vi_in (M := 10) rfl (by grind [bSt]) (by grind [bSt])
set_option maxHeartbeats 1000000 in
theorem pf_X4_hinders_15 (num : Int32) (pts : Int32) (u_kind : Nat → Int32) (u_size : Nat → Int32) (u_when : Nat → Int32) (u_degrees : Nat → Int32) (a : Int32) (day : Int32) (n_2 : Nat) (k : Int32) (n_62 : Nat) (k2 : Int32) (v_14 : Int32) (hn0 : 0 ≤ num) (hn1 : num ≤ 10) (hp0 : 0 ≤ pts) (hp6 : pts ≤ 6) (hdg : okDeg u_degrees pts) (hwh : okWh u_when) (hz : okSz u_size) (ha0 : 0 ≤ a) (ha1 : a < num) (hda : day ≤ 39) (hn_2 : 10 - k.toNatClampNeg < n_2 + 1) (h0k : 0 ≤ k) (c_1 : num ≤ k) (hn_62 : 10 - k2.toNatClampNeg < n_62 + 1) (h0k2 : 0 ≤ k2) (c_2 : ¬ num ≤ k2) (ev_14 : v_14 = u_kind a.toNatClampNeg) (c_15 : ¬ v_14 = 0) : vp_in a 10 := by
  exact vi_in (M := 10) rfl (by grind [bSt]) (by grind [bSt])
set_option maxHeartbeats 1000000 in
theorem pf_X4_hinders_16 (num : Int32) (pts : Int32) (u_kind : Nat → Int32) (u_size : Nat → Int32) (u_when : Nat → Int32) (u_degrees : Nat → Int32) (a : Int32) (day : Int32) (n_2 : Nat) (k : Int32) (n_62 : Nat) (k2 : Int32) (v_14 : Int32) (v_16 : Int32) (hn0 : 0 ≤ num) (hn1 : num ≤ 10) (hp0 : 0 ≤ pts) (hp6 : pts ≤ 6) (hdg : okDeg u_degrees pts) (hwh : okWh u_when) (hz : okSz u_size) (ha0 : 0 ≤ a) (ha1 : a < num) (hda : day ≤ 39) (hn_2 : 10 - k.toNatClampNeg < n_2 + 1) (h0k : 0 ≤ k) (c_1 : num ≤ k) (hn_62 : 10 - k2.toNatClampNeg < n_62 + 1) (h0k2 : 0 ≤ k2) (c_2 : ¬ num ≤ k2) (ev_14 : v_14 = u_kind a.toNatClampNeg) (c_15 : ¬ v_14 = 0) (ev_16 : v_16 = u_size a.toNatClampNeg) : vp_in v_16 3 := by
  have h9 := hz a.toNatClampNeg
  exact vi_in (M := 3) rfl (by grind) (by grind)
set_option maxHeartbeats 1000000 in
theorem pf_X4_hinders_17 (num : Int32) (pts : Int32) (u_kind : Nat → Int32) (u_size : Nat → Int32) (u_when : Nat → Int32) (u_degrees : Nat → Int32) (a : Int32) (day : Int32) (n_2 : Nat) (k : Int32) (n_62 : Nat) (k2 : Int32) (v_14 : Int32) (v_16 : Int32) (hn0 : 0 ≤ num) (hn1 : num ≤ 10) (hp0 : 0 ≤ pts) (hp6 : pts ≤ 6) (hdg : okDeg u_degrees pts) (hwh : okWh u_when) (hz : okSz u_size) (ha0 : 0 ≤ a) (ha1 : a < num) (hda : day ≤ 39) (hn_2 : 10 - k.toNatClampNeg < n_2 + 1) (h0k : 0 ≤ k) (c_1 : num ≤ k) (hn_62 : 10 - k2.toNatClampNeg < n_62 + 1) (h0k2 : 0 ≤ k2) (c_2 : ¬ num ≤ k2) (ev_14 : v_14 = u_kind a.toNatClampNeg) (c_15 : ¬ v_14 = 0) (ev_16 : v_16 = u_size a.toNatClampNeg) (fx_17 : vp_in v_16 3) : 0 ≤ num := by
  grind [bSt]
set_option maxHeartbeats 1000000 in
theorem pf_X4_hinders_18 (num : Int32) (pts : Int32) (u_kind : Nat → Int32) (u_size : Nat → Int32) (u_when : Nat → Int32) (u_degrees : Nat → Int32) (a : Int32) (day : Int32) (n_2 : Nat) (k : Int32) (n_62 : Nat) (k2 : Int32) (v_14 : Int32) (v_16 : Int32) (hn0 : 0 ≤ num) (hn1 : num ≤ 10) (hp0 : 0 ≤ pts) (hp6 : pts ≤ 6) (hdg : okDeg u_degrees pts) (hwh : okWh u_when) (hz : okSz u_size) (ha0 : 0 ≤ a) (ha1 : a < num) (hda : day ≤ 39) (hn_2 : 10 - k.toNatClampNeg < n_2 + 1) (h0k : 0 ≤ k) (c_1 : num ≤ k) (hn_62 : 10 - k2.toNatClampNeg < n_62 + 1) (h0k2 : 0 ≤ k2) (c_2 : ¬ num ≤ k2) (ev_14 : v_14 = u_kind a.toNatClampNeg) (c_15 : ¬ v_14 = 0) (ev_16 : v_16 = u_size a.toNatClampNeg) (fx_17 : vp_in v_16 3) : num ≤ 10 := by
  grind [bSt]
set_option maxHeartbeats 1000000 in
theorem pf_X4_hinders_19 (num : Int32) (pts : Int32) (u_kind : Nat → Int32) (u_size : Nat → Int32) (u_when : Nat → Int32) (u_degrees : Nat → Int32) (a : Int32) (day : Int32) (n_2 : Nat) (k : Int32) (n_62 : Nat) (k2 : Int32) (v_14 : Int32) (v_16 : Int32) (hn0 : 0 ≤ num) (hn1 : num ≤ 10) (hp0 : 0 ≤ pts) (hp6 : pts ≤ 6) (hdg : okDeg u_degrees pts) (hwh : okWh u_when) (hz : okSz u_size) (ha0 : 0 ≤ a) (ha1 : a < num) (hda : day ≤ 39) (hn_2 : 10 - k.toNatClampNeg < n_2 + 1) (h0k : 0 ≤ k) (c_1 : num ≤ k) (hn_62 : 10 - k2.toNatClampNeg < n_62 + 1) (h0k2 : 0 ≤ k2) (c_2 : ¬ num ≤ k2) (ev_14 : v_14 = u_kind a.toNatClampNeg) (c_15 : ¬ v_14 = 0) (ev_16 : v_16 = u_size a.toNatClampNeg) (fx_17 : vp_in v_16 3) : 0 ≤ pts := by
  grind [bSt]
set_option maxHeartbeats 1000000 in
theorem pf_X4_hinders_20 (num : Int32) (pts : Int32) (u_kind : Nat → Int32) (u_size : Nat → Int32) (u_when : Nat → Int32) (u_degrees : Nat → Int32) (a : Int32) (day : Int32) (n_2 : Nat) (k : Int32) (n_62 : Nat) (k2 : Int32) (v_14 : Int32) (v_16 : Int32) (hn0 : 0 ≤ num) (hn1 : num ≤ 10) (hp0 : 0 ≤ pts) (hp6 : pts ≤ 6) (hdg : okDeg u_degrees pts) (hwh : okWh u_when) (hz : okSz u_size) (ha0 : 0 ≤ a) (ha1 : a < num) (hda : day ≤ 39) (hn_2 : 10 - k.toNatClampNeg < n_2 + 1) (h0k : 0 ≤ k) (c_1 : num ≤ k) (hn_62 : 10 - k2.toNatClampNeg < n_62 + 1) (h0k2 : 0 ≤ k2) (c_2 : ¬ num ≤ k2) (ev_14 : v_14 = u_kind a.toNatClampNeg) (c_15 : ¬ v_14 = 0) (ev_16 : v_16 = u_size a.toNatClampNeg) (fx_17 : vp_in v_16 3) : pts ≤ 6 := by
  grind [bSt]
set_option maxHeartbeats 1000000 in
theorem pf_X4_hinders_21 (num : Int32) (pts : Int32) (u_kind : Nat → Int32) (u_size : Nat → Int32) (u_when : Nat → Int32) (u_degrees : Nat → Int32) (a : Int32) (day : Int32) (n_2 : Nat) (k : Int32) (n_62 : Nat) (k2 : Int32) (v_14 : Int32) (v_16 : Int32) (hn0 : 0 ≤ num) (hn1 : num ≤ 10) (hp0 : 0 ≤ pts) (hp6 : pts ≤ 6) (hdg : okDeg u_degrees pts) (hwh : okWh u_when) (hz : okSz u_size) (ha0 : 0 ≤ a) (ha1 : a < num) (hda : day ≤ 39) (hn_2 : 10 - k.toNatClampNeg < n_2 + 1) (h0k : 0 ≤ k) (c_1 : num ≤ k) (hn_62 : 10 - k2.toNatClampNeg < n_62 + 1) (h0k2 : 0 ≤ k2) (c_2 : ¬ num ≤ k2) (ev_14 : v_14 = u_kind a.toNatClampNeg) (c_15 : ¬ v_14 = 0) (ev_16 : v_16 = u_size a.toNatClampNeg) (fx_17 : vp_in v_16 3) : okDeg u_degrees pts := by
  exact hdg
set_option maxHeartbeats 1000000 in
theorem pf_X4_hinders_22 (num : Int32) (pts : Int32) (u_kind : Nat → Int32) (u_size : Nat → Int32) (u_when : Nat → Int32) (u_degrees : Nat → Int32) (a : Int32) (day : Int32) (n_2 : Nat) (k : Int32) (n_62 : Nat) (k2 : Int32) (v_14 : Int32) (v_16 : Int32) (hn0 : 0 ≤ num) (hn1 : num ≤ 10) (hp0 : 0 ≤ pts) (hp6 : pts ≤ 6) (hdg : okDeg u_degrees pts) (hwh : okWh u_when) (hz : okSz u_size) (ha0 : 0 ≤ a) (ha1 : a < num) (hda : day ≤ 39) (hn_2 : 10 - k.toNatClampNeg < n_2 + 1) (h0k : 0 ≤ k) (c_1 : num ≤ k) (hn_62 : 10 - k2.toNatClampNeg < n_62 + 1) (h0k2 : 0 ≤ k2) (c_2 : ¬ num ≤ k2) (ev_14 : v_14 = u_kind a.toNatClampNeg) (c_15 : ¬ v_14 = 0) (ev_16 : v_16 = u_size a.toNatClampNeg) (fx_17 : vp_in v_16 3) : okWh u_when := by
  exact hwh
set_option maxHeartbeats 1000000 in
theorem pf_X4_hinders_23 (num : Int32) (pts : Int32) (u_kind : Nat → Int32) (u_size : Nat → Int32) (u_when : Nat → Int32) (u_degrees : Nat → Int32) (a : Int32) (day : Int32) (n_2 : Nat) (k : Int32) (n_62 : Nat) (k2 : Int32) (v_14 : Int32) (v_16 : Int32) (hn0 : 0 ≤ num) (hn1 : num ≤ 10) (hp0 : 0 ≤ pts) (hp6 : pts ≤ 6) (hdg : okDeg u_degrees pts) (hwh : okWh u_when) (hz : okSz u_size) (ha0 : 0 ≤ a) (ha1 : a < num) (hda : day ≤ 39) (hn_2 : 10 - k.toNatClampNeg < n_2 + 1) (h0k : 0 ≤ k) (c_1 : num ≤ k) (hn_62 : 10 - k2.toNatClampNeg < n_62 + 1) (h0k2 : 0 ≤ k2) (c_2 : ¬ num ≤ k2) (ev_14 : v_14 = u_kind a.toNatClampNeg) (c_15 : ¬ v_14 = 0) (ev_16 : v_16 = u_size a.toNatClampNeg) (fx_17 : vp_in v_16 3) : vp_in v_16 3 := by
  assumption
set_option maxHeartbeats 1000000 in
theorem pf_X4_hinders_24 (num : Int32) (pts : Int32) (u_kind : Nat → Int32) (u_size : Nat → Int32) (u_when : Nat → Int32) (u_degrees : Nat → Int32) (a : Int32) (day : Int32) (n_2 : Nat) (k : Int32) (n_62 : Nat) (k2 : Int32) (v_14 : Int32) (v_16 : Int32) (hn0 : 0 ≤ num) (hn1 : num ≤ 10) (hp0 : 0 ≤ pts) (hp6 : pts ≤ 6) (hdg : okDeg u_degrees pts) (hwh : okWh u_when) (hz : okSz u_size) (ha0 : 0 ≤ a) (ha1 : a < num) (hda : day ≤ 39) (hn_2 : 10 - k.toNatClampNeg < n_2 + 1) (h0k : 0 ≤ k) (c_1 : num ≤ k) (hn_62 : 10 - k2.toNatClampNeg < n_62 + 1) (h0k2 : 0 ≤ k2) (c_2 : ¬ num ≤ k2) (ev_14 : v_14 = u_kind a.toNatClampNeg) (c_15 : ¬ v_14 = 0) (ev_16 : v_16 = u_size a.toNatClampNeg) (fx_17 : vp_in v_16 3) : vp_in a 10 := by
  exact vi_in (M := 10) rfl (by grind [bSt]) (by grind [bSt])
set_option maxHeartbeats 1000000 in
theorem pf_X4_hinders_25 (num : Int32) (pts : Int32) (u_kind : Nat → Int32) (u_size : Nat → Int32) (u_faces : Nat → Int32) (u_when : Nat → Int32) (u_degrees : Nat → Int32) (a : Int32) (day : Int32) (n_2 : Nat) (k : Int32) (n_62 : Nat) (k2 : Int32) (v_14 : Int32) (v_16 : Int32) (r_18 : Int32) (v_20 : Int32) (hn0 : 0 ≤ num) (hn1 : num ≤ 10) (hp0 : 0 ≤ pts) (hp6 : pts ≤ 6) (hdg : okDeg u_degrees pts) (hwh : okWh u_when) (hz : okSz u_size) (ha0 : 0 ≤ a) (ha1 : a < num) (hda : day ≤ 39) (hn_2 : 10 - k.toNatClampNeg < n_2 + 1) (h0k : 0 ≤ k) (c_1 : num ≤ k) (hn_62 : 10 - k2.toNatClampNeg < n_62 + 1) (h0k2 : 0 ≤ k2) (c_2 : ¬ num ≤ k2) (ev_14 : v_14 = u_kind a.toNatClampNeg) (c_15 : ¬ v_14 = 0) (ev_16 : v_16 = u_size a.toNatClampNeg) (fx_17 : vp_in v_16 3) (ev_20 : v_20 = u_faces a.toNatClampNeg) (c_21 : v_20 ≤ r_18) : 0 ≤ num := by
  grind [bSt]
set_option maxHeartbeats 1000000 in
theorem pf_X4_hinders_26 (num : Int32) (pts : Int32) (u_kind : Nat → Int32) (u_size : Nat → Int32) (u_faces : Nat → Int32) (u_when : Nat → Int32) (u_degrees : Nat → Int32) (a : Int32) (day : Int32) (n_2 : Nat) (k : Int32) (n_62 : Nat) (k2 : Int32) (v_14 : Int32) (v_16 : Int32) (r_18 : Int32) (v_20 : Int32) (hn0 : 0 ≤ num) (hn1 : num ≤ 10) (hp0 : 0 ≤ pts) (hp6 : pts ≤ 6) (hdg : okDeg u_degrees pts) (hwh : okWh u_when) (hz : okSz u_size) (ha0 : 0 ≤ a) (ha1 : a < num) (hda : day ≤ 39) (hn_2 : 10 - k.toNatClampNeg < n_2 + 1) (h0k : 0 ≤ k) (c_1 : num ≤ k) (hn_62 : 10 - k2.toNatClampNeg < n_62 + 1) (h0k2 : 0 ≤ k2) (c_2 : ¬ num ≤ k2) (ev_14 : v_14 = u_kind a.toNatClampNeg) (c_15 : ¬ v_14 = 0) (ev_16 : v_16 = u_size a.toNatClampNeg) (fx_17 : vp_in v_16 3) (ev_20 : v_20 = u_faces a.toNatClampNeg) (c_21 : v_20 ≤ r_18) : num ≤ 10 := by
  grind [bSt]
set_option maxHeartbeats 1000000 in
theorem pf_X4_hinders_27 (num : Int32) (pts : Int32) (u_kind : Nat → Int32) (u_size : Nat → Int32) (u_faces : Nat → Int32) (u_when : Nat → Int32) (u_degrees : Nat → Int32) (a : Int32) (day : Int32) (n_2 : Nat) (k : Int32) (n_62 : Nat) (k2 : Int32) (v_14 : Int32) (v_16 : Int32) (r_18 : Int32) (v_20 : Int32) (hn0 : 0 ≤ num) (hn1 : num ≤ 10) (hp0 : 0 ≤ pts) (hp6 : pts ≤ 6) (hdg : okDeg u_degrees pts) (hwh : okWh u_when) (hz : okSz u_size) (ha0 : 0 ≤ a) (ha1 : a < num) (hda : day ≤ 39) (hn_2 : 10 - k.toNatClampNeg < n_2 + 1) (h0k : 0 ≤ k) (c_1 : num ≤ k) (hn_62 : 10 - k2.toNatClampNeg < n_62 + 1) (h0k2 : 0 ≤ k2) (c_2 : ¬ num ≤ k2) (ev_14 : v_14 = u_kind a.toNatClampNeg) (c_15 : ¬ v_14 = 0) (ev_16 : v_16 = u_size a.toNatClampNeg) (fx_17 : vp_in v_16 3) (ev_20 : v_20 = u_faces a.toNatClampNeg) (c_21 : v_20 ≤ r_18) : vp_in a 10 := by
  exact vi_in (M := 10) rfl (by grind [bSt]) (by grind [bSt])
set_option maxHeartbeats 1000000 in
theorem pf_X4_hinders_28 (num : Int32) (pts : Int32) (u_kind : Nat → Int32) (u_size : Nat → Int32) (u_when : Nat → Int32) (u_degrees : Nat → Int32) (a : Int32) (day : Int32) (n_2 : Nat) (k : Int32) (n_62 : Nat) (k2 : Int32) (v_14 : Int32) (hn0 : 0 ≤ num) (hn1 : num ≤ 10) (hp0 : 0 ≤ pts) (hp6 : pts ≤ 6) (hdg : okDeg u_degrees pts) (hwh : okWh u_when) (hz : okSz u_size) (ha0 : 0 ≤ a) (ha1 : a < num) (hda : day ≤ 39) (hn_2 : 10 - k.toNatClampNeg < n_2 + 1) (h0k : 0 ≤ k) (c_1 : num ≤ k) (hn_62 : 10 - k2.toNatClampNeg < n_62 + 1) (h0k2 : 0 ≤ k2) (c_2 : ¬ num ≤ k2) (ev_14 : v_14 = u_kind a.toNatClampNeg) (c_15 : v_14 = 0) : vp_in a 10 := by
  exact vi_in (M := 10) rfl (by grind) (by grind)
set_option maxHeartbeats 1000000 in
theorem pf_X4_hinders_29 (num : Int32) (pts : Int32) (u_kind : Nat → Int32) (u_size : Nat → Int32) (u_when : Nat → Int32) (u_degrees : Nat → Int32) (a : Int32) (day : Int32) (n_2 : Nat) (k : Int32) (n_62 : Nat) (k2 : Int32) (v_14 : Int32) (hn0 : 0 ≤ num) (hn1 : num ≤ 10) (hp0 : 0 ≤ pts) (hp6 : pts ≤ 6) (hdg : okDeg u_degrees pts) (hwh : okWh u_when) (hz : okSz u_size) (ha0 : 0 ≤ a) (ha1 : a < num) (hda : day ≤ 39) (hn_2 : 10 - k.toNatClampNeg < n_2 + 1) (h0k : 0 ≤ k) (c_1 : num ≤ k) (hn_62 : 10 - k2.toNatClampNeg < n_62 + 1) (h0k2 : 0 ≤ k2) (c_2 : ¬ num ≤ k2) (ev_14 : v_14 = u_kind a.toNatClampNeg) (c_15 : v_14 = 0) : vp_in k2 10 := by
  exact vi_in (M := 10) rfl (by grind) (by grind)
set_option maxHeartbeats 1000000 in
theorem pf_X4_hinders_30 (num : Int32) (pts : Int32) (u_kind : Nat → Int32) (u_size : Nat → Int32) (u_when : Nat → Int32) (u_degrees : Nat → Int32) (a : Int32) (day : Int32) (n_2 : Nat) (k : Int32) (n_62 : Nat) (k2 : Int32) (v_14 : Int32) (r_27 : Int32) (v_30 : Int32) (hn0 : 0 ≤ num) (hn1 : num ≤ 10) (hp0 : 0 ≤ pts) (hp6 : pts ≤ 6) (hdg : okDeg u_degrees pts) (hwh : okWh u_when) (hz : okSz u_size) (ha0 : 0 ≤ a) (ha1 : a < num) (hda : day ≤ 39) (hn_2 : 10 - k.toNatClampNeg < n_2 + 1) (h0k : 0 ≤ k) (c_1 : num ≤ k) (hn_62 : 10 - k2.toNatClampNeg < n_62 + 1) (h0k2 : 0 ≤ k2) (c_2 : ¬ num ≤ k2) (ev_14 : v_14 = u_kind a.toNatClampNeg) (c_15 : v_14 = 0) (c_29 : r_27 = 0) (ev_30 : v_30 = k2 + 1) : 10 - v_30.toNatClampNeg < n_62 := by
  exact ms_dec (L := 10) (k := k2) (by grind) (show ¬ (10 : Int32) ≤ k2 by grind) (by omega) (by assumption) hn_62
set_option maxHeartbeats 1000000 in
theorem pf_X4_hinders_31 (num : Int32) (pts : Int32) (u_kind : Nat → Int32) (u_size : Nat → Int32) (u_when : Nat → Int32) (u_degrees : Nat → Int32) (a : Int32) (day : Int32) (n_2 : Nat) (k : Int32) (n_62 : Nat) (k2 : Int32) (v_14 : Int32) (r_27 : Int32) (v_30 : Int32) (hn0 : 0 ≤ num) (hn1 : num ≤ 10) (hp0 : 0 ≤ pts) (hp6 : pts ≤ 6) (hdg : okDeg u_degrees pts) (hwh : okWh u_when) (hz : okSz u_size) (ha0 : 0 ≤ a) (ha1 : a < num) (hda : day ≤ 39) (hn_2 : 10 - k.toNatClampNeg < n_2 + 1) (h0k : 0 ≤ k) (c_1 : num ≤ k) (hn_62 : 10 - k2.toNatClampNeg < n_62 + 1) (h0k2 : 0 ≤ k2) (c_2 : ¬ num ≤ k2) (ev_14 : v_14 = u_kind a.toNatClampNeg) (c_15 : v_14 = 0) (c_29 : r_27 = 0) (ev_30 : v_30 = k2 + 1) : 0 ≤ v_30 := by
  grind [bSt]
set_option maxHeartbeats 1000000 in
theorem pf_X4_hinders_32 (num : Int32) (pts : Int32) (u_kind : Nat → Int32) (u_size : Nat → Int32) (u_when : Nat → Int32) (u_degrees : Nat → Int32) (a : Int32) (day : Int32) (n_2 : Nat) (k : Int32) (n_62 : Nat) (k2 : Int32) (v_14 : Int32) (r_27 : Int32) (hn0 : 0 ≤ num) (hn1 : num ≤ 10) (hp0 : 0 ≤ pts) (hp6 : pts ≤ 6) (hdg : okDeg u_degrees pts) (hwh : okWh u_when) (hz : okSz u_size) (ha0 : 0 ≤ a) (ha1 : a < num) (hda : day ≤ 39) (hn_2 : 10 - k.toNatClampNeg < n_2 + 1) (h0k : 0 ≤ k) (c_1 : num ≤ k) (hn_62 : 10 - k2.toNatClampNeg < n_62 + 1) (h0k2 : 0 ≤ k2) (c_2 : ¬ num ≤ k2) (ev_14 : v_14 = u_kind a.toNatClampNeg) (c_15 : v_14 = 0) (c_29 : ¬ r_27 = 0) : vp_in k2 10 := by
  exact vi_in (M := 10) rfl (by grind) (by grind)
set_option maxHeartbeats 1000000 in
theorem pf_X4_hinders_33 (num : Int32) (pts : Int32) (u_kind : Nat → Int32) (u_size : Nat → Int32) (u_when : Nat → Int32) (u_degrees : Nat → Int32) (a : Int32) (day : Int32) (n_2 : Nat) (k : Int32) (n_62 : Nat) (k2 : Int32) (v_14 : Int32) (r_27 : Int32) (r_31 : Int32) (hn0 : 0 ≤ num) (hn1 : num ≤ 10) (hp0 : 0 ≤ pts) (hp6 : pts ≤ 6) (hdg : okDeg u_degrees pts) (hwh : okWh u_when) (hz : okSz u_size) (ha0 : 0 ≤ a) (ha1 : a < num) (hda : day ≤ 39) (hn_2 : 10 - k.toNatClampNeg < n_2 + 1) (h0k : 0 ≤ k) (c_1 : num ≤ k) (hn_62 : 10 - k2.toNatClampNeg < n_62 + 1) (h0k2 : 0 ≤ k2) (c_2 : ¬ num ≤ k2) (ev_14 : v_14 = u_kind a.toNatClampNeg) (c_15 : v_14 = 0) (c_29 : ¬ r_27 = 0) (w_32 : r_31 = bSt (u_when k2.toNatClampNeg) day) (c_34 : ¬ r_31 = 0) : vp_in k2 10 := by
  exact vi_in (M := 10) rfl (by grind [bSt]) (by grind [bSt])
set_option maxHeartbeats 1000000 in
theorem pf_X4_hinders_34 (num : Int32) (pts : Int32) (u_kind : Nat → Int32) (u_size : Nat → Int32) (u_when : Nat → Int32) (u_degrees : Nat → Int32) (a : Int32) (day : Int32) (n_2 : Nat) (k : Int32) (n_62 : Nat) (k2 : Int32) (v_14 : Int32) (r_27 : Int32) (r_31 : Int32) (v_35 : Int32) (hn0 : 0 ≤ num) (hn1 : num ≤ 10) (hp0 : 0 ≤ pts) (hp6 : pts ≤ 6) (hdg : okDeg u_degrees pts) (hwh : okWh u_when) (hz : okSz u_size) (ha0 : 0 ≤ a) (ha1 : a < num) (hda : day ≤ 39) (hn_2 : 10 - k.toNatClampNeg < n_2 + 1) (h0k : 0 ≤ k) (c_1 : num ≤ k) (hn_62 : 10 - k2.toNatClampNeg < n_62 + 1) (h0k2 : 0 ≤ k2) (c_2 : ¬ num ≤ k2) (ev_14 : v_14 = u_kind a.toNatClampNeg) (c_15 : v_14 = 0) (c_29 : ¬ r_27 = 0) (w_32 : r_31 = bSt (u_when k2.toNatClampNeg) day) (c_34 : ¬ r_31 = 0) (ev_35 : v_35 = u_when k2.toNatClampNeg) : -1 ≤ v_35 ∧ v_35 ≤ 39 := by
  have h9 := hwh k2.toNatClampNeg
  grind
set_option maxHeartbeats 1000000 in
theorem pf_X4_hinders_35 (num : Int32) (pts : Int32) (u_kind : Nat → Int32) (u_size : Nat → Int32) (u_when : Nat → Int32) (u_degrees : Nat → Int32) (a : Int32) (day : Int32) (n_2 : Nat) (k : Int32) (n_62 : Nat) (k2 : Int32) (v_14 : Int32) (r_27 : Int32) (r_31 : Int32) (v_35 : Int32) (hn0 : 0 ≤ num) (hn1 : num ≤ 10) (hp0 : 0 ≤ pts) (hp6 : pts ≤ 6) (hdg : okDeg u_degrees pts) (hwh : okWh u_when) (hz : okSz u_size) (ha0 : 0 ≤ a) (ha1 : a < num) (hda : day ≤ 39) (hn_2 : 10 - k.toNatClampNeg < n_2 + 1) (h0k : 0 ≤ k) (c_1 : num ≤ k) (hn_62 : 10 - k2.toNatClampNeg < n_62 + 1) (h0k2 : 0 ≤ k2) (c_2 : ¬ num ≤ k2) (ev_14 : v_14 = u_kind a.toNatClampNeg) (c_15 : v_14 = 0) (c_29 : ¬ r_27 = 0) (w_32 : r_31 = bSt (u_when k2.toNatClampNeg) day) (c_34 : ¬ r_31 = 0) (ev_35 : v_35 = u_when k2.toNatClampNeg) (fx_36 : -1 ≤ v_35 ∧ v_35 ≤ 39) : 0 ≤ pts := by
  grind [bSt]
set_option maxHeartbeats 1000000 in
theorem pf_X4_hinders_36 (num : Int32) (pts : Int32) (u_kind : Nat → Int32) (u_size : Nat → Int32) (u_when : Nat → Int32) (u_degrees : Nat → Int32) (a : Int32) (day : Int32) (n_2 : Nat) (k : Int32) (n_62 : Nat) (k2 : Int32) (v_14 : Int32) (r_27 : Int32) (r_31 : Int32) (v_35 : Int32) (hn0 : 0 ≤ num) (hn1 : num ≤ 10) (hp0 : 0 ≤ pts) (hp6 : pts ≤ 6) (hdg : okDeg u_degrees pts) (hwh : okWh u_when) (hz : okSz u_size) (ha0 : 0 ≤ a) (ha1 : a < num) (hda : day ≤ 39) (hn_2 : 10 - k.toNatClampNeg < n_2 + 1) (h0k : 0 ≤ k) (c_1 : num ≤ k) (hn_62 : 10 - k2.toNatClampNeg < n_62 + 1) (h0k2 : 0 ≤ k2) (c_2 : ¬ num ≤ k2) (ev_14 : v_14 = u_kind a.toNatClampNeg) (c_15 : v_14 = 0) (c_29 : ¬ r_27 = 0) (w_32 : r_31 = bSt (u_when k2.toNatClampNeg) day) (c_34 : ¬ r_31 = 0) (ev_35 : v_35 = u_when k2.toNatClampNeg) (fx_36 : -1 ≤ v_35 ∧ v_35 ≤ 39) : pts ≤ 6 := by
  grind [bSt]
set_option maxHeartbeats 1000000 in
theorem pf_X4_hinders_37 (num : Int32) (pts : Int32) (u_kind : Nat → Int32) (u_size : Nat → Int32) (u_when : Nat → Int32) (u_degrees : Nat → Int32) (a : Int32) (day : Int32) (n_2 : Nat) (k : Int32) (n_62 : Nat) (k2 : Int32) (v_14 : Int32) (r_27 : Int32) (r_31 : Int32) (v_35 : Int32) (hn0 : 0 ≤ num) (hn1 : num ≤ 10) (hp0 : 0 ≤ pts) (hp6 : pts ≤ 6) (hdg : okDeg u_degrees pts) (hwh : okWh u_when) (hz : okSz u_size) (ha0 : 0 ≤ a) (ha1 : a < num) (hda : day ≤ 39) (hn_2 : 10 - k.toNatClampNeg < n_2 + 1) (h0k : 0 ≤ k) (c_1 : num ≤ k) (hn_62 : 10 - k2.toNatClampNeg < n_62 + 1) (h0k2 : 0 ≤ k2) (c_2 : ¬ num ≤ k2) (ev_14 : v_14 = u_kind a.toNatClampNeg) (c_15 : v_14 = 0) (c_29 : ¬ r_27 = 0) (w_32 : r_31 = bSt (u_when k2.toNatClampNeg) day) (c_34 : ¬ r_31 = 0) (ev_35 : v_35 = u_when k2.toNatClampNeg) (fx_36 : -1 ≤ v_35 ∧ v_35 ≤ 39) : okDeg u_degrees pts := by
  exact hdg
set_option maxHeartbeats 1000000 in
theorem pf_X4_hinders_38 (num : Int32) (pts : Int32) (u_kind : Nat → Int32) (u_size : Nat → Int32) (u_when : Nat → Int32) (u_degrees : Nat → Int32) (a : Int32) (day : Int32) (n_2 : Nat) (k : Int32) (n_62 : Nat) (k2 : Int32) (v_14 : Int32) (r_27 : Int32) (r_31 : Int32) (v_35 : Int32) (hn0 : 0 ≤ num) (hn1 : num ≤ 10) (hp0 : 0 ≤ pts) (hp6 : pts ≤ 6) (hdg : okDeg u_degrees pts) (hwh : okWh u_when) (hz : okSz u_size) (ha0 : 0 ≤ a) (ha1 : a < num) (hda : day ≤ 39) (hn_2 : 10 - k.toNatClampNeg < n_2 + 1) (h0k : 0 ≤ k) (c_1 : num ≤ k) (hn_62 : 10 - k2.toNatClampNeg < n_62 + 1) (h0k2 : 0 ≤ k2) (c_2 : ¬ num ≤ k2) (ev_14 : v_14 = u_kind a.toNatClampNeg) (c_15 : v_14 = 0) (c_29 : ¬ r_27 = 0) (w_32 : r_31 = bSt (u_when k2.toNatClampNeg) day) (c_34 : ¬ r_31 = 0) (ev_35 : v_35 = u_when k2.toNatClampNeg) (fx_36 : -1 ≤ v_35 ∧ v_35 ≤ 39) : 0 ≤ v_35 := by
  grind [bSt]
set_option maxHeartbeats 1000000 in
theorem pf_X4_hinders_39 (num : Int32) (pts : Int32) (u_kind : Nat → Int32) (u_size : Nat → Int32) (u_when : Nat → Int32) (u_degrees : Nat → Int32) (a : Int32) (day : Int32) (n_2 : Nat) (k : Int32) (n_62 : Nat) (k2 : Int32) (v_14 : Int32) (r_27 : Int32) (r_31 : Int32) (v_35 : Int32) (hn0 : 0 ≤ num) (hn1 : num ≤ 10) (hp0 : 0 ≤ pts) (hp6 : pts ≤ 6) (hdg : okDeg u_degrees pts) (hwh : okWh u_when) (hz : okSz u_size) (ha0 : 0 ≤ a) (ha1 : a < num) (hda : day ≤ 39) (hn_2 : 10 - k.toNatClampNeg < n_2 + 1) (h0k : 0 ≤ k) (c_1 : num ≤ k) (hn_62 : 10 - k2.toNatClampNeg < n_62 + 1) (h0k2 : 0 ≤ k2) (c_2 : ¬ num ≤ k2) (ev_14 : v_14 = u_kind a.toNatClampNeg) (c_15 : v_14 = 0) (c_29 : ¬ r_27 = 0) (w_32 : r_31 = bSt (u_when k2.toNatClampNeg) day) (c_34 : ¬ r_31 = 0) (ev_35 : v_35 = u_when k2.toNatClampNeg) (fx_36 : -1 ≤ v_35 ∧ v_35 ≤ 39) : v_35 ≤ 40 := by
  grind [bSt]
set_option maxHeartbeats 1000000 in
theorem pf_X4_hinders_40 (num : Int32) (pts : Int32) (u_kind : Nat → Int32) (u_size : Nat → Int32) (u_when : Nat → Int32) (u_degrees : Nat → Int32) (a : Int32) (day : Int32) (n_2 : Nat) (k : Int32) (n_62 : Nat) (k2 : Int32) (v_14 : Int32) (r_27 : Int32) (r_31 : Int32) (v_35 : Int32) (hn0 : 0 ≤ num) (hn1 : num ≤ 10) (hp0 : 0 ≤ pts) (hp6 : pts ≤ 6) (hdg : okDeg u_degrees pts) (hwh : okWh u_when) (hz : okSz u_size) (ha0 : 0 ≤ a) (ha1 : a < num) (hda : day ≤ 39) (hn_2 : 10 - k.toNatClampNeg < n_2 + 1) (h0k : 0 ≤ k) (c_1 : num ≤ k) (hn_62 : 10 - k2.toNatClampNeg < n_62 + 1) (h0k2 : 0 ≤ k2) (c_2 : ¬ num ≤ k2) (ev_14 : v_14 = u_kind a.toNatClampNeg) (c_15 : v_14 = 0) (c_29 : ¬ r_27 = 0) (w_32 : r_31 = bSt (u_when k2.toNatClampNeg) day) (c_34 : ¬ r_31 = 0) (ev_35 : v_35 = u_when k2.toNatClampNeg) (fx_36 : -1 ≤ v_35 ∧ v_35 ≤ 39) : day ≤ 40 := by
  grind [bSt]
set_option maxHeartbeats 1000000 in
theorem pf_X4_hinders_41 (num : Int32) (pts : Int32) (bw : Int32) (be : Int32) (u_kind : Nat → Int32) (u_size : Nat → Int32) (u_when : Nat → Int32) (u_warmth : Nat → Int32) (u_degrees : Nat → Int32) (u_thousandths : Nat → Int32) (a : Int32) (day : Int32) (n_2 : Nat) (k : Int32) (n_62 : Nat) (k2 : Int32) (v_14 : Int32) (r_27 : Int32) (r_31 : Int32) (v_35 : Int32) (r_37 : Int32) (v_41 : Int32) (hn0 : 0 ≤ num) (hn1 : num ≤ 10) (hp0 : 0 ≤ pts) (hp6 : pts ≤ 6) (hdg : okDeg u_degrees pts) (hwh : okWh u_when) (hz : okSz u_size) (ha0 : 0 ≤ a) (ha1 : a < num) (hda : day ≤ 39) (hn_2 : 10 - k.toNatClampNeg < n_2 + 1) (h0k : 0 ≤ k) (c_1 : num ≤ k) (hn_62 : 10 - k2.toNatClampNeg < n_62 + 1) (h0k2 : 0 ≤ k2) (c_2 : ¬ num ≤ k2) (ev_14 : v_14 = u_kind a.toNatClampNeg) (c_15 : v_14 = 0) (c_29 : ¬ r_27 = 0) (w_32 : r_31 = bSt (u_when k2.toNatClampNeg) day) (c_34 : ¬ r_31 = 0) (ev_35 : v_35 = u_when k2.toNatClampNeg) (fx_36 : -1 ≤ v_35 ∧ v_35 ≤ 39) (w_38 : r_37 = hrd u_warmth bw u_degrees u_thousandths pts v_35 day) (c_40 : be ≤ r_37) (ev_41 : v_41 = k2 + 1) : 10 - v_41.toNatClampNeg < n_62 := by
  exact ms_dec (L := 10) (k := k2) (by grind) (show ¬ (10 : Int32) ≤ k2 by grind) (by omega) (by assumption) hn_62
set_option maxHeartbeats 1000000 in
theorem pf_X4_hinders_42 (num : Int32) (pts : Int32) (bw : Int32) (be : Int32) (u_kind : Nat → Int32) (u_size : Nat → Int32) (u_when : Nat → Int32) (u_warmth : Nat → Int32) (u_degrees : Nat → Int32) (u_thousandths : Nat → Int32) (a : Int32) (day : Int32) (n_2 : Nat) (k : Int32) (n_62 : Nat) (k2 : Int32) (v_14 : Int32) (r_27 : Int32) (r_31 : Int32) (v_35 : Int32) (r_37 : Int32) (v_41 : Int32) (hn0 : 0 ≤ num) (hn1 : num ≤ 10) (hp0 : 0 ≤ pts) (hp6 : pts ≤ 6) (hdg : okDeg u_degrees pts) (hwh : okWh u_when) (hz : okSz u_size) (ha0 : 0 ≤ a) (ha1 : a < num) (hda : day ≤ 39) (hn_2 : 10 - k.toNatClampNeg < n_2 + 1) (h0k : 0 ≤ k) (c_1 : num ≤ k) (hn_62 : 10 - k2.toNatClampNeg < n_62 + 1) (h0k2 : 0 ≤ k2) (c_2 : ¬ num ≤ k2) (ev_14 : v_14 = u_kind a.toNatClampNeg) (c_15 : v_14 = 0) (c_29 : ¬ r_27 = 0) (w_32 : r_31 = bSt (u_when k2.toNatClampNeg) day) (c_34 : ¬ r_31 = 0) (ev_35 : v_35 = u_when k2.toNatClampNeg) (fx_36 : -1 ≤ v_35 ∧ v_35 ≤ 39) (w_38 : r_37 = hrd u_warmth bw u_degrees u_thousandths pts v_35 day) (c_40 : be ≤ r_37) (ev_41 : v_41 = k2 + 1) : 0 ≤ v_41 := by
  grind [bSt]
set_option maxHeartbeats 1000000 in
theorem pf_X4_hinders_43 (num : Int32) (pts : Int32) (u_size : Nat → Int32) (u_when : Nat → Int32) (u_degrees : Nat → Int32) (a : Int32) (day : Int32) (n_2 : Nat) (k : Int32) (hn0 : 0 ≤ num) (hn1 : num ≤ 10) (hp0 : 0 ≤ pts) (hp6 : pts ≤ 6) (hdg : okDeg u_degrees pts) (hwh : okWh u_when) (hz : okSz u_size) (ha0 : 0 ≤ a) (ha1 : a < num) (hda : day ≤ 39) (hn_2 : 10 - k.toNatClampNeg < n_2 + 1) (h0k : 0 ≤ k) (c_1 : num ≤ k) : 0 ≤ (0 : Int32) := by
  grind [bSt]
set_option maxHeartbeats 1000000 in
theorem pf_X4_hinders_44 (num : Int32) (pts : Int32) (u_size : Nat → Int32) (u_when : Nat → Int32) (u_degrees : Nat → Int32) (a : Int32) (day : Int32) (n_2 : Nat) (k : Int32) (v_42 : Int32) (v_43 : Int32) (hn0 : 0 ≤ num) (hn1 : num ≤ 10) (hp0 : 0 ≤ pts) (hp6 : pts ≤ 6) (hdg : okDeg u_degrees pts) (hwh : okWh u_when) (hz : okSz u_size) (ha0 : 0 ≤ a) (ha1 : a < num) (hda : day ≤ 39) (hn_2 : 10 - k.toNatClampNeg < n_2 + 1) (h0k : 0 ≤ k) (c_1 : ¬ num ≤ k) (ev_42 : v_42 = 10 * k) (ev_43 : v_43 = v_42 + a) : vp_in v_43 100 := by
  exact ix_in (a := k) (b := a) (by grind) (by grind) (by grind) (by grind) (by assumption) (by assumption)
set_option maxHeartbeats 1000000 in
theorem pf_X4_hinders_45 (num : Int32) (pts : Int32) (u_size : Nat → Int32) (u_ahead : Nat → Int32) (u_when : Nat → Int32) (u_degrees : Nat → Int32) (a : Int32) (day : Int32) (n_2 : Nat) (k : Int32) (v_42 : Int32) (v_43 : Int32) (v_44 : Int32) (v_46 : Int32) (hn0 : 0 ≤ num) (hn1 : num ≤ 10) (hp0 : 0 ≤ pts) (hp6 : pts ≤ 6) (hdg : okDeg u_degrees pts) (hwh : okWh u_when) (hz : okSz u_size) (ha0 : 0 ≤ a) (ha1 : a < num) (hda : day ≤ 39) (hn_2 : 10 - k.toNatClampNeg < n_2 + 1) (h0k : 0 ≤ k) (c_1 : ¬ num ≤ k) (ev_42 : v_42 = 10 * k) (ev_43 : v_43 = v_42 + a) (ev_44 : v_44 = u_ahead v_43.toNatClampNeg) (c_45 : v_44 = (-1)) (ev_46 : v_46 = k + 1) : 10 - v_46.toNatClampNeg < n_2 := by
  exact ms_dec (L := 10) (k := k) (by grind) (show ¬ (10 : Int32) ≤ k by grind) (by omega) (by assumption) hn_2
set_option maxHeartbeats 1000000 in
theorem pf_X4_hinders_46 (num : Int32) (pts : Int32) (u_size : Nat → Int32) (u_ahead : Nat → Int32) (u_when : Nat → Int32) (u_degrees : Nat → Int32) (a : Int32) (day : Int32) (n_2 : Nat) (k : Int32) (v_42 : Int32) (v_43 : Int32) (v_44 : Int32) (v_46 : Int32) (hn0 : 0 ≤ num) (hn1 : num ≤ 10) (hp0 : 0 ≤ pts) (hp6 : pts ≤ 6) (hdg : okDeg u_degrees pts) (hwh : okWh u_when) (hz : okSz u_size) (ha0 : 0 ≤ a) (ha1 : a < num) (hda : day ≤ 39) (hn_2 : 10 - k.toNatClampNeg < n_2 + 1) (h0k : 0 ≤ k) (c_1 : ¬ num ≤ k) (ev_42 : v_42 = 10 * k) (ev_43 : v_43 = v_42 + a) (ev_44 : v_44 = u_ahead v_43.toNatClampNeg) (c_45 : v_44 = (-1)) (ev_46 : v_46 = k + 1) : 0 ≤ v_46 := by
  grind [bSt]
set_option maxHeartbeats 1000000 in
theorem pf_X4_hinders_47 (num : Int32) (pts : Int32) (u_size : Nat → Int32) (u_ahead : Nat → Int32) (u_when : Nat → Int32) (u_degrees : Nat → Int32) (a : Int32) (day : Int32) (n_2 : Nat) (k : Int32) (v_42 : Int32) (v_43 : Int32) (v_44 : Int32) (hn0 : 0 ≤ num) (hn1 : num ≤ 10) (hp0 : 0 ≤ pts) (hp6 : pts ≤ 6) (hdg : okDeg u_degrees pts) (hwh : okWh u_when) (hz : okSz u_size) (ha0 : 0 ≤ a) (ha1 : a < num) (hda : day ≤ 39) (hn_2 : 10 - k.toNatClampNeg < n_2 + 1) (h0k : 0 ≤ k) (c_1 : ¬ num ≤ k) (ev_42 : v_42 = 10 * k) (ev_43 : v_43 = v_42 + a) (ev_44 : v_44 = u_ahead v_43.toNatClampNeg) (c_45 : ¬ v_44 = (-1)) : vp_in k 10 := by
  exact vi_in (M := 10) rfl (by grind [bSt]) (by grind [bSt])
set_option maxHeartbeats 1000000 in
theorem pf_X4_hinders_48 (num : Int32) (pts : Int32) (u_size : Nat → Int32) (u_ahead : Nat → Int32) (u_when : Nat → Int32) (u_degrees : Nat → Int32) (a : Int32) (day : Int32) (n_2 : Nat) (k : Int32) (v_42 : Int32) (v_43 : Int32) (v_44 : Int32) (v_47 : Int32) (hn0 : 0 ≤ num) (hn1 : num ≤ 10) (hp0 : 0 ≤ pts) (hp6 : pts ≤ 6) (hdg : okDeg u_degrees pts) (hwh : okWh u_when) (hz : okSz u_size) (ha0 : 0 ≤ a) (ha1 : a < num) (hda : day ≤ 39) (hn_2 : 10 - k.toNatClampNeg < n_2 + 1) (h0k : 0 ≤ k) (c_1 : ¬ num ≤ k) (ev_42 : v_42 = 10 * k) (ev_43 : v_43 = v_42 + a) (ev_44 : v_44 = u_ahead v_43.toNatClampNeg) (c_45 : ¬ v_44 = (-1)) (ev_47 : v_47 = u_when k.toNatClampNeg) (c_48 : ¬ v_47 = (-1)) : vp_in k 10 := by
  exact vi_in (M := 10) rfl (by grind [bSt]) (by grind [bSt])
set_option maxHeartbeats 1000000 in
theorem pf_X4_hinders_49 (num : Int32) (pts : Int32) (u_size : Nat → Int32) (u_ahead : Nat → Int32) (u_when : Nat → Int32) (u_degrees : Nat → Int32) (a : Int32) (day : Int32) (n_2 : Nat) (k : Int32) (v_42 : Int32) (v_43 : Int32) (v_44 : Int32) (v_47 : Int32) (v_49 : Int32) (v_50 : Int32) (v_52 : Int32) (hn0 : 0 ≤ num) (hn1 : num ≤ 10) (hp0 : 0 ≤ pts) (hp6 : pts ≤ 6) (hdg : okDeg u_degrees pts) (hwh : okWh u_when) (hz : okSz u_size) (ha0 : 0 ≤ a) (ha1 : a < num) (hda : day ≤ 39) (hn_2 : 10 - k.toNatClampNeg < n_2 + 1) (h0k : 0 ≤ k) (c_1 : ¬ num ≤ k) (ev_42 : v_42 = 10 * k) (ev_43 : v_43 = v_42 + a) (ev_44 : v_44 = u_ahead v_43.toNatClampNeg) (c_45 : ¬ v_44 = (-1)) (ev_47 : v_47 = u_when k.toNatClampNeg) (c_48 : ¬ v_47 = (-1)) (ev_49 : v_49 = u_when k.toNatClampNeg) (ev_50 : v_50 = v_49 + v_44) (c_51 : v_50 ≤ day) (ev_52 : v_52 = k + 1) : 10 - v_52.toNatClampNeg < n_2 := by
  exact ms_dec (L := 10) (k := k) (by grind) (show ¬ (10 : Int32) ≤ k by grind) (by omega) (by assumption) hn_2
set_option maxHeartbeats 1000000 in
theorem pf_X4_hinders_50 (num : Int32) (pts : Int32) (u_size : Nat → Int32) (u_ahead : Nat → Int32) (u_when : Nat → Int32) (u_degrees : Nat → Int32) (a : Int32) (day : Int32) (n_2 : Nat) (k : Int32) (v_42 : Int32) (v_43 : Int32) (v_44 : Int32) (v_47 : Int32) (v_49 : Int32) (v_50 : Int32) (v_52 : Int32) (hn0 : 0 ≤ num) (hn1 : num ≤ 10) (hp0 : 0 ≤ pts) (hp6 : pts ≤ 6) (hdg : okDeg u_degrees pts) (hwh : okWh u_when) (hz : okSz u_size) (ha0 : 0 ≤ a) (ha1 : a < num) (hda : day ≤ 39) (hn_2 : 10 - k.toNatClampNeg < n_2 + 1) (h0k : 0 ≤ k) (c_1 : ¬ num ≤ k) (ev_42 : v_42 = 10 * k) (ev_43 : v_43 = v_42 + a) (ev_44 : v_44 = u_ahead v_43.toNatClampNeg) (c_45 : ¬ v_44 = (-1)) (ev_47 : v_47 = u_when k.toNatClampNeg) (c_48 : ¬ v_47 = (-1)) (ev_49 : v_49 = u_when k.toNatClampNeg) (ev_50 : v_50 = v_49 + v_44) (c_51 : v_50 ≤ day) (ev_52 : v_52 = k + 1) : 0 ≤ v_52 := by
  grind [bSt]
set_option maxHeartbeats 1000000 in
theorem pf_X4_hinders_51 (num : Int32) (pts : Int32) (u_size : Nat → Int32) (u_when : Nat → Int32) (u_degrees : Nat → Int32) (a : Int32) (day : Int32) (hn0 : 0 ≤ num) (hn1 : num ≤ 10) (hp0 : 0 ≤ pts) (hp6 : pts ≤ 6) (hdg : okDeg u_degrees pts) (hwh : okWh u_when) (hz : okSz u_size) (ha0 : 0 ≤ a) (ha1 : a < num) (hda : day ≤ 39) : 0 ≤ (0 : Int32) := by
  grind [bSt]
set_option maxHeartbeats 4000000 in
set_option maxRecDepth 100000 in
theorem c_X4_hinders (l : Launch) (D : va_G) (cI cQ : ClassId) (sz : Nat) (y0 : Nat) (m_kind : Nat) (m_floor : Nat) (m_volume : Nat) (m_size : Nat) (m_faces : Nat) (m_ahead : Nat) (m_forms : Nat) (m_when : Nat) (m_warmth : Nat) (m_degrees : Nat) (m_thousandths : Nat) (m_order : Nat) (m_tried : Nat) (m_chosen : Nat) (m_longest : Nat) (num : Int32) (pts : Int32) (nw : Int32) (en : Int32) (gl : Int32) (bw : Int32) (sp : Int32) (be : Int32) (ab : Int64) (bl : Int64) (u_kind : Nat → Int32) (u_floor : Nat → Int32) (u_volume : Nat → Int32) (u_size : Nat → Int32) (u_faces : Nat → Int32) (u_ahead : Nat → Int32) (u_forms : Nat → Int32) (u_when : Nat → Int32) (u_warmth : Nat → Int32) (u_degrees : Nat → Int32) (u_thousandths : Nat → Int32) (a : Int32) (day : Int32) (hn0 : 0 ≤ num) (hn1 : num ≤ 10) (hp0 : 0 ≤ pts) (hp6 : pts ≤ 6) (hdg : okDeg u_degrees pts) (hwh : okWh u_when) (hz : okSz u_size) (ha0 : 0 ≤ a) (ha1 : a < num) (hda : day ≤ 39) : CtI l yX4_hinders wsX4_hinders 5 117 0 0 [.ref y0, .int a, .int day] D [(cI, .int), (cQ, .array .int)] [(y0, .inr (4, [.int num, .int pts, .int nw, .int en, .int gl, .int bw, .int sp, .int be, .ref m_kind, .ref m_floor, .ref m_volume, .ref m_size, .ref m_faces, .ref m_when, .ref m_ahead, .ref m_order, .ref m_tried, .ref m_chosen, .ref m_forms, .ref m_warmth, .ref m_degrees, .ref m_thousandths, .ref m_longest, .long ab, .long bl])), (m_kind, .inl (cI, 10, .inl u_kind)), (m_floor, .inl (cI, 10, .inl u_floor)), (m_volume, .inl (cI, 10, .inl u_volume)), (m_size, .inl (cI, 10, .inl u_size)), (m_faces, .inl (cI, 10, .inl u_faces)), (m_ahead, .inl (cI, 100, .inl u_ahead)), (m_forms, .inl (cI, 3, .inl u_forms)), (m_when, .inl (cI, 10, .inl u_when)), (m_warmth, .inl (cI, 40, .inl u_warmth)), (m_degrees, .inl (cI, 6, .inl u_degrees)), (m_thousandths, .inl (cI, 6, .inl u_thousandths))] sz (fun (r : Int32) (u : Unit) => True) (fun (u : Unit) => [(y0, .inr (4, [.int num, .int pts, .int nw, .int en, .int gl, .int bw, .int sp, .int be, .ref m_kind, .ref m_floor, .ref m_volume, .ref m_size, .ref m_faces, .ref m_when, .ref m_ahead, .ref m_order, .ref m_tried, .ref m_chosen, .ref m_forms, .ref m_warmth, .ref m_degrees, .ref m_thousandths, .ref m_longest, .long ab, .long bl])), (m_kind, .inl (cI, 10, .inl u_kind)), (m_floor, .inl (cI, 10, .inl u_floor)), (m_volume, .inl (cI, 10, .inl u_volume)), (m_size, .inl (cI, 10, .inl u_size)), (m_faces, .inl (cI, 10, .inl u_faces)), (m_ahead, .inl (cI, 100, .inl u_ahead)), (m_forms, .inl (cI, 3, .inl u_forms)), (m_when, .inl (cI, 10, .inl u_when)), (m_warmth, .inl (cI, 40, .inl u_warmth)), (m_degrees, .inl (cI, 6, .inl u_degrees)), (m_thousandths, .inl (cI, 6, .inl u_thousandths))]) := by
  refine Met.ofW (cc := cX4_hinders) (maxL := 5) (ret := (some .int)) (by decide) rfl ?_
  intro p e s m args below meth c s₁ B hml hv
  obtain ⟨rfl, hsz, hP, hK, hD0, hN⟩ := hv
  have hx := B.exec
  have hb := B.bytes
  have hr := B.returns
  have hts := atoms_spec (ws := wsX4_hinders) B.pre
  have hown : s.vm.findClass RX4 = some m.cls := findClass_of_methodNamed B.named
  have hlocks := B.notSynchronized
  subst hsz
  have hD := hD0.self (sz := s.heap.size)
  generalize hAe : va_A [(y0, .inr (4, [.int num, .int pts, .int nw, .int en, .int gl, .int bw, .int sp, .int be, .ref m_kind, .ref m_floor, .ref m_volume, .ref m_size, .ref m_faces, .ref m_when, .ref m_ahead, .ref m_order, .ref m_tried, .ref m_chosen, .ref m_forms, .ref m_warmth, .ref m_degrees, .ref m_thousandths, .ref m_longest, .long ab, .long bl])), (m_kind, .inl (cI, 10, .inl u_kind)), (m_floor, .inl (cI, 10, .inl u_floor)), (m_volume, .inl (cI, 10, .inl u_volume)), (m_size, .inl (cI, 10, .inl u_size)), (m_faces, .inl (cI, 10, .inl u_faces)), (m_ahead, .inl (cI, 100, .inl u_ahead)), (m_forms, .inl (cI, 3, .inl u_forms)), (m_when, .inl (cI, 10, .inl u_when)), (m_warmth, .inl (cI, 40, .inl u_warmth)), (m_degrees, .inl (cI, 6, .inl u_degrees)), (m_thousandths, .inl (cI, 6, .inl u_thousandths))] s.heap.size = A at hD ⊢
  have hA : ∀ q : Nat, s.heap.size ≤ q → A q := fun q h => by rw [← hAe]; exact Or.inr h
  have hS : va_S A s.heap s.heap [] := va_S.rf
  have hl := lv_entry ([.ref y0, .int a, .int day]) (n := 5) (Nat.le_of_ble_eq_true rfl)
  rw [lg_entry_eq]
  generalize (lg_sl ([.ref y0, .int a, .int day]) ++ List.replicate (5 - (lg_sl ([.ref y0, .int a, .int day])).length) Slot.unset).toArray = ls at hl ⊢
  have hl : lv_has ls 5 [(0, .ref y0), (1, .int a), (2, .int day)] := hl
  refine W_gen (fun GW hIn hOut => ?_)
  refine hIn _ _ _ _ _ ?_
  have hP0 := hP
  refine lv_iconst (v := 0) hx hb dX4_hinders_0 (by decide) ?_
  refine lv_istore_n (lv' := [(3, .int 0), (0, .ref y0), (1, .int a), (2, .int day)]) hx hb dX4_hinders_1 rfl hl (by decide) rfl (fun ls hl => ?_)
  have lp_2 : ∀ (n : Nat) (k : Int32) (H : Heap) (locs : List Loc) (ls : Array Slot), 10 - k.toNatClampNeg < n → (0 ≤ k) → va_P D vwCl [(y0, .inr (4, [.int num, .int pts, .int nw, .int en, .int gl, .int bw, .int sp, .int be, .ref m_kind, .ref m_floor, .ref m_volume, .ref m_size, .ref m_faces, .ref m_when, .ref m_ahead, .ref m_order, .ref m_tried, .ref m_chosen, .ref m_forms, .ref m_warmth, .ref m_degrees, .ref m_thousandths, .ref m_longest, .long ab, .long bl])), (m_kind, .inl (cI, 10, .inl u_kind)), (m_floor, .inl (cI, 10, .inl u_floor)), (m_volume, .inl (cI, 10, .inl u_volume)), (m_size, .inl (cI, 10, .inl u_size)), (m_faces, .inl (cI, 10, .inl u_faces)), (m_ahead, .inl (cI, 100, .inl u_ahead)), (m_forms, .inl (cI, 3, .inl u_forms)), (m_when, .inl (cI, 10, .inl u_when)), (m_warmth, .inl (cI, 40, .inl u_warmth)), (m_degrees, .inl (cI, 6, .inl u_degrees)), (m_thousandths, .inl (cI, 6, .inl u_thousandths))] H → va_D A [(y0, .inr (4, [.int num, .int pts, .int nw, .int en, .int gl, .int bw, .int sp, .int be, .ref m_kind, .ref m_floor, .ref m_volume, .ref m_size, .ref m_faces, .ref m_when, .ref m_ahead, .ref m_order, .ref m_tried, .ref m_chosen, .ref m_forms, .ref m_warmth, .ref m_degrees, .ref m_thousandths, .ref m_longest, .long ab, .long bl])), (m_kind, .inl (cI, 10, .inl u_kind)), (m_floor, .inl (cI, 10, .inl u_floor)), (m_volume, .inl (cI, 10, .inl u_volume)), (m_size, .inl (cI, 10, .inl u_size)), (m_faces, .inl (cI, 10, .inl u_faces)), (m_ahead, .inl (cI, 100, .inl u_ahead)), (m_forms, .inl (cI, 3, .inl u_forms)), (m_when, .inl (cI, 10, .inl u_when)), (m_warmth, .inl (cI, 40, .inl u_warmth)), (m_degrees, .inl (cI, 6, .inl u_degrees)), (m_thousandths, .inl (cI, 6, .inl u_thousandths))] → va_S A s.heap H locs → lv_has ls 5 [(0, .ref y0), (1, .int a), (2, .int day), (3, .int k)] → GW H locs 0 0 (F0 m 2 ls []) := by
    intro n_2
    induction n_2 with
    | zero => intro k H locs ls hn_2; exact absurd hn_2 (Nat.not_lt_zero _)
    | succ n_2 ih_2 =>
      intro k H locs ls hn_2 h0k hP hD hS hl
      refine hIn _ _ _ _ _ ?_
      refine lv_iload_n hx hb dX4_hinders_2 rfl (lv_at hl 3 rfl) ?_
      refine lv_aload_n hx hb dX4_hinders_3 rfl (lv_at hl 0 rfl) ?_
      refine va_get (D := D) (ci := 4) (v := .int num) (C := RX4) (T := TX4) (N := 25) hx hb hts iw_X4_hinders_4 hown hK hP 0 rfl rfl 0 (by decide) (hts _ wd_X4_hinders_1) (fun _ h9 => h9) rfl dX4_hinders_4 ?_
      refine lv_icmp_ge (tgt := 60) hx hb dX4_hinders_7 (by decide) (fun c_1 => ?_) (fun c_1 => ?_)
      · refine lv_iconst (v := 0) hx hb dX4_hinders_60 (by decide) ?_
        refine lv_istore_n (lv' := [(3, .int 0), (0, .ref y0), (1, .int a), (2, .int day)]) hx hb dX4_hinders_61 rfl hl (by decide) rfl (fun ls hl => ?_)
        have lp_62 : ∀ (n : Nat) (k2 : Int32) (H : Heap) (locs : List Loc) (ls : Array Slot), 10 - k2.toNatClampNeg < n → (0 ≤ k2) → va_P D vwCl [(y0, .inr (4, [.int num, .int pts, .int nw, .int en, .int gl, .int bw, .int sp, .int be, .ref m_kind, .ref m_floor, .ref m_volume, .ref m_size, .ref m_faces, .ref m_when, .ref m_ahead, .ref m_order, .ref m_tried, .ref m_chosen, .ref m_forms, .ref m_warmth, .ref m_degrees, .ref m_thousandths, .ref m_longest, .long ab, .long bl])), (m_kind, .inl (cI, 10, .inl u_kind)), (m_floor, .inl (cI, 10, .inl u_floor)), (m_volume, .inl (cI, 10, .inl u_volume)), (m_size, .inl (cI, 10, .inl u_size)), (m_faces, .inl (cI, 10, .inl u_faces)), (m_ahead, .inl (cI, 100, .inl u_ahead)), (m_forms, .inl (cI, 3, .inl u_forms)), (m_when, .inl (cI, 10, .inl u_when)), (m_warmth, .inl (cI, 40, .inl u_warmth)), (m_degrees, .inl (cI, 6, .inl u_degrees)), (m_thousandths, .inl (cI, 6, .inl u_thousandths))] H → va_D A [(y0, .inr (4, [.int num, .int pts, .int nw, .int en, .int gl, .int bw, .int sp, .int be, .ref m_kind, .ref m_floor, .ref m_volume, .ref m_size, .ref m_faces, .ref m_when, .ref m_ahead, .ref m_order, .ref m_tried, .ref m_chosen, .ref m_forms, .ref m_warmth, .ref m_degrees, .ref m_thousandths, .ref m_longest, .long ab, .long bl])), (m_kind, .inl (cI, 10, .inl u_kind)), (m_floor, .inl (cI, 10, .inl u_floor)), (m_volume, .inl (cI, 10, .inl u_volume)), (m_size, .inl (cI, 10, .inl u_size)), (m_faces, .inl (cI, 10, .inl u_faces)), (m_ahead, .inl (cI, 100, .inl u_ahead)), (m_forms, .inl (cI, 3, .inl u_forms)), (m_when, .inl (cI, 10, .inl u_when)), (m_warmth, .inl (cI, 40, .inl u_warmth)), (m_degrees, .inl (cI, 6, .inl u_degrees)), (m_thousandths, .inl (cI, 6, .inl u_thousandths))] → va_S A s.heap H locs → lv_has ls 5 [(0, .ref y0), (1, .int a), (2, .int day), (3, .int k2)] → GW H locs 0 0 (F0 m 62 ls []) := by
          intro n_62
          induction n_62 with
          | zero => intro k2 H locs ls hn_62; exact absurd hn_62 (Nat.not_lt_zero _)
          | succ n_62 ih_62 =>
            intro k2 H locs ls hn_62 h0k2 hP hD hS hl
            refine hIn _ _ _ _ _ ?_
            refine lv_iload_n hx hb dX4_hinders_62 rfl (lv_at hl 3 rfl) ?_
            refine lv_aload_n hx hb dX4_hinders_63 rfl (lv_at hl 0 rfl) ?_
            refine va_get (D := D) (ci := 4) (v := .int num) (C := RX4) (T := TX4) (N := 25) hx hb hts iw_X4_hinders_4 hown hK hP 0 rfl rfl 0 (by decide) (hts _ wd_X4_hinders_1) (fun _ h9 => h9) rfl dX4_hinders_64 ?_
            refine lv_icmp_ge (tgt := 123) hx hb dX4_hinders_67 (by decide) (fun c_2 => ?_) (fun c_2 => ?_)
            · refine lv_aload_n hx hb dX4_hinders_123 rfl (lv_at hl 0 rfl) ?_
              refine lv_aload_n hx hb dX4_hinders_124 rfl (lv_at hl 0 rfl) ?_
              refine va_get (D := D) (ci := 4) (v := .ref m_size) (C := RX4) (T := TX4) (N := 25) hx hb hts iw_X4_hinders_4 hown hK hP 0 rfl rfl 11 (by decide) (hts _ wd_X4_hinders_6) (fun _ h9 => h9) rfl dX4_hinders_125 ?_
              refine lv_iload_n hx hb dX4_hinders_128 rfl (lv_at hl 1 rfl) ?_
              refine va_iald hx hb hK hP 4 0 rfl rfl (pf_X4_hinders_1 num pts u_size u_when u_degrees a day n_2 k n_62 k2 hn0 hn1 hp0 hp6 hdg hwh hz ha0 ha1 hda hn_2 h0k c_1 hn_62 h0k2 c_2) dX4_hinders_129 ?_
              refine lv_topi (fun v_3 ev_3 => ?_)
              have fx_4 : vp_in v_3 3 := (pf_X4_hinders_2 num pts u_size u_when u_degrees a day n_2 k n_62 k2 v_3 hn0 hn1 hp0 hp6 hdg hwh hz ha0 ha1 hda hn_2 h0k c_1 hn_62 h0k2 c_2 ev_3)
              refine lv_iload_n hx hb dX4_hinders_130 rfl (lv_at hl 2 rfl) ?_
              refine lv_iload_n hx hb dX4_hinders_131 rfl (lv_at hl 1 rfl) ?_
              refine cc_i (wc := [(y0, .inr (4, [.int num, .int pts, .int nw, .int en, .int gl, .int bw, .int sp, .int be, .ref m_kind, .ref m_floor, .ref m_volume, .ref m_size, .ref m_faces, .ref m_when, .ref m_ahead, .ref m_order, .ref m_tried, .ref m_chosen, .ref m_forms, .ref m_warmth, .ref m_degrees, .ref m_thousandths, .ref m_longest, .long ab, .long bl])), (m_forms, .inl (cI, 3, .inl u_forms)), (m_size, .inl (cI, 10, .inl u_size)), (m_faces, .inl (cI, 10, .inl u_faces)), (m_when, .inl (cI, 10, .inl u_when)), (m_warmth, .inl (cI, 40, .inl u_warmth)), (m_degrees, .inl (cI, 6, .inl u_degrees)), (m_thousandths, .inl (cI, 6, .inl u_thousandths))]) (wr := [(m_kind, .inl (cI, 10, .inl u_kind)), (m_floor, .inl (cI, 10, .inl u_floor)), (m_volume, .inl (cI, 10, .inl u_volume)), (m_ahead, .inl (cI, 100, .inl u_ahead))]) (va_runV (As := [.int v_3, .int day, .int a]) (rest := []) ⟨hx, hb, hml, hown, hts⟩ (c_X4_freeOf l D cI cQ H.size y0 m_forms m_size m_faces m_when m_warmth m_degrees m_thousandths m_kind m_floor m_volume m_ahead m_order m_tried m_chosen m_longest num pts nw en gl bw sp be ab bl u_forms u_size u_faces u_when u_warmth u_degrees u_thousandths v_3 day a (pf_X4_hinders_3 num pts u_size u_when u_degrees a day n_2 k n_62 k2 v_3 hn0 hn1 hp0 hp6 hdg hwh hz ha0 ha1 hda hn_2 h0k c_1 hn_62 h0k2 c_2 ev_3 fx_4) (pf_X4_hinders_4 num pts u_size u_when u_degrees a day n_2 k n_62 k2 v_3 hn0 hn1 hp0 hp6 hdg hwh hz ha0 ha1 hda hn_2 h0k c_1 hn_62 h0k2 c_2 ev_3 fx_4) (pf_X4_hinders_5 num pts u_size u_when u_degrees a day n_2 k n_62 k2 v_3 hn0 hn1 hp0 hp6 hdg hwh hz ha0 ha1 hda hn_2 h0k c_1 hn_62 h0k2 c_2 ev_3 fx_4) (pf_X4_hinders_6 num pts u_size u_when u_degrees a day n_2 k n_62 k2 v_3 hn0 hn1 hp0 hp6 hdg hwh hz ha0 ha1 hda hn_2 h0k c_1 hn_62 h0k2 c_2 ev_3 fx_4) (pf_X4_hinders_7 num pts u_size u_when u_degrees a day n_2 k n_62 k2 v_3 hn0 hn1 hp0 hp6 hdg hwh hz ha0 ha1 hda hn_2 h0k c_1 hn_62 h0k2 c_2 ev_3 fx_4) (pf_X4_hinders_8 num pts u_size u_when u_degrees a day n_2 k n_62 k2 v_3 hn0 hn1 hp0 hp6 hdg hwh hz ha0 ha1 hda hn_2 h0k c_1 hn_62 h0k2 c_2 ev_3 fx_4) (pf_X4_hinders_9 num pts u_size u_when u_degrees a day n_2 k n_62 k2 v_3 hn0 hn1 hp0 hp6 hdg hwh hz ha0 ha1 hda hn_2 h0k c_1 hn_62 h0k2 c_2 ev_3 fx_4)) (cwV 3 hts gX4_hinders_X4_freeOf rfl rfl rfl (by decide +kernel) ⟨Nat.le_of_ble_eq_true rfl, Nat.le_of_ble_eq_true rfl⟩) (preV (wc := [(y0, .inr (4, [.int num, .int pts, .int nw, .int en, .int gl, .int bw, .int sp, .int be, .ref m_kind, .ref m_floor, .ref m_volume, .ref m_size, .ref m_faces, .ref m_when, .ref m_ahead, .ref m_order, .ref m_tried, .ref m_chosen, .ref m_forms, .ref m_warmth, .ref m_degrees, .ref m_thousandths, .ref m_longest, .long ab, .long bl])), (m_forms, .inl (cI, 3, .inl u_forms)), (m_size, .inl (cI, 10, .inl u_size)), (m_faces, .inl (cI, 10, .inl u_faces)), (m_when, .inl (cI, 10, .inl u_when)), (m_warmth, .inl (cI, 40, .inl u_warmth)), (m_degrees, .inl (cI, 6, .inl u_degrees)), (m_thousandths, .inl (cI, 6, .inl u_thousandths))]) (ci := 4) (q0 := 0) hK hP hD hN [0, 7, 4, 5, 8, 9, 10, 11] rfl (by decide) rfl rfl) rfl rfl hl.1 rfl (lv_room (Nat.le_of_ble_eq_true rfl)) dX4_hinders_132 ⟨Nat.le_of_ble_eq_true rfl, Nat.le_of_ble_eq_true rfl⟩) hP hD hS hA [0, 7, 4, 5, 8, 9, 10, 11] [1, 2, 3, 6] rfl rfl (by decide) (by decide) (fun r_5 u H locs w_6 hP hD hS => ?_)
              have hP : va_P D vwCl [(m_kind, .inl (cI, 10, .inl u_kind)), (m_floor, .inl (cI, 10, .inl u_floor)), (m_volume, .inl (cI, 10, .inl u_volume)), (m_ahead, .inl (cI, 100, .inl u_ahead)), (y0, .inr (4, [.int num, .int pts, .int nw, .int en, .int gl, .int bw, .int sp, .int be, .ref m_kind, .ref m_floor, .ref m_volume, .ref m_size, .ref m_faces, .ref m_when, .ref m_ahead, .ref m_order, .ref m_tried, .ref m_chosen, .ref m_forms, .ref m_warmth, .ref m_degrees, .ref m_thousandths, .ref m_longest, .long ab, .long bl])), (m_forms, .inl (cI, 3, .inl u_forms)), (m_size, .inl (cI, 10, .inl u_size)), (m_faces, .inl (cI, 10, .inl u_faces)), (m_when, .inl (cI, 10, .inl u_when)), (m_warmth, .inl (cI, 40, .inl u_warmth)), (m_degrees, .inl (cI, 6, .inl u_degrees)), (m_thousandths, .inl (cI, 6, .inl u_thousandths))] H := hP
              have hD : va_D A [(m_kind, .inl (cI, 10, .inl u_kind)), (m_floor, .inl (cI, 10, .inl u_floor)), (m_volume, .inl (cI, 10, .inl u_volume)), (m_ahead, .inl (cI, 100, .inl u_ahead)), (y0, .inr (4, [.int num, .int pts, .int nw, .int en, .int gl, .int bw, .int sp, .int be, .ref m_kind, .ref m_floor, .ref m_volume, .ref m_size, .ref m_faces, .ref m_when, .ref m_ahead, .ref m_order, .ref m_tried, .ref m_chosen, .ref m_forms, .ref m_warmth, .ref m_degrees, .ref m_thousandths, .ref m_longest, .long ab, .long bl])), (m_forms, .inl (cI, 3, .inl u_forms)), (m_size, .inl (cI, 10, .inl u_size)), (m_faces, .inl (cI, 10, .inl u_faces)), (m_when, .inl (cI, 10, .inl u_when)), (m_warmth, .inl (cI, 40, .inl u_warmth)), (m_degrees, .inl (cI, 6, .inl u_degrees)), (m_thousandths, .inl (cI, 6, .inl u_thousandths))] := hD
              refine lv_aload_n hx hb dX4_hinders_135 rfl (lv_at hl 0 rfl) ?_
              refine va_get (D := D) (ci := 4) (v := .ref m_faces) (C := RX4) (T := TX4) (N := 25) hx hb hts iw_X4_hinders_4 hown hK hP 4 rfl rfl 12 (by decide) (hts _ wd_X4_hinders_7) (fun _ h9 => h9) rfl dX4_hinders_136 ?_
              refine lv_iload_n hx hb dX4_hinders_139 rfl (lv_at hl 1 rfl) ?_
              refine va_iald hx hb hK hP 7 0 rfl rfl (pf_X4_hinders_10 num pts u_size u_when u_degrees a day n_2 k n_62 k2 v_3 hn0 hn1 hp0 hp6 hdg hwh hz ha0 ha1 hda hn_2 h0k c_1 hn_62 h0k2 c_2 ev_3 fx_4) dX4_hinders_140 ?_
              refine lv_topi (fun v_7 ev_7 => ?_)
              refine lv_icmp_ge (tgt := 146) hx hb dX4_hinders_141 (by decide) (fun c_8 => ?_) (fun c_8 => ?_)
              · refine lv_aload_n hx hb dX4_hinders_146 rfl (lv_at hl 0 rfl) ?_
                refine lv_iload_n hx hb dX4_hinders_147 rfl (lv_at hl 2 rfl) ?_
                refine lv_iload_n hx hb dX4_hinders_148 rfl (lv_at hl 1 rfl) ?_
                refine cc_i (wc := [(y0, .inr (4, [.int num, .int pts, .int nw, .int en, .int gl, .int bw, .int sp, .int be, .ref m_kind, .ref m_floor, .ref m_volume, .ref m_size, .ref m_faces, .ref m_when, .ref m_ahead, .ref m_order, .ref m_tried, .ref m_chosen, .ref m_forms, .ref m_warmth, .ref m_degrees, .ref m_thousandths, .ref m_longest, .long ab, .long bl])), (m_volume, .inl (cI, 10, .inl u_volume)), (m_when, .inl (cI, 10, .inl u_when))]) (wr := [(m_kind, .inl (cI, 10, .inl u_kind)), (m_floor, .inl (cI, 10, .inl u_floor)), (m_ahead, .inl (cI, 100, .inl u_ahead)), (m_forms, .inl (cI, 3, .inl u_forms)), (m_size, .inl (cI, 10, .inl u_size)), (m_faces, .inl (cI, 10, .inl u_faces)), (m_warmth, .inl (cI, 40, .inl u_warmth)), (m_degrees, .inl (cI, 6, .inl u_degrees)), (m_thousandths, .inl (cI, 6, .inl u_thousandths))]) (va_runV (As := [.int day, .int a]) (rest := []) ⟨hx, hb, hml, hown, hts⟩ (c_X4_volumes l D cI cQ H.size y0 m_volume m_when m_kind m_floor m_size m_faces m_ahead m_order m_tried m_chosen m_forms m_warmth m_degrees m_thousandths m_longest num pts nw en gl bw sp be ab bl u_volume u_when day a (pf_X4_hinders_11 num pts u_size u_faces u_when u_degrees a day n_2 k n_62 k2 v_3 r_5 v_7 hn0 hn1 hp0 hp6 hdg hwh hz ha0 ha1 hda hn_2 h0k c_1 hn_62 h0k2 c_2 ev_3 fx_4 ev_7 c_8) (pf_X4_hinders_12 num pts u_size u_faces u_when u_degrees a day n_2 k n_62 k2 v_3 r_5 v_7 hn0 hn1 hp0 hp6 hdg hwh hz ha0 ha1 hda hn_2 h0k c_1 hn_62 h0k2 c_2 ev_3 fx_4 ev_7 c_8)) (cwV 2 hts gX4_hinders_X4_volumes rfl rfl rfl (by decide +kernel) ⟨Nat.le_of_ble_eq_true rfl, Nat.le_of_ble_eq_true rfl⟩) (preV (wc := [(y0, .inr (4, [.int num, .int pts, .int nw, .int en, .int gl, .int bw, .int sp, .int be, .ref m_kind, .ref m_floor, .ref m_volume, .ref m_size, .ref m_faces, .ref m_when, .ref m_ahead, .ref m_order, .ref m_tried, .ref m_chosen, .ref m_forms, .ref m_warmth, .ref m_degrees, .ref m_thousandths, .ref m_longest, .long ab, .long bl])), (m_volume, .inl (cI, 10, .inl u_volume)), (m_when, .inl (cI, 10, .inl u_when))]) (ci := 4) (q0 := 4) hK hP hD hN [4, 2, 8] rfl (by decide) rfl rfl) rfl rfl hl.1 rfl (lv_room (Nat.le_of_ble_eq_true rfl)) dX4_hinders_149 ⟨Nat.le_of_ble_eq_true rfl, Nat.le_of_ble_eq_true rfl⟩) hP hD hS hA [4, 2, 8] [0, 1, 3, 5, 6, 7, 9, 10, 11] rfl rfl (by decide) (by decide) (fun r_9 u H locs w_10 hP hD hS => ?_)
                have hP : va_P D vwCl [(m_kind, .inl (cI, 10, .inl u_kind)), (m_floor, .inl (cI, 10, .inl u_floor)), (m_ahead, .inl (cI, 100, .inl u_ahead)), (m_forms, .inl (cI, 3, .inl u_forms)), (m_size, .inl (cI, 10, .inl u_size)), (m_faces, .inl (cI, 10, .inl u_faces)), (m_warmth, .inl (cI, 40, .inl u_warmth)), (m_degrees, .inl (cI, 6, .inl u_degrees)), (m_thousandths, .inl (cI, 6, .inl u_thousandths)), (y0, .inr (4, [.int num, .int pts, .int nw, .int en, .int gl, .int bw, .int sp, .int be, .ref m_kind, .ref m_floor, .ref m_volume, .ref m_size, .ref m_faces, .ref m_when, .ref m_ahead, .ref m_order, .ref m_tried, .ref m_chosen, .ref m_forms, .ref m_warmth, .ref m_degrees, .ref m_thousandths, .ref m_longest, .long ab, .long bl])), (m_volume, .inl (cI, 10, .inl u_volume)), (m_when, .inl (cI, 10, .inl u_when))] H := hP
                have hD : va_D A [(m_kind, .inl (cI, 10, .inl u_kind)), (m_floor, .inl (cI, 10, .inl u_floor)), (m_ahead, .inl (cI, 100, .inl u_ahead)), (m_forms, .inl (cI, 3, .inl u_forms)), (m_size, .inl (cI, 10, .inl u_size)), (m_faces, .inl (cI, 10, .inl u_faces)), (m_warmth, .inl (cI, 40, .inl u_warmth)), (m_degrees, .inl (cI, 6, .inl u_degrees)), (m_thousandths, .inl (cI, 6, .inl u_thousandths)), (y0, .inr (4, [.int num, .int pts, .int nw, .int en, .int gl, .int bw, .int sp, .int be, .ref m_kind, .ref m_floor, .ref m_volume, .ref m_size, .ref m_faces, .ref m_when, .ref m_ahead, .ref m_order, .ref m_tried, .ref m_chosen, .ref m_forms, .ref m_warmth, .ref m_degrees, .ref m_thousandths, .ref m_longest, .long ab, .long bl])), (m_volume, .inl (cI, 10, .inl u_volume)), (m_when, .inl (cI, 10, .inl u_when))] := hD
                refine lv_aload_n hx hb dX4_hinders_152 rfl (lv_at hl 0 rfl) ?_
                refine va_get (D := D) (ci := 4) (v := .ref m_volume) (C := RX4) (T := TX4) (N := 25) hx hb hts iw_X4_hinders_4 hown hK hP 9 rfl rfl 10 (by decide) (hts _ wd_X4_hinders_8) (fun _ h9 => h9) rfl dX4_hinders_153 ?_
                refine lv_iload_n hx hb dX4_hinders_156 rfl (lv_at hl 1 rfl) ?_
                refine va_iald hx hb hK hP 10 0 rfl rfl (pf_X4_hinders_13 num pts u_size u_faces u_when u_degrees a day n_2 k n_62 k2 v_3 r_5 v_7 hn0 hn1 hp0 hp6 hdg hwh hz ha0 ha1 hda hn_2 h0k c_1 hn_62 h0k2 c_2 ev_3 fx_4 ev_7 c_8) dX4_hinders_157 ?_
                refine lv_topi (fun v_11 ev_11 => ?_)
                refine lv_iadd hx hb dX4_hinders_158 ?_
                refine lv_topi (fun v_12 ev_12 => ?_)
                refine lv_aload_n hx hb dX4_hinders_159 rfl (lv_at hl 0 rfl) ?_
                refine va_get (D := D) (ci := 4) (v := .int gl) (C := RX4) (T := TX4) (N := 25) hx hb hts iw_X4_hinders_4 hown hK hP 9 rfl rfl 4 (by decide) (hts _ wd_X4_hinders_9) (fun _ h9 => h9) rfl dX4_hinders_160 ?_
                refine lv_icmp_le (tgt := 170) hx hb dX4_hinders_163 (by decide) (fun c_13 => ?_) (fun c_13 => ?_)
                · refine lv_iconst (v := 0) hx hb dX4_hinders_170 (by decide) ?_
                  refine W.widen (k := 0) (n := 0) (Nat.le_of_ble_eq_true rfl) (Nat.le_of_ble_eq_true rfl) ?_
                  exact fi_i () hx hb hr hlocks hK (hP.sub [9, 0, 1, 10, 4, 5, 2, 3, 11, 6, 7, 8] rfl) (hD.sub [9, 0, 1, 10, 4, 5, 2, 3, 11, 6, 7, 8] (by decide) rfl) hS trivial dX4_hinders_171
                · refine lv_iconst (v := 4) hx hb dX4_hinders_166 (by decide) ?_
                  refine lv_goto (tgt := 171) hx hb dX4_hinders_167 (by decide) ?_
                  refine W.widen (k := 0) (n := 0) (Nat.le_of_ble_eq_true rfl) (Nat.le_of_ble_eq_true rfl) ?_
                  exact fi_i () hx hb hr hlocks hK (hP.sub [9, 0, 1, 10, 4, 5, 2, 3, 11, 6, 7, 8] rfl) (hD.sub [9, 0, 1, 10, 4, 5, 2, 3, 11, 6, 7, 8] (by decide) rfl) hS trivial dX4_hinders_171
              · refine lv_iconst (v := 3) hx hb dX4_hinders_144 (by decide) ?_
                refine W.widen (k := 0) (n := 0) (Nat.le_of_ble_eq_true rfl) (Nat.le_of_ble_eq_true rfl) ?_
                exact fi_i () hx hb hr hlocks hK (hP.sub [4, 0, 1, 2, 6, 7, 3, 5, 8, 9, 10, 11] rfl) (hD.sub [4, 0, 1, 2, 6, 7, 3, 5, 8, 9, 10, 11] (by decide) rfl) hS trivial dX4_hinders_145
            · refine lv_aload_n hx hb dX4_hinders_70 rfl (lv_at hl 0 rfl) ?_
              refine va_get (D := D) (ci := 4) (v := .ref m_kind) (C := RX4) (T := TX4) (N := 25) hx hb hts iw_X4_hinders_4 hown hK hP 0 rfl rfl 8 (by decide) (hts _ wd_X4_hinders_4) (fun _ h9 => h9) rfl dX4_hinders_71 ?_
              refine lv_iload_n hx hb dX4_hinders_74 rfl (lv_at hl 1 rfl) ?_
              refine va_iald hx hb hK hP 1 0 rfl rfl (pf_X4_hinders_14 num pts u_size u_when u_degrees a day n_2 k n_62 k2 hn0 hn1 hp0 hp6 hdg hwh hz ha0 ha1 hda hn_2 h0k c_1 hn_62 h0k2 c_2) dX4_hinders_75 ?_
              refine lv_topi (fun v_14 ev_14 => ?_)
              refine lv_if_ne (tgt := 123) hx hb dX4_hinders_76 (by decide) (fun c_15 => ?_) (fun c_15 => ?_)
              · refine lv_aload_n hx hb dX4_hinders_123 rfl (lv_at hl 0 rfl) ?_
                refine lv_aload_n hx hb dX4_hinders_124 rfl (lv_at hl 0 rfl) ?_
                refine va_get (D := D) (ci := 4) (v := .ref m_size) (C := RX4) (T := TX4) (N := 25) hx hb hts iw_X4_hinders_4 hown hK hP 0 rfl rfl 11 (by decide) (hts _ wd_X4_hinders_6) (fun _ h9 => h9) rfl dX4_hinders_125 ?_
                refine lv_iload_n hx hb dX4_hinders_128 rfl (lv_at hl 1 rfl) ?_
                refine va_iald hx hb hK hP 4 0 rfl rfl (pf_X4_hinders_15 num pts u_kind u_size u_when u_degrees a day n_2 k n_62 k2 v_14 hn0 hn1 hp0 hp6 hdg hwh hz ha0 ha1 hda hn_2 h0k c_1 hn_62 h0k2 c_2 ev_14 c_15) dX4_hinders_129 ?_
                refine lv_topi (fun v_16 ev_16 => ?_)
                have fx_17 : vp_in v_16 3 := (pf_X4_hinders_16 num pts u_kind u_size u_when u_degrees a day n_2 k n_62 k2 v_14 v_16 hn0 hn1 hp0 hp6 hdg hwh hz ha0 ha1 hda hn_2 h0k c_1 hn_62 h0k2 c_2 ev_14 c_15 ev_16)
                refine lv_iload_n hx hb dX4_hinders_130 rfl (lv_at hl 2 rfl) ?_
                refine lv_iload_n hx hb dX4_hinders_131 rfl (lv_at hl 1 rfl) ?_
                refine cc_i (wc := [(y0, .inr (4, [.int num, .int pts, .int nw, .int en, .int gl, .int bw, .int sp, .int be, .ref m_kind, .ref m_floor, .ref m_volume, .ref m_size, .ref m_faces, .ref m_when, .ref m_ahead, .ref m_order, .ref m_tried, .ref m_chosen, .ref m_forms, .ref m_warmth, .ref m_degrees, .ref m_thousandths, .ref m_longest, .long ab, .long bl])), (m_forms, .inl (cI, 3, .inl u_forms)), (m_size, .inl (cI, 10, .inl u_size)), (m_faces, .inl (cI, 10, .inl u_faces)), (m_when, .inl (cI, 10, .inl u_when)), (m_warmth, .inl (cI, 40, .inl u_warmth)), (m_degrees, .inl (cI, 6, .inl u_degrees)), (m_thousandths, .inl (cI, 6, .inl u_thousandths))]) (wr := [(m_kind, .inl (cI, 10, .inl u_kind)), (m_floor, .inl (cI, 10, .inl u_floor)), (m_volume, .inl (cI, 10, .inl u_volume)), (m_ahead, .inl (cI, 100, .inl u_ahead))]) (va_runV (As := [.int v_16, .int day, .int a]) (rest := []) ⟨hx, hb, hml, hown, hts⟩ (c_X4_freeOf l D cI cQ H.size y0 m_forms m_size m_faces m_when m_warmth m_degrees m_thousandths m_kind m_floor m_volume m_ahead m_order m_tried m_chosen m_longest num pts nw en gl bw sp be ab bl u_forms u_size u_faces u_when u_warmth u_degrees u_thousandths v_16 day a (pf_X4_hinders_17 num pts u_kind u_size u_when u_degrees a day n_2 k n_62 k2 v_14 v_16 hn0 hn1 hp0 hp6 hdg hwh hz ha0 ha1 hda hn_2 h0k c_1 hn_62 h0k2 c_2 ev_14 c_15 ev_16 fx_17) (pf_X4_hinders_18 num pts u_kind u_size u_when u_degrees a day n_2 k n_62 k2 v_14 v_16 hn0 hn1 hp0 hp6 hdg hwh hz ha0 ha1 hda hn_2 h0k c_1 hn_62 h0k2 c_2 ev_14 c_15 ev_16 fx_17) (pf_X4_hinders_19 num pts u_kind u_size u_when u_degrees a day n_2 k n_62 k2 v_14 v_16 hn0 hn1 hp0 hp6 hdg hwh hz ha0 ha1 hda hn_2 h0k c_1 hn_62 h0k2 c_2 ev_14 c_15 ev_16 fx_17) (pf_X4_hinders_20 num pts u_kind u_size u_when u_degrees a day n_2 k n_62 k2 v_14 v_16 hn0 hn1 hp0 hp6 hdg hwh hz ha0 ha1 hda hn_2 h0k c_1 hn_62 h0k2 c_2 ev_14 c_15 ev_16 fx_17) (pf_X4_hinders_21 num pts u_kind u_size u_when u_degrees a day n_2 k n_62 k2 v_14 v_16 hn0 hn1 hp0 hp6 hdg hwh hz ha0 ha1 hda hn_2 h0k c_1 hn_62 h0k2 c_2 ev_14 c_15 ev_16 fx_17) (pf_X4_hinders_22 num pts u_kind u_size u_when u_degrees a day n_2 k n_62 k2 v_14 v_16 hn0 hn1 hp0 hp6 hdg hwh hz ha0 ha1 hda hn_2 h0k c_1 hn_62 h0k2 c_2 ev_14 c_15 ev_16 fx_17) (pf_X4_hinders_23 num pts u_kind u_size u_when u_degrees a day n_2 k n_62 k2 v_14 v_16 hn0 hn1 hp0 hp6 hdg hwh hz ha0 ha1 hda hn_2 h0k c_1 hn_62 h0k2 c_2 ev_14 c_15 ev_16 fx_17)) (cwV 3 hts gX4_hinders_X4_freeOf rfl rfl rfl (by decide +kernel) ⟨Nat.le_of_ble_eq_true rfl, Nat.le_of_ble_eq_true rfl⟩) (preV (wc := [(y0, .inr (4, [.int num, .int pts, .int nw, .int en, .int gl, .int bw, .int sp, .int be, .ref m_kind, .ref m_floor, .ref m_volume, .ref m_size, .ref m_faces, .ref m_when, .ref m_ahead, .ref m_order, .ref m_tried, .ref m_chosen, .ref m_forms, .ref m_warmth, .ref m_degrees, .ref m_thousandths, .ref m_longest, .long ab, .long bl])), (m_forms, .inl (cI, 3, .inl u_forms)), (m_size, .inl (cI, 10, .inl u_size)), (m_faces, .inl (cI, 10, .inl u_faces)), (m_when, .inl (cI, 10, .inl u_when)), (m_warmth, .inl (cI, 40, .inl u_warmth)), (m_degrees, .inl (cI, 6, .inl u_degrees)), (m_thousandths, .inl (cI, 6, .inl u_thousandths))]) (ci := 4) (q0 := 0) hK hP hD hN [0, 7, 4, 5, 8, 9, 10, 11] rfl (by decide) rfl rfl) rfl rfl hl.1 rfl (lv_room (Nat.le_of_ble_eq_true rfl)) dX4_hinders_132 ⟨Nat.le_of_ble_eq_true rfl, Nat.le_of_ble_eq_true rfl⟩) hP hD hS hA [0, 7, 4, 5, 8, 9, 10, 11] [1, 2, 3, 6] rfl rfl (by decide) (by decide) (fun r_18 u H locs w_19 hP hD hS => ?_)
                have hP : va_P D vwCl [(m_kind, .inl (cI, 10, .inl u_kind)), (m_floor, .inl (cI, 10, .inl u_floor)), (m_volume, .inl (cI, 10, .inl u_volume)), (m_ahead, .inl (cI, 100, .inl u_ahead)), (y0, .inr (4, [.int num, .int pts, .int nw, .int en, .int gl, .int bw, .int sp, .int be, .ref m_kind, .ref m_floor, .ref m_volume, .ref m_size, .ref m_faces, .ref m_when, .ref m_ahead, .ref m_order, .ref m_tried, .ref m_chosen, .ref m_forms, .ref m_warmth, .ref m_degrees, .ref m_thousandths, .ref m_longest, .long ab, .long bl])), (m_forms, .inl (cI, 3, .inl u_forms)), (m_size, .inl (cI, 10, .inl u_size)), (m_faces, .inl (cI, 10, .inl u_faces)), (m_when, .inl (cI, 10, .inl u_when)), (m_warmth, .inl (cI, 40, .inl u_warmth)), (m_degrees, .inl (cI, 6, .inl u_degrees)), (m_thousandths, .inl (cI, 6, .inl u_thousandths))] H := hP
                have hD : va_D A [(m_kind, .inl (cI, 10, .inl u_kind)), (m_floor, .inl (cI, 10, .inl u_floor)), (m_volume, .inl (cI, 10, .inl u_volume)), (m_ahead, .inl (cI, 100, .inl u_ahead)), (y0, .inr (4, [.int num, .int pts, .int nw, .int en, .int gl, .int bw, .int sp, .int be, .ref m_kind, .ref m_floor, .ref m_volume, .ref m_size, .ref m_faces, .ref m_when, .ref m_ahead, .ref m_order, .ref m_tried, .ref m_chosen, .ref m_forms, .ref m_warmth, .ref m_degrees, .ref m_thousandths, .ref m_longest, .long ab, .long bl])), (m_forms, .inl (cI, 3, .inl u_forms)), (m_size, .inl (cI, 10, .inl u_size)), (m_faces, .inl (cI, 10, .inl u_faces)), (m_when, .inl (cI, 10, .inl u_when)), (m_warmth, .inl (cI, 40, .inl u_warmth)), (m_degrees, .inl (cI, 6, .inl u_degrees)), (m_thousandths, .inl (cI, 6, .inl u_thousandths))] := hD
                refine lv_aload_n hx hb dX4_hinders_135 rfl (lv_at hl 0 rfl) ?_
                refine va_get (D := D) (ci := 4) (v := .ref m_faces) (C := RX4) (T := TX4) (N := 25) hx hb hts iw_X4_hinders_4 hown hK hP 4 rfl rfl 12 (by decide) (hts _ wd_X4_hinders_7) (fun _ h9 => h9) rfl dX4_hinders_136 ?_
                refine lv_iload_n hx hb dX4_hinders_139 rfl (lv_at hl 1 rfl) ?_
                refine va_iald hx hb hK hP 7 0 rfl rfl (pf_X4_hinders_24 num pts u_kind u_size u_when u_degrees a day n_2 k n_62 k2 v_14 v_16 hn0 hn1 hp0 hp6 hdg hwh hz ha0 ha1 hda hn_2 h0k c_1 hn_62 h0k2 c_2 ev_14 c_15 ev_16 fx_17) dX4_hinders_140 ?_
                refine lv_topi (fun v_20 ev_20 => ?_)
                refine lv_icmp_ge (tgt := 146) hx hb dX4_hinders_141 (by decide) (fun c_21 => ?_) (fun c_21 => ?_)
                · refine lv_aload_n hx hb dX4_hinders_146 rfl (lv_at hl 0 rfl) ?_
                  refine lv_iload_n hx hb dX4_hinders_147 rfl (lv_at hl 2 rfl) ?_
                  refine lv_iload_n hx hb dX4_hinders_148 rfl (lv_at hl 1 rfl) ?_
                  refine cc_i (wc := [(y0, .inr (4, [.int num, .int pts, .int nw, .int en, .int gl, .int bw, .int sp, .int be, .ref m_kind, .ref m_floor, .ref m_volume, .ref m_size, .ref m_faces, .ref m_when, .ref m_ahead, .ref m_order, .ref m_tried, .ref m_chosen, .ref m_forms, .ref m_warmth, .ref m_degrees, .ref m_thousandths, .ref m_longest, .long ab, .long bl])), (m_volume, .inl (cI, 10, .inl u_volume)), (m_when, .inl (cI, 10, .inl u_when))]) (wr := [(m_kind, .inl (cI, 10, .inl u_kind)), (m_floor, .inl (cI, 10, .inl u_floor)), (m_ahead, .inl (cI, 100, .inl u_ahead)), (m_forms, .inl (cI, 3, .inl u_forms)), (m_size, .inl (cI, 10, .inl u_size)), (m_faces, .inl (cI, 10, .inl u_faces)), (m_warmth, .inl (cI, 40, .inl u_warmth)), (m_degrees, .inl (cI, 6, .inl u_degrees)), (m_thousandths, .inl (cI, 6, .inl u_thousandths))]) (va_runV (As := [.int day, .int a]) (rest := []) ⟨hx, hb, hml, hown, hts⟩ (c_X4_volumes l D cI cQ H.size y0 m_volume m_when m_kind m_floor m_size m_faces m_ahead m_order m_tried m_chosen m_forms m_warmth m_degrees m_thousandths m_longest num pts nw en gl bw sp be ab bl u_volume u_when day a (pf_X4_hinders_25 num pts u_kind u_size u_faces u_when u_degrees a day n_2 k n_62 k2 v_14 v_16 r_18 v_20 hn0 hn1 hp0 hp6 hdg hwh hz ha0 ha1 hda hn_2 h0k c_1 hn_62 h0k2 c_2 ev_14 c_15 ev_16 fx_17 ev_20 c_21) (pf_X4_hinders_26 num pts u_kind u_size u_faces u_when u_degrees a day n_2 k n_62 k2 v_14 v_16 r_18 v_20 hn0 hn1 hp0 hp6 hdg hwh hz ha0 ha1 hda hn_2 h0k c_1 hn_62 h0k2 c_2 ev_14 c_15 ev_16 fx_17 ev_20 c_21)) (cwV 2 hts gX4_hinders_X4_volumes rfl rfl rfl (by decide +kernel) ⟨Nat.le_of_ble_eq_true rfl, Nat.le_of_ble_eq_true rfl⟩) (preV (wc := [(y0, .inr (4, [.int num, .int pts, .int nw, .int en, .int gl, .int bw, .int sp, .int be, .ref m_kind, .ref m_floor, .ref m_volume, .ref m_size, .ref m_faces, .ref m_when, .ref m_ahead, .ref m_order, .ref m_tried, .ref m_chosen, .ref m_forms, .ref m_warmth, .ref m_degrees, .ref m_thousandths, .ref m_longest, .long ab, .long bl])), (m_volume, .inl (cI, 10, .inl u_volume)), (m_when, .inl (cI, 10, .inl u_when))]) (ci := 4) (q0 := 4) hK hP hD hN [4, 2, 8] rfl (by decide) rfl rfl) rfl rfl hl.1 rfl (lv_room (Nat.le_of_ble_eq_true rfl)) dX4_hinders_149 ⟨Nat.le_of_ble_eq_true rfl, Nat.le_of_ble_eq_true rfl⟩) hP hD hS hA [4, 2, 8] [0, 1, 3, 5, 6, 7, 9, 10, 11] rfl rfl (by decide) (by decide) (fun r_22 u H locs w_23 hP hD hS => ?_)
                  have hP : va_P D vwCl [(m_kind, .inl (cI, 10, .inl u_kind)), (m_floor, .inl (cI, 10, .inl u_floor)), (m_ahead, .inl (cI, 100, .inl u_ahead)), (m_forms, .inl (cI, 3, .inl u_forms)), (m_size, .inl (cI, 10, .inl u_size)), (m_faces, .inl (cI, 10, .inl u_faces)), (m_warmth, .inl (cI, 40, .inl u_warmth)), (m_degrees, .inl (cI, 6, .inl u_degrees)), (m_thousandths, .inl (cI, 6, .inl u_thousandths)), (y0, .inr (4, [.int num, .int pts, .int nw, .int en, .int gl, .int bw, .int sp, .int be, .ref m_kind, .ref m_floor, .ref m_volume, .ref m_size, .ref m_faces, .ref m_when, .ref m_ahead, .ref m_order, .ref m_tried, .ref m_chosen, .ref m_forms, .ref m_warmth, .ref m_degrees, .ref m_thousandths, .ref m_longest, .long ab, .long bl])), (m_volume, .inl (cI, 10, .inl u_volume)), (m_when, .inl (cI, 10, .inl u_when))] H := hP
                  have hD : va_D A [(m_kind, .inl (cI, 10, .inl u_kind)), (m_floor, .inl (cI, 10, .inl u_floor)), (m_ahead, .inl (cI, 100, .inl u_ahead)), (m_forms, .inl (cI, 3, .inl u_forms)), (m_size, .inl (cI, 10, .inl u_size)), (m_faces, .inl (cI, 10, .inl u_faces)), (m_warmth, .inl (cI, 40, .inl u_warmth)), (m_degrees, .inl (cI, 6, .inl u_degrees)), (m_thousandths, .inl (cI, 6, .inl u_thousandths)), (y0, .inr (4, [.int num, .int pts, .int nw, .int en, .int gl, .int bw, .int sp, .int be, .ref m_kind, .ref m_floor, .ref m_volume, .ref m_size, .ref m_faces, .ref m_when, .ref m_ahead, .ref m_order, .ref m_tried, .ref m_chosen, .ref m_forms, .ref m_warmth, .ref m_degrees, .ref m_thousandths, .ref m_longest, .long ab, .long bl])), (m_volume, .inl (cI, 10, .inl u_volume)), (m_when, .inl (cI, 10, .inl u_when))] := hD
                  refine lv_aload_n hx hb dX4_hinders_152 rfl (lv_at hl 0 rfl) ?_
                  refine va_get (D := D) (ci := 4) (v := .ref m_volume) (C := RX4) (T := TX4) (N := 25) hx hb hts iw_X4_hinders_4 hown hK hP 9 rfl rfl 10 (by decide) (hts _ wd_X4_hinders_8) (fun _ h9 => h9) rfl dX4_hinders_153 ?_
                  refine lv_iload_n hx hb dX4_hinders_156 rfl (lv_at hl 1 rfl) ?_
                  refine va_iald hx hb hK hP 10 0 rfl rfl (pf_X4_hinders_27 num pts u_kind u_size u_faces u_when u_degrees a day n_2 k n_62 k2 v_14 v_16 r_18 v_20 hn0 hn1 hp0 hp6 hdg hwh hz ha0 ha1 hda hn_2 h0k c_1 hn_62 h0k2 c_2 ev_14 c_15 ev_16 fx_17 ev_20 c_21) dX4_hinders_157 ?_
                  refine lv_topi (fun v_24 ev_24 => ?_)
                  refine lv_iadd hx hb dX4_hinders_158 ?_
                  refine lv_topi (fun v_25 ev_25 => ?_)
                  refine lv_aload_n hx hb dX4_hinders_159 rfl (lv_at hl 0 rfl) ?_
                  refine va_get (D := D) (ci := 4) (v := .int gl) (C := RX4) (T := TX4) (N := 25) hx hb hts iw_X4_hinders_4 hown hK hP 9 rfl rfl 4 (by decide) (hts _ wd_X4_hinders_9) (fun _ h9 => h9) rfl dX4_hinders_160 ?_
                  refine lv_icmp_le (tgt := 170) hx hb dX4_hinders_163 (by decide) (fun c_26 => ?_) (fun c_26 => ?_)
                  · refine lv_iconst (v := 0) hx hb dX4_hinders_170 (by decide) ?_
                    refine W.widen (k := 0) (n := 0) (Nat.le_of_ble_eq_true rfl) (Nat.le_of_ble_eq_true rfl) ?_
                    exact fi_i () hx hb hr hlocks hK (hP.sub [9, 0, 1, 10, 4, 5, 2, 3, 11, 6, 7, 8] rfl) (hD.sub [9, 0, 1, 10, 4, 5, 2, 3, 11, 6, 7, 8] (by decide) rfl) hS trivial dX4_hinders_171
                  · refine lv_iconst (v := 4) hx hb dX4_hinders_166 (by decide) ?_
                    refine lv_goto (tgt := 171) hx hb dX4_hinders_167 (by decide) ?_
                    refine W.widen (k := 0) (n := 0) (Nat.le_of_ble_eq_true rfl) (Nat.le_of_ble_eq_true rfl) ?_
                    exact fi_i () hx hb hr hlocks hK (hP.sub [9, 0, 1, 10, 4, 5, 2, 3, 11, 6, 7, 8] rfl) (hD.sub [9, 0, 1, 10, 4, 5, 2, 3, 11, 6, 7, 8] (by decide) rfl) hS trivial dX4_hinders_171
                · refine lv_iconst (v := 3) hx hb dX4_hinders_144 (by decide) ?_
                  refine W.widen (k := 0) (n := 0) (Nat.le_of_ble_eq_true rfl) (Nat.le_of_ble_eq_true rfl) ?_
                  exact fi_i () hx hb hr hlocks hK (hP.sub [4, 0, 1, 2, 6, 7, 3, 5, 8, 9, 10, 11] rfl) (hD.sub [4, 0, 1, 2, 6, 7, 3, 5, 8, 9, 10, 11] (by decide) rfl) hS trivial dX4_hinders_145
              · refine lv_aload_n hx hb dX4_hinders_79 rfl (lv_at hl 0 rfl) ?_
                refine lv_iload_n hx hb dX4_hinders_80 rfl (lv_at hl 1 rfl) ?_
                refine lv_iload_n hx hb dX4_hinders_81 rfl (lv_at hl 3 rfl) ?_
                refine cc_i (wc := [(y0, .inr (4, [.int num, .int pts, .int nw, .int en, .int gl, .int bw, .int sp, .int be, .ref m_kind, .ref m_floor, .ref m_volume, .ref m_size, .ref m_faces, .ref m_when, .ref m_ahead, .ref m_order, .ref m_tried, .ref m_chosen, .ref m_forms, .ref m_warmth, .ref m_degrees, .ref m_thousandths, .ref m_longest, .long ab, .long bl])), (m_kind, .inl (cI, 10, .inl u_kind)), (m_floor, .inl (cI, 10, .inl u_floor))]) (wr := [(m_volume, .inl (cI, 10, .inl u_volume)), (m_size, .inl (cI, 10, .inl u_size)), (m_faces, .inl (cI, 10, .inl u_faces)), (m_ahead, .inl (cI, 100, .inl u_ahead)), (m_forms, .inl (cI, 3, .inl u_forms)), (m_when, .inl (cI, 10, .inl u_when)), (m_warmth, .inl (cI, 40, .inl u_warmth)), (m_degrees, .inl (cI, 6, .inl u_degrees)), (m_thousandths, .inl (cI, 6, .inl u_thousandths))]) (va_runV (As := [.int a, .int k2]) (rest := []) ⟨hx, hb, hml, hown, hts⟩ (c_X4_isUnder l D cI cQ H.size y0 m_kind m_floor m_volume m_size m_faces m_when m_ahead m_order m_tried m_chosen m_forms m_warmth m_degrees m_thousandths m_longest num pts nw en gl bw sp be ab bl u_kind u_floor a k2 (pf_X4_hinders_28 num pts u_kind u_size u_when u_degrees a day n_2 k n_62 k2 v_14 hn0 hn1 hp0 hp6 hdg hwh hz ha0 ha1 hda hn_2 h0k c_1 hn_62 h0k2 c_2 ev_14 c_15) (pf_X4_hinders_29 num pts u_kind u_size u_when u_degrees a day n_2 k n_62 k2 v_14 hn0 hn1 hp0 hp6 hdg hwh hz ha0 ha1 hda hn_2 h0k c_1 hn_62 h0k2 c_2 ev_14 c_15)) (cwV 2 hts gX4_hinders_X4_isUnder rfl rfl rfl (by decide +kernel) ⟨Nat.le_of_ble_eq_true rfl, Nat.le_of_ble_eq_true rfl⟩) (preV (wc := [(y0, .inr (4, [.int num, .int pts, .int nw, .int en, .int gl, .int bw, .int sp, .int be, .ref m_kind, .ref m_floor, .ref m_volume, .ref m_size, .ref m_faces, .ref m_when, .ref m_ahead, .ref m_order, .ref m_tried, .ref m_chosen, .ref m_forms, .ref m_warmth, .ref m_degrees, .ref m_thousandths, .ref m_longest, .long ab, .long bl])), (m_kind, .inl (cI, 10, .inl u_kind)), (m_floor, .inl (cI, 10, .inl u_floor))]) (ci := 4) (q0 := 0) hK hP hD hN [0, 1, 2] rfl (by decide) rfl rfl) rfl rfl hl.1 rfl (lv_room (Nat.le_of_ble_eq_true rfl)) dX4_hinders_82 ⟨Nat.le_of_ble_eq_true rfl, Nat.le_of_ble_eq_true rfl⟩) hP hD hS hA [0, 1, 2] [3, 4, 5, 6, 7, 8, 9, 10, 11] rfl rfl (by decide) (by decide) (fun r_27 u H locs w_28 hP hD hS => ?_)
                have hP : va_P D vwCl [(m_volume, .inl (cI, 10, .inl u_volume)), (m_size, .inl (cI, 10, .inl u_size)), (m_faces, .inl (cI, 10, .inl u_faces)), (m_ahead, .inl (cI, 100, .inl u_ahead)), (m_forms, .inl (cI, 3, .inl u_forms)), (m_when, .inl (cI, 10, .inl u_when)), (m_warmth, .inl (cI, 40, .inl u_warmth)), (m_degrees, .inl (cI, 6, .inl u_degrees)), (m_thousandths, .inl (cI, 6, .inl u_thousandths)), (y0, .inr (4, [.int num, .int pts, .int nw, .int en, .int gl, .int bw, .int sp, .int be, .ref m_kind, .ref m_floor, .ref m_volume, .ref m_size, .ref m_faces, .ref m_when, .ref m_ahead, .ref m_order, .ref m_tried, .ref m_chosen, .ref m_forms, .ref m_warmth, .ref m_degrees, .ref m_thousandths, .ref m_longest, .long ab, .long bl])), (m_kind, .inl (cI, 10, .inl u_kind)), (m_floor, .inl (cI, 10, .inl u_floor))] H := hP
                have hD : va_D A [(m_volume, .inl (cI, 10, .inl u_volume)), (m_size, .inl (cI, 10, .inl u_size)), (m_faces, .inl (cI, 10, .inl u_faces)), (m_ahead, .inl (cI, 100, .inl u_ahead)), (m_forms, .inl (cI, 3, .inl u_forms)), (m_when, .inl (cI, 10, .inl u_when)), (m_warmth, .inl (cI, 40, .inl u_warmth)), (m_degrees, .inl (cI, 6, .inl u_degrees)), (m_thousandths, .inl (cI, 6, .inl u_thousandths)), (y0, .inr (4, [.int num, .int pts, .int nw, .int en, .int gl, .int bw, .int sp, .int be, .ref m_kind, .ref m_floor, .ref m_volume, .ref m_size, .ref m_faces, .ref m_when, .ref m_ahead, .ref m_order, .ref m_tried, .ref m_chosen, .ref m_forms, .ref m_warmth, .ref m_degrees, .ref m_thousandths, .ref m_longest, .long ab, .long bl])), (m_kind, .inl (cI, 10, .inl u_kind)), (m_floor, .inl (cI, 10, .inl u_floor))] := hD
                refine lv_if_eq (tgt := 117) hx hb dX4_hinders_85 (by decide) (fun c_29 => ?_) (fun c_29 => ?_)
                · obtain ⟨v_30, ev_30⟩ : ∃ y : Int32, y = k2 + 1 := ⟨_, rfl⟩
                  refine lv_iinc (v := v_30) (lv' := [(3, .int v_30), (0, .ref y0), (1, .int a), (2, .int day)]) hx hb dX4_hinders_117 hl (k := 3) rfl (by rw [ev_30]; rfl) (by decide) rfl (fun ls hl => ?_)
                  refine lv_goto (tgt := 62) hx hb dX4_hinders_120 (by decide) ?_
                  exact hOut _ _ _ _ _ (ih_62 v_30 _ _ _ (pf_X4_hinders_30 num pts u_kind u_size u_when u_degrees a day n_2 k n_62 k2 v_14 r_27 v_30 hn0 hn1 hp0 hp6 hdg hwh hz ha0 ha1 hda hn_2 h0k c_1 hn_62 h0k2 c_2 ev_14 c_15 c_29 ev_30) (pf_X4_hinders_31 num pts u_kind u_size u_when u_degrees a day n_2 k n_62 k2 v_14 r_27 v_30 hn0 hn1 hp0 hp6 hdg hwh hz ha0 ha1 hda hn_2 h0k c_1 hn_62 h0k2 c_2 ev_14 c_15 c_29 ev_30) (hP.sub [9, 10, 11, 0, 1, 2, 3, 4, 5, 6, 7, 8] rfl) (hD.sub [9, 10, 11, 0, 1, 2, 3, 4, 5, 6, 7, 8] (by decide) rfl) hS (lv_sub hl [1, 2, 3, 0] rfl))
                · refine lv_aload_n hx hb dX4_hinders_88 rfl (lv_at hl 0 rfl) ?_
                  refine lv_iload_n hx hb dX4_hinders_89 rfl (lv_at hl 3 rfl) ?_
                  refine lv_iload_n hx hb dX4_hinders_90 rfl (lv_at hl 2 rfl) ?_
                  refine cc_i (wc := [(y0, .inr (4, [.int num, .int pts, .int nw, .int en, .int gl, .int bw, .int sp, .int be, .ref m_kind, .ref m_floor, .ref m_volume, .ref m_size, .ref m_faces, .ref m_when, .ref m_ahead, .ref m_order, .ref m_tried, .ref m_chosen, .ref m_forms, .ref m_warmth, .ref m_degrees, .ref m_thousandths, .ref m_longest, .long ab, .long bl])), (m_when, .inl (cI, 10, .inl u_when))]) (wr := [(m_volume, .inl (cI, 10, .inl u_volume)), (m_size, .inl (cI, 10, .inl u_size)), (m_faces, .inl (cI, 10, .inl u_faces)), (m_ahead, .inl (cI, 100, .inl u_ahead)), (m_forms, .inl (cI, 3, .inl u_forms)), (m_warmth, .inl (cI, 40, .inl u_warmth)), (m_degrees, .inl (cI, 6, .inl u_degrees)), (m_thousandths, .inl (cI, 6, .inl u_thousandths)), (m_kind, .inl (cI, 10, .inl u_kind)), (m_floor, .inl (cI, 10, .inl u_floor))]) (va_runV (As := [.int k2, .int day]) (rest := []) ⟨hx, hb, hml, hown, hts⟩ (c_X4_isPoured l D cI cQ H.size y0 m_when m_kind m_floor m_volume m_size m_faces m_ahead m_order m_tried m_chosen m_forms m_warmth m_degrees m_thousandths m_longest num pts nw en gl bw sp be ab bl u_when k2 day (pf_X4_hinders_32 num pts u_kind u_size u_when u_degrees a day n_2 k n_62 k2 v_14 r_27 hn0 hn1 hp0 hp6 hdg hwh hz ha0 ha1 hda hn_2 h0k c_1 hn_62 h0k2 c_2 ev_14 c_15 c_29)) (cwV 2 hts gX4_hinders_X4_isPoured rfl rfl rfl (by decide +kernel) ⟨Nat.le_of_ble_eq_true rfl, Nat.le_of_ble_eq_true rfl⟩) (preV (wc := [(y0, .inr (4, [.int num, .int pts, .int nw, .int en, .int gl, .int bw, .int sp, .int be, .ref m_kind, .ref m_floor, .ref m_volume, .ref m_size, .ref m_faces, .ref m_when, .ref m_ahead, .ref m_order, .ref m_tried, .ref m_chosen, .ref m_forms, .ref m_warmth, .ref m_degrees, .ref m_thousandths, .ref m_longest, .long ab, .long bl])), (m_when, .inl (cI, 10, .inl u_when))]) (ci := 4) (q0 := 9) hK hP hD hN [9, 5] rfl (by decide) rfl rfl) rfl rfl hl.1 rfl (lv_room (Nat.le_of_ble_eq_true rfl)) dX4_hinders_91 ⟨Nat.le_of_ble_eq_true rfl, Nat.le_of_ble_eq_true rfl⟩) hP hD hS hA [9, 5] [0, 1, 2, 3, 4, 6, 7, 8, 10, 11] rfl rfl (by decide) (by decide) (fun r_31 u H locs w_32 hP hD hS => ?_)
                  have hP : va_P D vwCl [(m_volume, .inl (cI, 10, .inl u_volume)), (m_size, .inl (cI, 10, .inl u_size)), (m_faces, .inl (cI, 10, .inl u_faces)), (m_ahead, .inl (cI, 100, .inl u_ahead)), (m_forms, .inl (cI, 3, .inl u_forms)), (m_warmth, .inl (cI, 40, .inl u_warmth)), (m_degrees, .inl (cI, 6, .inl u_degrees)), (m_thousandths, .inl (cI, 6, .inl u_thousandths)), (m_kind, .inl (cI, 10, .inl u_kind)), (m_floor, .inl (cI, 10, .inl u_floor)), (y0, .inr (4, [.int num, .int pts, .int nw, .int en, .int gl, .int bw, .int sp, .int be, .ref m_kind, .ref m_floor, .ref m_volume, .ref m_size, .ref m_faces, .ref m_when, .ref m_ahead, .ref m_order, .ref m_tried, .ref m_chosen, .ref m_forms, .ref m_warmth, .ref m_degrees, .ref m_thousandths, .ref m_longest, .long ab, .long bl])), (m_when, .inl (cI, 10, .inl u_when))] H := hP
                  have hD : va_D A [(m_volume, .inl (cI, 10, .inl u_volume)), (m_size, .inl (cI, 10, .inl u_size)), (m_faces, .inl (cI, 10, .inl u_faces)), (m_ahead, .inl (cI, 100, .inl u_ahead)), (m_forms, .inl (cI, 3, .inl u_forms)), (m_warmth, .inl (cI, 40, .inl u_warmth)), (m_degrees, .inl (cI, 6, .inl u_degrees)), (m_thousandths, .inl (cI, 6, .inl u_thousandths)), (m_kind, .inl (cI, 10, .inl u_kind)), (m_floor, .inl (cI, 10, .inl u_floor)), (y0, .inr (4, [.int num, .int pts, .int nw, .int en, .int gl, .int bw, .int sp, .int be, .ref m_kind, .ref m_floor, .ref m_volume, .ref m_size, .ref m_faces, .ref m_when, .ref m_ahead, .ref m_order, .ref m_tried, .ref m_chosen, .ref m_forms, .ref m_warmth, .ref m_degrees, .ref m_thousandths, .ref m_longest, .long ab, .long bl])), (m_when, .inl (cI, 10, .inl u_when))] := hD
                  have w_32 : r_31 = bSt (u_when k2.toNatClampNeg) day := w_32
                  refine lv_if_eq (tgt := 115) hx hb dX4_hinders_94 (by decide) (fun c_34 => ?_) (fun c_34 => ?_)
                  · refine lv_iconst (v := 2) hx hb dX4_hinders_115 (by decide) ?_
                    refine W.widen (k := 0) (n := 0) (Nat.le_of_ble_eq_true rfl) (Nat.le_of_ble_eq_true rfl) ?_
                    exact fi_i () hx hb hr hlocks hK (hP.sub [10, 8, 9, 0, 1, 2, 3, 4, 11, 5, 6, 7] rfl) (hD.sub [10, 8, 9, 0, 1, 2, 3, 4, 11, 5, 6, 7] (by decide) rfl) hS trivial dX4_hinders_116
                  · refine lv_aload_n hx hb dX4_hinders_97 rfl (lv_at hl 0 rfl) ?_
                    refine lv_aload_n hx hb dX4_hinders_98 rfl (lv_at hl 0 rfl) ?_
                    refine va_get (D := D) (ci := 4) (v := .ref m_when) (C := RX4) (T := TX4) (N := 25) hx hb hts iw_X4_hinders_4 hown hK hP 10 rfl rfl 13 (by decide) (hts _ wd_X4_hinders_3) (fun _ h9 => h9) rfl dX4_hinders_99 ?_
                    refine lv_iload_n hx hb dX4_hinders_102 rfl (lv_at hl 3 rfl) ?_
                    refine va_iald hx hb hK hP 11 0 rfl rfl (pf_X4_hinders_33 num pts u_kind u_size u_when u_degrees a day n_2 k n_62 k2 v_14 r_27 r_31 hn0 hn1 hp0 hp6 hdg hwh hz ha0 ha1 hda hn_2 h0k c_1 hn_62 h0k2 c_2 ev_14 c_15 c_29 w_32 c_34) dX4_hinders_103 ?_
                    refine lv_topi (fun v_35 ev_35 => ?_)
                    have fx_36 : -1 ≤ v_35 ∧ v_35 ≤ 39 := (pf_X4_hinders_34 num pts u_kind u_size u_when u_degrees a day n_2 k n_62 k2 v_14 r_27 r_31 v_35 hn0 hn1 hp0 hp6 hdg hwh hz ha0 ha1 hda hn_2 h0k c_1 hn_62 h0k2 c_2 ev_14 c_15 c_29 w_32 c_34 ev_35)
                    refine lv_iload_n hx hb dX4_hinders_104 rfl (lv_at hl 2 rfl) ?_
                    refine cc_i (wc := [(y0, .inr (4, [.int num, .int pts, .int nw, .int en, .int gl, .int bw, .int sp, .int be, .ref m_kind, .ref m_floor, .ref m_volume, .ref m_size, .ref m_faces, .ref m_when, .ref m_ahead, .ref m_order, .ref m_tried, .ref m_chosen, .ref m_forms, .ref m_warmth, .ref m_degrees, .ref m_thousandths, .ref m_longest, .long ab, .long bl])), (m_warmth, .inl (cI, 40, .inl u_warmth)), (m_degrees, .inl (cI, 6, .inl u_degrees)), (m_thousandths, .inl (cI, 6, .inl u_thousandths))]) (wr := [(m_volume, .inl (cI, 10, .inl u_volume)), (m_size, .inl (cI, 10, .inl u_size)), (m_faces, .inl (cI, 10, .inl u_faces)), (m_ahead, .inl (cI, 100, .inl u_ahead)), (m_forms, .inl (cI, 3, .inl u_forms)), (m_kind, .inl (cI, 10, .inl u_kind)), (m_floor, .inl (cI, 10, .inl u_floor)), (m_when, .inl (cI, 10, .inl u_when))]) (va_runV (As := [.int v_35, .int day]) (rest := []) ⟨hx, hb, hml, hown, hts⟩ (c_X4_hardness l D cI cQ H.size y0 m_warmth m_degrees m_thousandths m_kind m_floor m_volume m_size m_faces m_when m_ahead m_order m_tried m_chosen m_forms m_longest num pts nw en gl bw sp be ab bl u_warmth u_degrees u_thousandths v_35 day (pf_X4_hinders_35 num pts u_kind u_size u_when u_degrees a day n_2 k n_62 k2 v_14 r_27 r_31 v_35 hn0 hn1 hp0 hp6 hdg hwh hz ha0 ha1 hda hn_2 h0k c_1 hn_62 h0k2 c_2 ev_14 c_15 c_29 w_32 c_34 ev_35 fx_36) (pf_X4_hinders_36 num pts u_kind u_size u_when u_degrees a day n_2 k n_62 k2 v_14 r_27 r_31 v_35 hn0 hn1 hp0 hp6 hdg hwh hz ha0 ha1 hda hn_2 h0k c_1 hn_62 h0k2 c_2 ev_14 c_15 c_29 w_32 c_34 ev_35 fx_36) (pf_X4_hinders_37 num pts u_kind u_size u_when u_degrees a day n_2 k n_62 k2 v_14 r_27 r_31 v_35 hn0 hn1 hp0 hp6 hdg hwh hz ha0 ha1 hda hn_2 h0k c_1 hn_62 h0k2 c_2 ev_14 c_15 c_29 w_32 c_34 ev_35 fx_36) (pf_X4_hinders_38 num pts u_kind u_size u_when u_degrees a day n_2 k n_62 k2 v_14 r_27 r_31 v_35 hn0 hn1 hp0 hp6 hdg hwh hz ha0 ha1 hda hn_2 h0k c_1 hn_62 h0k2 c_2 ev_14 c_15 c_29 w_32 c_34 ev_35 fx_36) (pf_X4_hinders_39 num pts u_kind u_size u_when u_degrees a day n_2 k n_62 k2 v_14 r_27 r_31 v_35 hn0 hn1 hp0 hp6 hdg hwh hz ha0 ha1 hda hn_2 h0k c_1 hn_62 h0k2 c_2 ev_14 c_15 c_29 w_32 c_34 ev_35 fx_36) (pf_X4_hinders_40 num pts u_kind u_size u_when u_degrees a day n_2 k n_62 k2 v_14 r_27 r_31 v_35 hn0 hn1 hp0 hp6 hdg hwh hz ha0 ha1 hda hn_2 h0k c_1 hn_62 h0k2 c_2 ev_14 c_15 c_29 w_32 c_34 ev_35 fx_36)) (cwV 2 hts gX4_hinders_X4_hardness rfl rfl rfl (by decide +kernel) ⟨Nat.le_of_ble_eq_true rfl, Nat.le_of_ble_eq_true rfl⟩) (preV (wc := [(y0, .inr (4, [.int num, .int pts, .int nw, .int en, .int gl, .int bw, .int sp, .int be, .ref m_kind, .ref m_floor, .ref m_volume, .ref m_size, .ref m_faces, .ref m_when, .ref m_ahead, .ref m_order, .ref m_tried, .ref m_chosen, .ref m_forms, .ref m_warmth, .ref m_degrees, .ref m_thousandths, .ref m_longest, .long ab, .long bl])), (m_warmth, .inl (cI, 40, .inl u_warmth)), (m_degrees, .inl (cI, 6, .inl u_degrees)), (m_thousandths, .inl (cI, 6, .inl u_thousandths))]) (ci := 4) (q0 := 10) hK hP hD hN [10, 5, 6, 7] rfl (by decide) rfl rfl) rfl rfl hl.1 rfl (lv_room (Nat.le_of_ble_eq_true rfl)) dX4_hinders_105 ⟨Nat.le_of_ble_eq_true rfl, Nat.le_of_ble_eq_true rfl⟩) hP hD hS hA [10, 5, 6, 7] [0, 1, 2, 3, 4, 8, 9, 11] rfl rfl (by decide) (by decide) (fun r_37 u H locs w_38 hP hD hS => ?_)
                    have hP : va_P D vwCl [(m_volume, .inl (cI, 10, .inl u_volume)), (m_size, .inl (cI, 10, .inl u_size)), (m_faces, .inl (cI, 10, .inl u_faces)), (m_ahead, .inl (cI, 100, .inl u_ahead)), (m_forms, .inl (cI, 3, .inl u_forms)), (m_kind, .inl (cI, 10, .inl u_kind)), (m_floor, .inl (cI, 10, .inl u_floor)), (m_when, .inl (cI, 10, .inl u_when)), (y0, .inr (4, [.int num, .int pts, .int nw, .int en, .int gl, .int bw, .int sp, .int be, .ref m_kind, .ref m_floor, .ref m_volume, .ref m_size, .ref m_faces, .ref m_when, .ref m_ahead, .ref m_order, .ref m_tried, .ref m_chosen, .ref m_forms, .ref m_warmth, .ref m_degrees, .ref m_thousandths, .ref m_longest, .long ab, .long bl])), (m_warmth, .inl (cI, 40, .inl u_warmth)), (m_degrees, .inl (cI, 6, .inl u_degrees)), (m_thousandths, .inl (cI, 6, .inl u_thousandths))] H := hP
                    have hD : va_D A [(m_volume, .inl (cI, 10, .inl u_volume)), (m_size, .inl (cI, 10, .inl u_size)), (m_faces, .inl (cI, 10, .inl u_faces)), (m_ahead, .inl (cI, 100, .inl u_ahead)), (m_forms, .inl (cI, 3, .inl u_forms)), (m_kind, .inl (cI, 10, .inl u_kind)), (m_floor, .inl (cI, 10, .inl u_floor)), (m_when, .inl (cI, 10, .inl u_when)), (y0, .inr (4, [.int num, .int pts, .int nw, .int en, .int gl, .int bw, .int sp, .int be, .ref m_kind, .ref m_floor, .ref m_volume, .ref m_size, .ref m_faces, .ref m_when, .ref m_ahead, .ref m_order, .ref m_tried, .ref m_chosen, .ref m_forms, .ref m_warmth, .ref m_degrees, .ref m_thousandths, .ref m_longest, .long ab, .long bl])), (m_warmth, .inl (cI, 40, .inl u_warmth)), (m_degrees, .inl (cI, 6, .inl u_degrees)), (m_thousandths, .inl (cI, 6, .inl u_thousandths))] := hD
                    have w_38 : r_37 = hrd u_warmth bw u_degrees u_thousandths pts v_35 day := w_38
                    refine lv_aload_n hx hb dX4_hinders_108 rfl (lv_at hl 0 rfl) ?_
                    refine va_get (D := D) (ci := 4) (v := .int be) (C := RX4) (T := TX4) (N := 25) hx hb hts iw_X4_hinders_4 hown hK hP 8 rfl rfl 7 (by decide) (hts _ wd_X4_hinders_5) (fun _ h9 => h9) rfl dX4_hinders_109 ?_
                    refine lv_icmp_ge (tgt := 117) hx hb dX4_hinders_112 (by decide) (fun c_40 => ?_) (fun c_40 => ?_)
                    · obtain ⟨v_41, ev_41⟩ : ∃ y : Int32, y = k2 + 1 := ⟨_, rfl⟩
                      refine lv_iinc (v := v_41) (lv' := [(3, .int v_41), (0, .ref y0), (1, .int a), (2, .int day)]) hx hb dX4_hinders_117 hl (k := 3) rfl (by rw [ev_41]; rfl) (by decide) rfl (fun ls hl => ?_)
                      refine lv_goto (tgt := 62) hx hb dX4_hinders_120 (by decide) ?_
                      exact hOut _ _ _ _ _ (ih_62 v_41 _ _ _ (pf_X4_hinders_41 num pts bw be u_kind u_size u_when u_warmth u_degrees u_thousandths a day n_2 k n_62 k2 v_14 r_27 r_31 v_35 r_37 v_41 hn0 hn1 hp0 hp6 hdg hwh hz ha0 ha1 hda hn_2 h0k c_1 hn_62 h0k2 c_2 ev_14 c_15 c_29 w_32 c_34 ev_35 fx_36 w_38 c_40 ev_41) (pf_X4_hinders_42 num pts bw be u_kind u_size u_when u_warmth u_degrees u_thousandths a day n_2 k n_62 k2 v_14 r_27 r_31 v_35 r_37 v_41 hn0 hn1 hp0 hp6 hdg hwh hz ha0 ha1 hda hn_2 h0k c_1 hn_62 h0k2 c_2 ev_14 c_15 c_29 w_32 c_34 ev_35 fx_36 w_38 c_40 ev_41) (hP.sub [8, 5, 6, 0, 1, 2, 3, 4, 7, 9, 10, 11] rfl) (hD.sub [8, 5, 6, 0, 1, 2, 3, 4, 7, 9, 10, 11] (by decide) rfl) hS (lv_sub hl [1, 2, 3, 0] rfl))
                    · refine lv_iconst (v := 2) hx hb dX4_hinders_115 (by decide) ?_
                      refine W.widen (k := 0) (n := 0) (Nat.le_of_ble_eq_true rfl) (Nat.le_of_ble_eq_true rfl) ?_
                      exact fi_i () hx hb hr hlocks hK (hP.sub [8, 5, 6, 0, 1, 2, 3, 4, 7, 9, 10, 11] rfl) (hD.sub [8, 5, 6, 0, 1, 2, 3, 4, 7, 9, 10, 11] (by decide) rfl) hS trivial dX4_hinders_116
        exact hOut _ _ _ _ _ (lp_62 (10 - (0 : Int32).toNatClampNeg + 1) 0 _ _ _ (Nat.lt_succ_self _) (pf_X4_hinders_43 num pts u_size u_when u_degrees a day n_2 k hn0 hn1 hp0 hp6 hdg hwh hz ha0 ha1 hda hn_2 h0k c_1) (hP.sub [0, 1, 2, 3, 4, 5, 6, 7, 8, 9, 10, 11] rfl) (hD.sub [0, 1, 2, 3, 4, 5, 6, 7, 8, 9, 10, 11] (by decide) rfl) hS (lv_sub hl [1, 2, 3, 0] rfl))
      · refine lv_aload_n hx hb dX4_hinders_10 rfl (lv_at hl 0 rfl) ?_
        refine va_get (D := D) (ci := 4) (v := .ref m_ahead) (C := RX4) (T := TX4) (N := 25) hx hb hts iw_X4_hinders_4 hown hK hP 0 rfl rfl 14 (by decide) (hts _ wd_X4_hinders_2) (fun _ h9 => h9) rfl dX4_hinders_11 ?_
        refine lv_bipush (v := 10) hx hb dX4_hinders_14 (by decide) ?_
        refine lv_iload_n hx hb dX4_hinders_16 rfl (lv_at hl 3 rfl) ?_
        refine lv_imul hx hb dX4_hinders_17 ?_
        refine lv_topi (fun v_42 ev_42 => ?_)
        refine lv_iload_n hx hb dX4_hinders_18 rfl (lv_at hl 1 rfl) ?_
        refine lv_iadd hx hb dX4_hinders_19 ?_
        refine lv_topi (fun v_43 ev_43 => ?_)
        refine va_iald hx hb hK hP 6 0 rfl rfl (pf_X4_hinders_44 num pts u_size u_when u_degrees a day n_2 k v_42 v_43 hn0 hn1 hp0 hp6 hdg hwh hz ha0 ha1 hda hn_2 h0k c_1 ev_42 ev_43) dX4_hinders_20 ?_
        refine lv_topi (fun v_44 ev_44 => ?_)
        refine lv_istore (lv' := [(4, .int v_44), (0, .ref y0), (1, .int a), (2, .int day), (3, .int k)]) hx hb dX4_hinders_21 hl (by decide) rfl (fun ls hl => ?_)
        refine lv_iload hx hb dX4_hinders_23 (lv_at hl 0 rfl) ?_
        refine lv_iconst (v := (-1)) hx hb dX4_hinders_25 (by decide) ?_
        refine lv_icmp_eq (tgt := 54) hx hb dX4_hinders_26 (by decide) (fun c_45 => ?_) (fun c_45 => ?_)
        · obtain ⟨v_46, ev_46⟩ : ∃ y : Int32, y = k + 1 := ⟨_, rfl⟩
          refine lv_iinc (v := v_46) (lv' := [(3, .int v_46), (4, .int v_44), (0, .ref y0), (1, .int a), (2, .int day)]) hx hb dX4_hinders_54 hl (k := 4) rfl (by rw [ev_46]; rfl) (by decide) rfl (fun ls hl => ?_)
          refine lv_goto (tgt := 2) hx hb dX4_hinders_57 (by decide) ?_
          exact hOut _ _ _ _ _ (ih_2 v_46 _ _ _ (pf_X4_hinders_45 num pts u_size u_ahead u_when u_degrees a day n_2 k v_42 v_43 v_44 v_46 hn0 hn1 hp0 hp6 hdg hwh hz ha0 ha1 hda hn_2 h0k c_1 ev_42 ev_43 ev_44 c_45 ev_46) (pf_X4_hinders_46 num pts u_size u_ahead u_when u_degrees a day n_2 k v_42 v_43 v_44 v_46 hn0 hn1 hp0 hp6 hdg hwh hz ha0 ha1 hda hn_2 h0k c_1 ev_42 ev_43 ev_44 c_45 ev_46) (hP.sub [0, 1, 2, 3, 4, 5, 6, 7, 8, 9, 10, 11] rfl) (hD.sub [0, 1, 2, 3, 4, 5, 6, 7, 8, 9, 10, 11] (by decide) rfl) hS (lv_sub hl [2, 3, 4, 0] rfl))
        · refine lv_aload_n hx hb dX4_hinders_29 rfl (lv_at hl 1 rfl) ?_
          refine va_get (D := D) (ci := 4) (v := .ref m_when) (C := RX4) (T := TX4) (N := 25) hx hb hts iw_X4_hinders_4 hown hK hP 0 rfl rfl 13 (by decide) (hts _ wd_X4_hinders_3) (fun _ h9 => h9) rfl dX4_hinders_30 ?_
          refine lv_iload_n hx hb dX4_hinders_33 rfl (lv_at hl 4 rfl) ?_
          refine va_iald hx hb hK hP 8 0 rfl rfl (pf_X4_hinders_47 num pts u_size u_ahead u_when u_degrees a day n_2 k v_42 v_43 v_44 hn0 hn1 hp0 hp6 hdg hwh hz ha0 ha1 hda hn_2 h0k c_1 ev_42 ev_43 ev_44 c_45) dX4_hinders_34 ?_
          refine lv_topi (fun v_47 ev_47 => ?_)
          refine lv_iconst (v := (-1)) hx hb dX4_hinders_35 (by decide) ?_
          refine lv_icmp_eq (tgt := 52) hx hb dX4_hinders_36 (by decide) (fun c_48 => ?_) (fun c_48 => ?_)
          · refine lv_iconst (v := 1) hx hb dX4_hinders_52 (by decide) ?_
            refine W.widen (k := 0) (n := 0) (Nat.le_of_ble_eq_true rfl) (Nat.le_of_ble_eq_true rfl) ?_
            exact fi_i () hx hb hr hlocks hK (hP.sub [0, 1, 2, 3, 4, 5, 6, 7, 8, 9, 10, 11] rfl) (hD.sub [0, 1, 2, 3, 4, 5, 6, 7, 8, 9, 10, 11] (by decide) rfl) hS trivial dX4_hinders_53
          · refine lv_aload_n hx hb dX4_hinders_39 rfl (lv_at hl 1 rfl) ?_
            refine va_get (D := D) (ci := 4) (v := .ref m_when) (C := RX4) (T := TX4) (N := 25) hx hb hts iw_X4_hinders_4 hown hK hP 0 rfl rfl 13 (by decide) (hts _ wd_X4_hinders_3) (fun _ h9 => h9) rfl dX4_hinders_40 ?_
            refine lv_iload_n hx hb dX4_hinders_43 rfl (lv_at hl 4 rfl) ?_
            refine va_iald hx hb hK hP 8 0 rfl rfl (pf_X4_hinders_48 num pts u_size u_ahead u_when u_degrees a day n_2 k v_42 v_43 v_44 v_47 hn0 hn1 hp0 hp6 hdg hwh hz ha0 ha1 hda hn_2 h0k c_1 ev_42 ev_43 ev_44 c_45 ev_47 c_48) dX4_hinders_44 ?_
            refine lv_topi (fun v_49 ev_49 => ?_)
            refine lv_iload hx hb dX4_hinders_45 (lv_at hl 0 rfl) ?_
            refine lv_iadd hx hb dX4_hinders_47 ?_
            refine lv_topi (fun v_50 ev_50 => ?_)
            refine lv_iload_n hx hb dX4_hinders_48 rfl (lv_at hl 3 rfl) ?_
            refine lv_icmp_le (tgt := 54) hx hb dX4_hinders_49 (by decide) (fun c_51 => ?_) (fun c_51 => ?_)
            · obtain ⟨v_52, ev_52⟩ : ∃ y : Int32, y = k + 1 := ⟨_, rfl⟩
              refine lv_iinc (v := v_52) (lv' := [(3, .int v_52), (4, .int v_44), (0, .ref y0), (1, .int a), (2, .int day)]) hx hb dX4_hinders_54 hl (k := 4) rfl (by rw [ev_52]; rfl) (by decide) rfl (fun ls hl => ?_)
              refine lv_goto (tgt := 2) hx hb dX4_hinders_57 (by decide) ?_
              exact hOut _ _ _ _ _ (ih_2 v_52 _ _ _ (pf_X4_hinders_49 num pts u_size u_ahead u_when u_degrees a day n_2 k v_42 v_43 v_44 v_47 v_49 v_50 v_52 hn0 hn1 hp0 hp6 hdg hwh hz ha0 ha1 hda hn_2 h0k c_1 ev_42 ev_43 ev_44 c_45 ev_47 c_48 ev_49 ev_50 c_51 ev_52) (pf_X4_hinders_50 num pts u_size u_ahead u_when u_degrees a day n_2 k v_42 v_43 v_44 v_47 v_49 v_50 v_52 hn0 hn1 hp0 hp6 hdg hwh hz ha0 ha1 hda hn_2 h0k c_1 ev_42 ev_43 ev_44 c_45 ev_47 c_48 ev_49 ev_50 c_51 ev_52) (hP.sub [0, 1, 2, 3, 4, 5, 6, 7, 8, 9, 10, 11] rfl) (hD.sub [0, 1, 2, 3, 4, 5, 6, 7, 8, 9, 10, 11] (by decide) rfl) hS (lv_sub hl [2, 3, 4, 0] rfl))
            · refine lv_iconst (v := 1) hx hb dX4_hinders_52 (by decide) ?_
              refine W.widen (k := 0) (n := 0) (Nat.le_of_ble_eq_true rfl) (Nat.le_of_ble_eq_true rfl) ?_
              exact fi_i () hx hb hr hlocks hK (hP.sub [0, 1, 2, 3, 4, 5, 6, 7, 8, 9, 10, 11] rfl) (hD.sub [0, 1, 2, 3, 4, 5, 6, 7, 8, 9, 10, 11] (by decide) rfl) hS trivial dX4_hinders_53
  exact hOut _ _ _ _ _ (lp_2 (10 - (0 : Int32).toNatClampNeg + 1) 0 _ _ _ (Nat.lt_succ_self _) (pf_X4_hinders_51 num pts u_size u_when u_degrees a day hn0 hn1 hp0 hp6 hdg hwh hz ha0 ha1 hda) (hP.sub [0, 1, 2, 3, 4, 5, 6, 7, 8, 9, 10, 11] rfl) (hD.sub [0, 1, 2, 3, 4, 5, 6, 7, 8, 9, 10, 11] (by decide) rfl) hS (lv_sub hl [1, 2, 3, 0] rfl))

theorem iw_X4_plans_4 : ∀ w ∈ wsX40, w ∈ wsX4_plans := fun w h => (List.mem_cons_of_mem _ (List.mem_append_right _ h))
theorem wd_X4_plans_1 : (.fieldLink RX4 67 "PourPlanModel" "pieces" "I" : Cond) ∈ wsX4_plans := List.mem_of_getElem? (i := 1) rfl
theorem wd_X4_plans_2 : (.fieldLink RX4 37 "PourPlanModel" "when" "[I" : Cond) ∈ wsX4_plans := List.mem_of_getElem? (i := 2) rfl
theorem wd_X4_plans_3 : (.fieldLink RX4 118 "PourPlanModel" "now" "I" : Cond) ∈ wsX4_plans := List.mem_of_getElem? (i := 3) rfl
set_option maxHeartbeats 1000000 in
theorem pf_X4_plans_1 (num : Int32) (pts : Int32) (nw : Int32) (u_size : Nat → Int32) (u_when : Nat → Int32) (u_degrees : Nat → Int32) (rf : Nat → Int32) (n_2 : Nat) (k : Int32) (wa : Nat → Int32) (n_41 : Nat) (kd : Int32) (wb : Nat → Int32) (n_107 : Nat) (k3 : Int32) (kl : Int32) (hn0 : 0 ≤ num) (hn1 : num ≤ 10) (hp0 : 0 ≤ pts) (hp6 : pts ≤ 6) (hdg : okDeg u_degrees pts) (hwh : okWh u_when) (hz : okSz u_size) (hnw0 : 0 ≤ nw) (hnw1 : nw ≤ 39) (hrf : okRow rf num) (hn_2 : 10 - k.toNatClampNeg < n_2 + 1) (h0k : 0 ≤ k) (hwa : okWh wa) (c_1 : num ≤ k) (hn_41 : 40 - kd.toNatClampNeg < n_41 + 1) (h0d : 0 ≤ kd) (hwb : okWh wb) (c_2 : 40 ≤ kd) (hn_107 : 10 - k3.toNatClampNeg < n_107 + 1) (h0k3 : 0 ≤ k3) (hkl : kl ≤ 40) (c_3 : num ≤ k3) : kl ≤ 40 := by
  grind
set_option maxHeartbeats 1000000 in
theorem pf_X4_plans_2 (num : Int32) (pts : Int32) (nw : Int32) (u_size : Nat → Int32) (u_when : Nat → Int32) (u_degrees : Nat → Int32) (rf : Nat → Int32) (n_2 : Nat) (k : Int32) (wa : Nat → Int32) (n_41 : Nat) (kd : Int32) (wb : Nat → Int32) (n_107 : Nat) (k3 : Int32) (kl : Int32) (hn0 : 0 ≤ num) (hn1 : num ≤ 10) (hp0 : 0 ≤ pts) (hp6 : pts ≤ 6) (hdg : okDeg u_degrees pts) (hwh : okWh u_when) (hz : okSz u_size) (hnw0 : 0 ≤ nw) (hnw1 : nw ≤ 39) (hrf : okRow rf num) (hn_2 : 10 - k.toNatClampNeg < n_2 + 1) (h0k : 0 ≤ k) (hwa : okWh wa) (c_1 : num ≤ k) (hn_41 : 40 - kd.toNatClampNeg < n_41 + 1) (h0d : 0 ≤ kd) (hwb : okWh wb) (c_2 : 40 ≤ kd) (hn_107 : 10 - k3.toNatClampNeg < n_107 + 1) (h0k3 : 0 ≤ k3) (hkl : kl ≤ 40) (c_3 : num ≤ k3) : okWh wb := by
  first
  | (grind)
  | (exact hwb)
set_option maxHeartbeats 1000000 in
theorem pf_X4_plans_3 (num : Int32) (pts : Int32) (nw : Int32) (u_size : Nat → Int32) (u_when : Nat → Int32) (u_degrees : Nat → Int32) (rf : Nat → Int32) (n_2 : Nat) (k : Int32) (wa : Nat → Int32) (n_41 : Nat) (kd : Int32) (wb : Nat → Int32) (n_107 : Nat) (k3 : Int32) (kl : Int32) (hn0 : 0 ≤ num) (hn1 : num ≤ 10) (hp0 : 0 ≤ pts) (hp6 : pts ≤ 6) (hdg : okDeg u_degrees pts) (hwh : okWh u_when) (hz : okSz u_size) (hnw0 : 0 ≤ nw) (hnw1 : nw ≤ 39) (hrf : okRow rf num) (hn_2 : 10 - k.toNatClampNeg < n_2 + 1) (h0k : 0 ≤ k) (hwa : okWh wa) (c_1 : num ≤ k) (hn_41 : 40 - kd.toNatClampNeg < n_41 + 1) (h0d : 0 ≤ kd) (hwb : okWh wb) (c_2 : 40 ≤ kd) (hn_107 : 10 - k3.toNatClampNeg < n_107 + 1) (h0k3 : 0 ≤ k3) (hkl : kl ≤ 40) (c_3 : ¬ num ≤ k3) : vp_in k3 10 := by
  exact vi_in (M := 10) rfl (by grind) (by grind)
set_option maxHeartbeats 1000000 in
theorem pf_X4_plans_4 (num : Int32) (pts : Int32) (nw : Int32) (u_size : Nat → Int32) (u_when : Nat → Int32) (u_degrees : Nat → Int32) (rf : Nat → Int32) (n_2 : Nat) (k : Int32) (wa : Nat → Int32) (n_41 : Nat) (kd : Int32) (wb : Nat → Int32) (n_107 : Nat) (k3 : Int32) (kl : Int32) (v_4 : Int32) (hn0 : 0 ≤ num) (hn1 : num ≤ 10) (hp0 : 0 ≤ pts) (hp6 : pts ≤ 6) (hdg : okDeg u_degrees pts) (hwh : okWh u_when) (hz : okSz u_size) (hnw0 : 0 ≤ nw) (hnw1 : nw ≤ 39) (hrf : okRow rf num) (hn_2 : 10 - k.toNatClampNeg < n_2 + 1) (h0k : 0 ≤ k) (hwa : okWh wa) (c_1 : num ≤ k) (hn_41 : 40 - kd.toNatClampNeg < n_41 + 1) (h0d : 0 ≤ kd) (hwb : okWh wb) (c_2 : 40 ≤ kd) (hn_107 : 10 - k3.toNatClampNeg < n_107 + 1) (h0k3 : 0 ≤ k3) (hkl : kl ≤ 40) (c_3 : ¬ num ≤ k3) (ev_4 : v_4 = wb k3.toNatClampNeg) : -1 ≤ v_4 ∧ v_4 ≤ 39 := by
  have h9 := hwb (k3).toNatClampNeg
  grind
set_option maxHeartbeats 1000000 in
theorem pf_X4_plans_5 (num : Int32) (pts : Int32) (nw : Int32) (u_size : Nat → Int32) (u_when : Nat → Int32) (u_degrees : Nat → Int32) (rf : Nat → Int32) (n_2 : Nat) (k : Int32) (wa : Nat → Int32) (n_41 : Nat) (kd : Int32) (wb : Nat → Int32) (n_107 : Nat) (k3 : Int32) (kl : Int32) (v_4 : Int32) (hn0 : 0 ≤ num) (hn1 : num ≤ 10) (hp0 : 0 ≤ pts) (hp6 : pts ≤ 6) (hdg : okDeg u_degrees pts) (hwh : okWh u_when) (hz : okSz u_size) (hnw0 : 0 ≤ nw) (hnw1 : nw ≤ 39) (hrf : okRow rf num) (hn_2 : 10 - k.toNatClampNeg < n_2 + 1) (h0k : 0 ≤ k) (hwa : okWh wa) (c_1 : num ≤ k) (hn_41 : 40 - kd.toNatClampNeg < n_41 + 1) (h0d : 0 ≤ kd) (hwb : okWh wb) (c_2 : 40 ≤ kd) (hn_107 : 10 - k3.toNatClampNeg < n_107 + 1) (h0k3 : 0 ≤ k3) (hkl : kl ≤ 40) (c_3 : ¬ num ≤ k3) (ev_4 : v_4 = wb k3.toNatClampNeg) (fx_5 : -1 ≤ v_4 ∧ v_4 ≤ 39) (c_6 : ¬ v_4 = (-1)) : vp_in k3 10 := by
  exact vi_in (M := 10) rfl (by grind) (by grind)
set_option maxHeartbeats 1000000 in
theorem pf_X4_plans_6 (num : Int32) (pts : Int32) (nw : Int32) (u_size : Nat → Int32) (u_when : Nat → Int32) (u_degrees : Nat → Int32) (rf : Nat → Int32) (n_2 : Nat) (k : Int32) (wa : Nat → Int32) (n_41 : Nat) (kd : Int32) (wb : Nat → Int32) (n_107 : Nat) (k3 : Int32) (kl : Int32) (v_4 : Int32) (v_7 : Int32) (hn0 : 0 ≤ num) (hn1 : num ≤ 10) (hp0 : 0 ≤ pts) (hp6 : pts ≤ 6) (hdg : okDeg u_degrees pts) (hwh : okWh u_when) (hz : okSz u_size) (hnw0 : 0 ≤ nw) (hnw1 : nw ≤ 39) (hrf : okRow rf num) (hn_2 : 10 - k.toNatClampNeg < n_2 + 1) (h0k : 0 ≤ k) (hwa : okWh wa) (c_1 : num ≤ k) (hn_41 : 40 - kd.toNatClampNeg < n_41 + 1) (h0d : 0 ≤ kd) (hwb : okWh wb) (c_2 : 40 ≤ kd) (hn_107 : 10 - k3.toNatClampNeg < n_107 + 1) (h0k3 : 0 ≤ k3) (hkl : kl ≤ 40) (c_3 : ¬ num ≤ k3) (ev_4 : v_4 = wb k3.toNatClampNeg) (fx_5 : -1 ≤ v_4 ∧ v_4 ≤ 39) (c_6 : ¬ v_4 = (-1)) (ev_7 : v_7 = wb k3.toNatClampNeg) : -1 ≤ v_7 ∧ v_7 ≤ 39 := by
  have h9 := hwb (k3).toNatClampNeg
  grind
set_option maxHeartbeats 1000000 in
theorem pf_X4_plans_7 (num : Int32) (pts : Int32) (nw : Int32) (u_size : Nat → Int32) (u_when : Nat → Int32) (u_degrees : Nat → Int32) (rf : Nat → Int32) (n_2 : Nat) (k : Int32) (wa : Nat → Int32) (n_41 : Nat) (kd : Int32) (wb : Nat → Int32) (n_107 : Nat) (k3 : Int32) (kl : Int32) (v_4 : Int32) (v_7 : Int32) (hn0 : 0 ≤ num) (hn1 : num ≤ 10) (hp0 : 0 ≤ pts) (hp6 : pts ≤ 6) (hdg : okDeg u_degrees pts) (hwh : okWh u_when) (hz : okSz u_size) (hnw0 : 0 ≤ nw) (hnw1 : nw ≤ 39) (hrf : okRow rf num) (hn_2 : 10 - k.toNatClampNeg < n_2 + 1) (h0k : 0 ≤ k) (hwa : okWh wa) (c_1 : num ≤ k) (hn_41 : 40 - kd.toNatClampNeg < n_41 + 1) (h0d : 0 ≤ kd) (hwb : okWh wb) (c_2 : 40 ≤ kd) (hn_107 : 10 - k3.toNatClampNeg < n_107 + 1) (h0k3 : 0 ≤ k3) (hkl : kl ≤ 40) (c_3 : ¬ num ≤ k3) (ev_4 : v_4 = wb k3.toNatClampNeg) (fx_5 : -1 ≤ v_4 ∧ v_4 ≤ 39) (c_6 : ¬ v_4 = (-1)) (ev_7 : v_7 = wb k3.toNatClampNeg) (fx_8 : -1 ≤ v_7 ∧ v_7 ≤ 39) : 0 ≤ pts := by
  grind
set_option maxHeartbeats 1000000 in
theorem pf_X4_plans_8 (num : Int32) (pts : Int32) (nw : Int32) (u_size : Nat → Int32) (u_when : Nat → Int32) (u_degrees : Nat → Int32) (rf : Nat → Int32) (n_2 : Nat) (k : Int32) (wa : Nat → Int32) (n_41 : Nat) (kd : Int32) (wb : Nat → Int32) (n_107 : Nat) (k3 : Int32) (kl : Int32) (v_4 : Int32) (v_7 : Int32) (hn0 : 0 ≤ num) (hn1 : num ≤ 10) (hp0 : 0 ≤ pts) (hp6 : pts ≤ 6) (hdg : okDeg u_degrees pts) (hwh : okWh u_when) (hz : okSz u_size) (hnw0 : 0 ≤ nw) (hnw1 : nw ≤ 39) (hrf : okRow rf num) (hn_2 : 10 - k.toNatClampNeg < n_2 + 1) (h0k : 0 ≤ k) (hwa : okWh wa) (c_1 : num ≤ k) (hn_41 : 40 - kd.toNatClampNeg < n_41 + 1) (h0d : 0 ≤ kd) (hwb : okWh wb) (c_2 : 40 ≤ kd) (hn_107 : 10 - k3.toNatClampNeg < n_107 + 1) (h0k3 : 0 ≤ k3) (hkl : kl ≤ 40) (c_3 : ¬ num ≤ k3) (ev_4 : v_4 = wb k3.toNatClampNeg) (fx_5 : -1 ≤ v_4 ∧ v_4 ≤ 39) (c_6 : ¬ v_4 = (-1)) (ev_7 : v_7 = wb k3.toNatClampNeg) (fx_8 : -1 ≤ v_7 ∧ v_7 ≤ 39) : pts ≤ 6 := by
  grind
set_option maxHeartbeats 1000000 in
theorem pf_X4_plans_9 (num : Int32) (pts : Int32) (nw : Int32) (u_size : Nat → Int32) (u_when : Nat → Int32) (u_degrees : Nat → Int32) (rf : Nat → Int32) (n_2 : Nat) (k : Int32) (wa : Nat → Int32) (n_41 : Nat) (kd : Int32) (wb : Nat → Int32) (n_107 : Nat) (k3 : Int32) (kl : Int32) (v_4 : Int32) (v_7 : Int32) (hn0 : 0 ≤ num) (hn1 : num ≤ 10) (hp0 : 0 ≤ pts) (hp6 : pts ≤ 6) (hdg : okDeg u_degrees pts) (hwh : okWh u_when) (hz : okSz u_size) (hnw0 : 0 ≤ nw) (hnw1 : nw ≤ 39) (hrf : okRow rf num) (hn_2 : 10 - k.toNatClampNeg < n_2 + 1) (h0k : 0 ≤ k) (hwa : okWh wa) (c_1 : num ≤ k) (hn_41 : 40 - kd.toNatClampNeg < n_41 + 1) (h0d : 0 ≤ kd) (hwb : okWh wb) (c_2 : 40 ≤ kd) (hn_107 : 10 - k3.toNatClampNeg < n_107 + 1) (h0k3 : 0 ≤ k3) (hkl : kl ≤ 40) (c_3 : ¬ num ≤ k3) (ev_4 : v_4 = wb k3.toNatClampNeg) (fx_5 : -1 ≤ v_4 ∧ v_4 ≤ 39) (c_6 : ¬ v_4 = (-1)) (ev_7 : v_7 = wb k3.toNatClampNeg) (fx_8 : -1 ≤ v_7 ∧ v_7 ≤ 39) : okDeg u_degrees pts := by
  exact hdg
set_option maxHeartbeats 1000000 in
theorem pf_X4_plans_10 (num : Int32) (pts : Int32) (nw : Int32) (u_size : Nat → Int32) (u_when : Nat → Int32) (u_degrees : Nat → Int32) (rf : Nat → Int32) (n_2 : Nat) (k : Int32) (wa : Nat → Int32) (n_41 : Nat) (kd : Int32) (wb : Nat → Int32) (n_107 : Nat) (k3 : Int32) (kl : Int32) (v_4 : Int32) (v_7 : Int32) (hn0 : 0 ≤ num) (hn1 : num ≤ 10) (hp0 : 0 ≤ pts) (hp6 : pts ≤ 6) (hdg : okDeg u_degrees pts) (hwh : okWh u_when) (hz : okSz u_size) (hnw0 : 0 ≤ nw) (hnw1 : nw ≤ 39) (hrf : okRow rf num) (hn_2 : 10 - k.toNatClampNeg < n_2 + 1) (h0k : 0 ≤ k) (hwa : okWh wa) (c_1 : num ≤ k) (hn_41 : 40 - kd.toNatClampNeg < n_41 + 1) (h0d : 0 ≤ kd) (hwb : okWh wb) (c_2 : 40 ≤ kd) (hn_107 : 10 - k3.toNatClampNeg < n_107 + 1) (h0k3 : 0 ≤ k3) (hkl : kl ≤ 40) (c_3 : ¬ num ≤ k3) (ev_4 : v_4 = wb k3.toNatClampNeg) (fx_5 : -1 ≤ v_4 ∧ v_4 ≤ 39) (c_6 : ¬ v_4 = (-1)) (ev_7 : v_7 = wb k3.toNatClampNeg) (fx_8 : -1 ≤ v_7 ∧ v_7 ≤ 39) : 0 ≤ v_7 := by
  grind
set_option maxHeartbeats 1000000 in
theorem pf_X4_plans_11 (num : Int32) (pts : Int32) (nw : Int32) (u_size : Nat → Int32) (u_when : Nat → Int32) (u_degrees : Nat → Int32) (rf : Nat → Int32) (n_2 : Nat) (k : Int32) (wa : Nat → Int32) (n_41 : Nat) (kd : Int32) (wb : Nat → Int32) (n_107 : Nat) (k3 : Int32) (kl : Int32) (v_4 : Int32) (v_7 : Int32) (hn0 : 0 ≤ num) (hn1 : num ≤ 10) (hp0 : 0 ≤ pts) (hp6 : pts ≤ 6) (hdg : okDeg u_degrees pts) (hwh : okWh u_when) (hz : okSz u_size) (hnw0 : 0 ≤ nw) (hnw1 : nw ≤ 39) (hrf : okRow rf num) (hn_2 : 10 - k.toNatClampNeg < n_2 + 1) (h0k : 0 ≤ k) (hwa : okWh wa) (c_1 : num ≤ k) (hn_41 : 40 - kd.toNatClampNeg < n_41 + 1) (h0d : 0 ≤ kd) (hwb : okWh wb) (c_2 : 40 ≤ kd) (hn_107 : 10 - k3.toNatClampNeg < n_107 + 1) (h0k3 : 0 ≤ k3) (hkl : kl ≤ 40) (c_3 : ¬ num ≤ k3) (ev_4 : v_4 = wb k3.toNatClampNeg) (fx_5 : -1 ≤ v_4 ∧ v_4 ≤ 39) (c_6 : ¬ v_4 = (-1)) (ev_7 : v_7 = wb k3.toNatClampNeg) (fx_8 : -1 ≤ v_7 ∧ v_7 ≤ 39) : v_7 ≤ 39 := by
  grind
set_option maxHeartbeats 1000000 in
theorem pf_X4_plans_12 (num : Int32) (pts : Int32) (nw : Int32) (u_size : Nat → Int32) (u_when : Nat → Int32) (u_degrees : Nat → Int32) (rf : Nat → Int32) (n_2 : Nat) (k : Int32) (wa : Nat → Int32) (n_41 : Nat) (kd : Int32) (wb : Nat → Int32) (n_107 : Nat) (k3 : Int32) (kl : Int32) (v_4 : Int32) (v_7 : Int32) (r_9 : Int32) (v_13 : Int32) (hn0 : 0 ≤ num) (hn1 : num ≤ 10) (hp0 : 0 ≤ pts) (hp6 : pts ≤ 6) (hdg : okDeg u_degrees pts) (hwh : okWh u_when) (hz : okSz u_size) (hnw0 : 0 ≤ nw) (hnw1 : nw ≤ 39) (hrf : okRow rf num) (hn_2 : 10 - k.toNatClampNeg < n_2 + 1) (h0k : 0 ≤ k) (hwa : okWh wa) (c_1 : num ≤ k) (hn_41 : 40 - kd.toNatClampNeg < n_41 + 1) (h0d : 0 ≤ kd) (hwb : okWh wb) (c_2 : 40 ≤ kd) (hn_107 : 10 - k3.toNatClampNeg < n_107 + 1) (h0k3 : 0 ≤ k3) (hkl : kl ≤ 40) (c_3 : ¬ num ≤ k3) (ev_4 : v_4 = wb k3.toNatClampNeg) (fx_5 : -1 ≤ v_4 ∧ v_4 ≤ 39) (c_6 : ¬ v_4 = (-1)) (ev_7 : v_7 = wb k3.toNatClampNeg) (fx_8 : -1 ≤ v_7 ∧ v_7 ≤ 39) (w_10 : r_9 ≤ 40) (c_12 : r_9 ≤ kl) (ev_13 : v_13 = k3 + 1) : 10 - v_13.toNatClampNeg < n_107 := by
  exact ms_dec (L := 10) (k := k3) (by grind) (show ¬ (10 : Int32) ≤ k3 by grind) (by omega) (by assumption) hn_107
set_option maxHeartbeats 1000000 in
theorem pf_X4_plans_13 (num : Int32) (pts : Int32) (nw : Int32) (u_size : Nat → Int32) (u_when : Nat → Int32) (u_degrees : Nat → Int32) (rf : Nat → Int32) (n_2 : Nat) (k : Int32) (wa : Nat → Int32) (n_41 : Nat) (kd : Int32) (wb : Nat → Int32) (n_107 : Nat) (k3 : Int32) (kl : Int32) (v_4 : Int32) (v_7 : Int32) (r_9 : Int32) (v_13 : Int32) (hn0 : 0 ≤ num) (hn1 : num ≤ 10) (hp0 : 0 ≤ pts) (hp6 : pts ≤ 6) (hdg : okDeg u_degrees pts) (hwh : okWh u_when) (hz : okSz u_size) (hnw0 : 0 ≤ nw) (hnw1 : nw ≤ 39) (hrf : okRow rf num) (hn_2 : 10 - k.toNatClampNeg < n_2 + 1) (h0k : 0 ≤ k) (hwa : okWh wa) (c_1 : num ≤ k) (hn_41 : 40 - kd.toNatClampNeg < n_41 + 1) (h0d : 0 ≤ kd) (hwb : okWh wb) (c_2 : 40 ≤ kd) (hn_107 : 10 - k3.toNatClampNeg < n_107 + 1) (h0k3 : 0 ≤ k3) (hkl : kl ≤ 40) (c_3 : ¬ num ≤ k3) (ev_4 : v_4 = wb k3.toNatClampNeg) (fx_5 : -1 ≤ v_4 ∧ v_4 ≤ 39) (c_6 : ¬ v_4 = (-1)) (ev_7 : v_7 = wb k3.toNatClampNeg) (fx_8 : -1 ≤ v_7 ∧ v_7 ≤ 39) (w_10 : r_9 ≤ 40) (c_12 : r_9 ≤ kl) (ev_13 : v_13 = k3 + 1) : 0 ≤ v_13 := by
  grind
set_option maxHeartbeats 1000000 in
theorem pf_X4_plans_14 (num : Int32) (pts : Int32) (nw : Int32) (u_size : Nat → Int32) (u_when : Nat → Int32) (u_degrees : Nat → Int32) (rf : Nat → Int32) (n_2 : Nat) (k : Int32) (wa : Nat → Int32) (n_41 : Nat) (kd : Int32) (wb : Nat → Int32) (n_107 : Nat) (k3 : Int32) (kl : Int32) (v_4 : Int32) (v_7 : Int32) (r_9 : Int32) (v_13 : Int32) (hn0 : 0 ≤ num) (hn1 : num ≤ 10) (hp0 : 0 ≤ pts) (hp6 : pts ≤ 6) (hdg : okDeg u_degrees pts) (hwh : okWh u_when) (hz : okSz u_size) (hnw0 : 0 ≤ nw) (hnw1 : nw ≤ 39) (hrf : okRow rf num) (hn_2 : 10 - k.toNatClampNeg < n_2 + 1) (h0k : 0 ≤ k) (hwa : okWh wa) (c_1 : num ≤ k) (hn_41 : 40 - kd.toNatClampNeg < n_41 + 1) (h0d : 0 ≤ kd) (hwb : okWh wb) (c_2 : 40 ≤ kd) (hn_107 : 10 - k3.toNatClampNeg < n_107 + 1) (h0k3 : 0 ≤ k3) (hkl : kl ≤ 40) (c_3 : ¬ num ≤ k3) (ev_4 : v_4 = wb k3.toNatClampNeg) (fx_5 : -1 ≤ v_4 ∧ v_4 ≤ 39) (c_6 : ¬ v_4 = (-1)) (ev_7 : v_7 = wb k3.toNatClampNeg) (fx_8 : -1 ≤ v_7 ∧ v_7 ≤ 39) (w_10 : r_9 ≤ 40) (c_12 : r_9 ≤ kl) (ev_13 : v_13 = k3 + 1) : kl ≤ 40 := by
  grind
set_option maxHeartbeats 1000000 in
theorem pf_X4_plans_15 (num : Int32) (pts : Int32) (nw : Int32) (u_size : Nat → Int32) (u_when : Nat → Int32) (u_degrees : Nat → Int32) (rf : Nat → Int32) (n_2 : Nat) (k : Int32) (wa : Nat → Int32) (n_41 : Nat) (kd : Int32) (wb : Nat → Int32) (n_107 : Nat) (k3 : Int32) (kl : Int32) (v_4 : Int32) (v_7 : Int32) (r_9 : Int32) (v_14 : Int32) (hn0 : 0 ≤ num) (hn1 : num ≤ 10) (hp0 : 0 ≤ pts) (hp6 : pts ≤ 6) (hdg : okDeg u_degrees pts) (hwh : okWh u_when) (hz : okSz u_size) (hnw0 : 0 ≤ nw) (hnw1 : nw ≤ 39) (hrf : okRow rf num) (hn_2 : 10 - k.toNatClampNeg < n_2 + 1) (h0k : 0 ≤ k) (hwa : okWh wa) (c_1 : num ≤ k) (hn_41 : 40 - kd.toNatClampNeg < n_41 + 1) (h0d : 0 ≤ kd) (hwb : okWh wb) (c_2 : 40 ≤ kd) (hn_107 : 10 - k3.toNatClampNeg < n_107 + 1) (h0k3 : 0 ≤ k3) (hkl : kl ≤ 40) (c_3 : ¬ num ≤ k3) (ev_4 : v_4 = wb k3.toNatClampNeg) (fx_5 : -1 ≤ v_4 ∧ v_4 ≤ 39) (c_6 : ¬ v_4 = (-1)) (ev_7 : v_7 = wb k3.toNatClampNeg) (fx_8 : -1 ≤ v_7 ∧ v_7 ≤ 39) (w_10 : r_9 ≤ 40) (c_12 : ¬ r_9 ≤ kl) (ev_14 : v_14 = k3 + 1) : 10 - v_14.toNatClampNeg < n_107 := by
  exact ms_dec (L := 10) (k := k3) (by grind) (show ¬ (10 : Int32) ≤ k3 by grind) (by omega) (by assumption) hn_107
set_option maxHeartbeats 1000000 in
theorem pf_X4_plans_16 (num : Int32) (pts : Int32) (nw : Int32) (u_size : Nat → Int32) (u_when : Nat → Int32) (u_degrees : Nat → Int32) (rf : Nat → Int32) (n_2 : Nat) (k : Int32) (wa : Nat → Int32) (n_41 : Nat) (kd : Int32) (wb : Nat → Int32) (n_107 : Nat) (k3 : Int32) (kl : Int32) (v_4 : Int32) (v_7 : Int32) (r_9 : Int32) (v_14 : Int32) (hn0 : 0 ≤ num) (hn1 : num ≤ 10) (hp0 : 0 ≤ pts) (hp6 : pts ≤ 6) (hdg : okDeg u_degrees pts) (hwh : okWh u_when) (hz : okSz u_size) (hnw0 : 0 ≤ nw) (hnw1 : nw ≤ 39) (hrf : okRow rf num) (hn_2 : 10 - k.toNatClampNeg < n_2 + 1) (h0k : 0 ≤ k) (hwa : okWh wa) (c_1 : num ≤ k) (hn_41 : 40 - kd.toNatClampNeg < n_41 + 1) (h0d : 0 ≤ kd) (hwb : okWh wb) (c_2 : 40 ≤ kd) (hn_107 : 10 - k3.toNatClampNeg < n_107 + 1) (h0k3 : 0 ≤ k3) (hkl : kl ≤ 40) (c_3 : ¬ num ≤ k3) (ev_4 : v_4 = wb k3.toNatClampNeg) (fx_5 : -1 ≤ v_4 ∧ v_4 ≤ 39) (c_6 : ¬ v_4 = (-1)) (ev_7 : v_7 = wb k3.toNatClampNeg) (fx_8 : -1 ≤ v_7 ∧ v_7 ≤ 39) (w_10 : r_9 ≤ 40) (c_12 : ¬ r_9 ≤ kl) (ev_14 : v_14 = k3 + 1) : 0 ≤ v_14 := by
  grind
set_option maxHeartbeats 1000000 in
theorem pf_X4_plans_17 (num : Int32) (pts : Int32) (nw : Int32) (u_size : Nat → Int32) (u_when : Nat → Int32) (u_degrees : Nat → Int32) (rf : Nat → Int32) (n_2 : Nat) (k : Int32) (wa : Nat → Int32) (n_41 : Nat) (kd : Int32) (wb : Nat → Int32) (n_107 : Nat) (k3 : Int32) (kl : Int32) (v_4 : Int32) (v_7 : Int32) (r_9 : Int32) (v_14 : Int32) (hn0 : 0 ≤ num) (hn1 : num ≤ 10) (hp0 : 0 ≤ pts) (hp6 : pts ≤ 6) (hdg : okDeg u_degrees pts) (hwh : okWh u_when) (hz : okSz u_size) (hnw0 : 0 ≤ nw) (hnw1 : nw ≤ 39) (hrf : okRow rf num) (hn_2 : 10 - k.toNatClampNeg < n_2 + 1) (h0k : 0 ≤ k) (hwa : okWh wa) (c_1 : num ≤ k) (hn_41 : 40 - kd.toNatClampNeg < n_41 + 1) (h0d : 0 ≤ kd) (hwb : okWh wb) (c_2 : 40 ≤ kd) (hn_107 : 10 - k3.toNatClampNeg < n_107 + 1) (h0k3 : 0 ≤ k3) (hkl : kl ≤ 40) (c_3 : ¬ num ≤ k3) (ev_4 : v_4 = wb k3.toNatClampNeg) (fx_5 : -1 ≤ v_4 ∧ v_4 ≤ 39) (c_6 : ¬ v_4 = (-1)) (ev_7 : v_7 = wb k3.toNatClampNeg) (fx_8 : -1 ≤ v_7 ∧ v_7 ≤ 39) (w_10 : r_9 ≤ 40) (c_12 : ¬ r_9 ≤ kl) (ev_14 : v_14 = k3 + 1) : r_9 ≤ 40 := by
  grind
set_option maxHeartbeats 1000000 in
theorem pf_X4_plans_18 (num : Int32) (pts : Int32) (nw : Int32) (u_size : Nat → Int32) (u_when : Nat → Int32) (u_degrees : Nat → Int32) (rf : Nat → Int32) (n_2 : Nat) (k : Int32) (wa : Nat → Int32) (n_41 : Nat) (kd : Int32) (wb : Nat → Int32) (n_107 : Nat) (k3 : Int32) (kl : Int32) (v_4 : Int32) (v_16 : Int32) (hn0 : 0 ≤ num) (hn1 : num ≤ 10) (hp0 : 0 ≤ pts) (hp6 : pts ≤ 6) (hdg : okDeg u_degrees pts) (hwh : okWh u_when) (hz : okSz u_size) (hnw0 : 0 ≤ nw) (hnw1 : nw ≤ 39) (hrf : okRow rf num) (hn_2 : 10 - k.toNatClampNeg < n_2 + 1) (h0k : 0 ≤ k) (hwa : okWh wa) (c_1 : num ≤ k) (hn_41 : 40 - kd.toNatClampNeg < n_41 + 1) (h0d : 0 ≤ kd) (hwb : okWh wb) (c_2 : 40 ≤ kd) (hn_107 : 10 - k3.toNatClampNeg < n_107 + 1) (h0k3 : 0 ≤ k3) (hkl : kl ≤ 40) (c_3 : ¬ num ≤ k3) (ev_4 : v_4 = wb k3.toNatClampNeg) (fx_5 : -1 ≤ v_4 ∧ v_4 ≤ 39) (c_6 : v_4 = (-1)) (c_15 : 40 ≤ kl) (ev_16 : v_16 = k3 + 1) : 10 - v_16.toNatClampNeg < n_107 := by
  exact ms_dec (L := 10) (k := k3) (by grind) (show ¬ (10 : Int32) ≤ k3 by grind) (by omega) (by assumption) hn_107
set_option maxHeartbeats 1000000 in
theorem pf_X4_plans_19 (num : Int32) (pts : Int32) (nw : Int32) (u_size : Nat → Int32) (u_when : Nat → Int32) (u_degrees : Nat → Int32) (rf : Nat → Int32) (n_2 : Nat) (k : Int32) (wa : Nat → Int32) (n_41 : Nat) (kd : Int32) (wb : Nat → Int32) (n_107 : Nat) (k3 : Int32) (kl : Int32) (v_4 : Int32) (v_16 : Int32) (hn0 : 0 ≤ num) (hn1 : num ≤ 10) (hp0 : 0 ≤ pts) (hp6 : pts ≤ 6) (hdg : okDeg u_degrees pts) (hwh : okWh u_when) (hz : okSz u_size) (hnw0 : 0 ≤ nw) (hnw1 : nw ≤ 39) (hrf : okRow rf num) (hn_2 : 10 - k.toNatClampNeg < n_2 + 1) (h0k : 0 ≤ k) (hwa : okWh wa) (c_1 : num ≤ k) (hn_41 : 40 - kd.toNatClampNeg < n_41 + 1) (h0d : 0 ≤ kd) (hwb : okWh wb) (c_2 : 40 ≤ kd) (hn_107 : 10 - k3.toNatClampNeg < n_107 + 1) (h0k3 : 0 ≤ k3) (hkl : kl ≤ 40) (c_3 : ¬ num ≤ k3) (ev_4 : v_4 = wb k3.toNatClampNeg) (fx_5 : -1 ≤ v_4 ∧ v_4 ≤ 39) (c_6 : v_4 = (-1)) (c_15 : 40 ≤ kl) (ev_16 : v_16 = k3 + 1) : 0 ≤ v_16 := by
  grind
set_option maxHeartbeats 1000000 in
theorem pf_X4_plans_20 (num : Int32) (pts : Int32) (nw : Int32) (u_size : Nat → Int32) (u_when : Nat → Int32) (u_degrees : Nat → Int32) (rf : Nat → Int32) (n_2 : Nat) (k : Int32) (wa : Nat → Int32) (n_41 : Nat) (kd : Int32) (wb : Nat → Int32) (n_107 : Nat) (k3 : Int32) (kl : Int32) (v_4 : Int32) (v_16 : Int32) (hn0 : 0 ≤ num) (hn1 : num ≤ 10) (hp0 : 0 ≤ pts) (hp6 : pts ≤ 6) (hdg : okDeg u_degrees pts) (hwh : okWh u_when) (hz : okSz u_size) (hnw0 : 0 ≤ nw) (hnw1 : nw ≤ 39) (hrf : okRow rf num) (hn_2 : 10 - k.toNatClampNeg < n_2 + 1) (h0k : 0 ≤ k) (hwa : okWh wa) (c_1 : num ≤ k) (hn_41 : 40 - kd.toNatClampNeg < n_41 + 1) (h0d : 0 ≤ kd) (hwb : okWh wb) (c_2 : 40 ≤ kd) (hn_107 : 10 - k3.toNatClampNeg < n_107 + 1) (h0k3 : 0 ≤ k3) (hkl : kl ≤ 40) (c_3 : ¬ num ≤ k3) (ev_4 : v_4 = wb k3.toNatClampNeg) (fx_5 : -1 ≤ v_4 ∧ v_4 ≤ 39) (c_6 : v_4 = (-1)) (c_15 : 40 ≤ kl) (ev_16 : v_16 = k3 + 1) : kl ≤ 40 := by
  grind
set_option maxHeartbeats 1000000 in
theorem pf_X4_plans_21 (num : Int32) (pts : Int32) (nw : Int32) (u_size : Nat → Int32) (u_when : Nat → Int32) (u_degrees : Nat → Int32) (rf : Nat → Int32) (n_2 : Nat) (k : Int32) (wa : Nat → Int32) (n_41 : Nat) (kd : Int32) (wb : Nat → Int32) (n_107 : Nat) (k3 : Int32) (kl : Int32) (v_4 : Int32) (v_17 : Int32) (hn0 : 0 ≤ num) (hn1 : num ≤ 10) (hp0 : 0 ≤ pts) (hp6 : pts ≤ 6) (hdg : okDeg u_degrees pts) (hwh : okWh u_when) (hz : okSz u_size) (hnw0 : 0 ≤ nw) (hnw1 : nw ≤ 39) (hrf : okRow rf num) (hn_2 : 10 - k.toNatClampNeg < n_2 + 1) (h0k : 0 ≤ k) (hwa : okWh wa) (c_1 : num ≤ k) (hn_41 : 40 - kd.toNatClampNeg < n_41 + 1) (h0d : 0 ≤ kd) (hwb : okWh wb) (c_2 : 40 ≤ kd) (hn_107 : 10 - k3.toNatClampNeg < n_107 + 1) (h0k3 : 0 ≤ k3) (hkl : kl ≤ 40) (c_3 : ¬ num ≤ k3) (ev_4 : v_4 = wb k3.toNatClampNeg) (fx_5 : -1 ≤ v_4 ∧ v_4 ≤ 39) (c_6 : v_4 = (-1)) (c_15 : ¬ 40 ≤ kl) (ev_17 : v_17 = k3 + 1) : 10 - v_17.toNatClampNeg < n_107 := by
  exact ms_dec (L := 10) (k := k3) (by grind) (show ¬ (10 : Int32) ≤ k3 by grind) (by omega) (by assumption) hn_107
set_option maxHeartbeats 1000000 in
theorem pf_X4_plans_22 (num : Int32) (pts : Int32) (nw : Int32) (u_size : Nat → Int32) (u_when : Nat → Int32) (u_degrees : Nat → Int32) (rf : Nat → Int32) (n_2 : Nat) (k : Int32) (wa : Nat → Int32) (n_41 : Nat) (kd : Int32) (wb : Nat → Int32) (n_107 : Nat) (k3 : Int32) (kl : Int32) (v_4 : Int32) (v_17 : Int32) (hn0 : 0 ≤ num) (hn1 : num ≤ 10) (hp0 : 0 ≤ pts) (hp6 : pts ≤ 6) (hdg : okDeg u_degrees pts) (hwh : okWh u_when) (hz : okSz u_size) (hnw0 : 0 ≤ nw) (hnw1 : nw ≤ 39) (hrf : okRow rf num) (hn_2 : 10 - k.toNatClampNeg < n_2 + 1) (h0k : 0 ≤ k) (hwa : okWh wa) (c_1 : num ≤ k) (hn_41 : 40 - kd.toNatClampNeg < n_41 + 1) (h0d : 0 ≤ kd) (hwb : okWh wb) (c_2 : 40 ≤ kd) (hn_107 : 10 - k3.toNatClampNeg < n_107 + 1) (h0k3 : 0 ≤ k3) (hkl : kl ≤ 40) (c_3 : ¬ num ≤ k3) (ev_4 : v_4 = wb k3.toNatClampNeg) (fx_5 : -1 ≤ v_4 ∧ v_4 ≤ 39) (c_6 : v_4 = (-1)) (c_15 : ¬ 40 ≤ kl) (ev_17 : v_17 = k3 + 1) : 0 ≤ v_17 := by
  grind
set_option maxHeartbeats 1000000 in
theorem pf_X4_plans_23 (num : Int32) (pts : Int32) (nw : Int32) (u_size : Nat → Int32) (u_when : Nat → Int32) (u_degrees : Nat → Int32) (rf : Nat → Int32) (n_2 : Nat) (k : Int32) (wa : Nat → Int32) (n_41 : Nat) (kd : Int32) (wb : Nat → Int32) (n_107 : Nat) (k3 : Int32) (kl : Int32) (v_4 : Int32) (v_17 : Int32) (hn0 : 0 ≤ num) (hn1 : num ≤ 10) (hp0 : 0 ≤ pts) (hp6 : pts ≤ 6) (hdg : okDeg u_degrees pts) (hwh : okWh u_when) (hz : okSz u_size) (hnw0 : 0 ≤ nw) (hnw1 : nw ≤ 39) (hrf : okRow rf num) (hn_2 : 10 - k.toNatClampNeg < n_2 + 1) (h0k : 0 ≤ k) (hwa : okWh wa) (c_1 : num ≤ k) (hn_41 : 40 - kd.toNatClampNeg < n_41 + 1) (h0d : 0 ≤ kd) (hwb : okWh wb) (c_2 : 40 ≤ kd) (hn_107 : 10 - k3.toNatClampNeg < n_107 + 1) (h0k3 : 0 ≤ k3) (hkl : kl ≤ 40) (c_3 : ¬ num ≤ k3) (ev_4 : v_4 = wb k3.toNatClampNeg) (fx_5 : -1 ≤ v_4 ∧ v_4 ≤ 39) (c_6 : v_4 = (-1)) (c_15 : ¬ 40 ≤ kl) (ev_17 : v_17 = k3 + 1) : (40 : Int32) ≤ 40 := by
  grind
set_option maxHeartbeats 1000000 in
theorem pf_X4_plans_24 (num : Int32) (pts : Int32) (nw : Int32) (u_size : Nat → Int32) (u_when : Nat → Int32) (u_degrees : Nat → Int32) (rf : Nat → Int32) (n_2 : Nat) (k : Int32) (wa : Nat → Int32) (n_41 : Nat) (kd : Int32) (wb : Nat → Int32) (hn0 : 0 ≤ num) (hn1 : num ≤ 10) (hp0 : 0 ≤ pts) (hp6 : pts ≤ 6) (hdg : okDeg u_degrees pts) (hwh : okWh u_when) (hz : okSz u_size) (hnw0 : 0 ≤ nw) (hnw1 : nw ≤ 39) (hrf : okRow rf num) (hn_2 : 10 - k.toNatClampNeg < n_2 + 1) (h0k : 0 ≤ k) (hwa : okWh wa) (c_1 : num ≤ k) (hn_41 : 40 - kd.toNatClampNeg < n_41 + 1) (h0d : 0 ≤ kd) (hwb : okWh wb) (c_2 : 40 ≤ kd) : 0 ≤ (0 : Int32) := by
  grind
set_option maxHeartbeats 1000000 in
theorem pf_X4_plans_25 (num : Int32) (pts : Int32) (nw : Int32) (u_size : Nat → Int32) (u_when : Nat → Int32) (u_degrees : Nat → Int32) (rf : Nat → Int32) (n_2 : Nat) (k : Int32) (wa : Nat → Int32) (n_41 : Nat) (kd : Int32) (wb : Nat → Int32) (hn0 : 0 ≤ num) (hn1 : num ≤ 10) (hp0 : 0 ≤ pts) (hp6 : pts ≤ 6) (hdg : okDeg u_degrees pts) (hwh : okWh u_when) (hz : okSz u_size) (hnw0 : 0 ≤ nw) (hnw1 : nw ≤ 39) (hrf : okRow rf num) (hn_2 : 10 - k.toNatClampNeg < n_2 + 1) (h0k : 0 ≤ k) (hwa : okWh wa) (c_1 : num ≤ k) (hn_41 : 40 - kd.toNatClampNeg < n_41 + 1) (h0d : 0 ≤ kd) (hwb : okWh wb) (c_2 : 40 ≤ kd) : (0 : Int32) ≤ 40 := by
  grind
set_option maxHeartbeats 1000000 in
theorem pf_X4_plans_26 (num : Int32) (pts : Int32) (nw : Int32) (u_size : Nat → Int32) (u_when : Nat → Int32) (u_degrees : Nat → Int32) (rf : Nat → Int32) (n_2 : Nat) (k : Int32) (wa : Nat → Int32) (n_41 : Nat) (kd : Int32) (wb : Nat → Int32) (n_49 : Nat) (k2 : Int32) (wc : Nat → Int32) (v_19 : Int32) (hn0 : 0 ≤ num) (hn1 : num ≤ 10) (hp0 : 0 ≤ pts) (hp6 : pts ≤ 6) (hdg : okDeg u_degrees pts) (hwh : okWh u_when) (hz : okSz u_size) (hnw0 : 0 ≤ nw) (hnw1 : nw ≤ 39) (hrf : okRow rf num) (hn_2 : 10 - k.toNatClampNeg < n_2 + 1) (h0k : 0 ≤ k) (hwa : okWh wa) (c_1 : num ≤ k) (hn_41 : 40 - kd.toNatClampNeg < n_41 + 1) (h0d : 0 ≤ kd) (hwb : okWh wb) (c_2 : ¬ 40 ≤ kd) (hn_49 : 10 - k2.toNatClampNeg < n_49 + 1) (h0k2 : 0 ≤ k2) (hwc : okWh wc) (c_18 : num ≤ k2) (ev_19 : v_19 = kd + 1) : 40 - v_19.toNatClampNeg < n_41 := by
  exact ms_dec (L := 40) (k := kd) (by grind) (show ¬ (40 : Int32) ≤ kd by grind) (by omega) (by assumption) hn_41
set_option maxHeartbeats 1000000 in
theorem pf_X4_plans_27 (num : Int32) (pts : Int32) (nw : Int32) (u_size : Nat → Int32) (u_when : Nat → Int32) (u_degrees : Nat → Int32) (rf : Nat → Int32) (n_2 : Nat) (k : Int32) (wa : Nat → Int32) (n_41 : Nat) (kd : Int32) (wb : Nat → Int32) (n_49 : Nat) (k2 : Int32) (wc : Nat → Int32) (v_19 : Int32) (hn0 : 0 ≤ num) (hn1 : num ≤ 10) (hp0 : 0 ≤ pts) (hp6 : pts ≤ 6) (hdg : okDeg u_degrees pts) (hwh : okWh u_when) (hz : okSz u_size) (hnw0 : 0 ≤ nw) (hnw1 : nw ≤ 39) (hrf : okRow rf num) (hn_2 : 10 - k.toNatClampNeg < n_2 + 1) (h0k : 0 ≤ k) (hwa : okWh wa) (c_1 : num ≤ k) (hn_41 : 40 - kd.toNatClampNeg < n_41 + 1) (h0d : 0 ≤ kd) (hwb : okWh wb) (c_2 : ¬ 40 ≤ kd) (hn_49 : 10 - k2.toNatClampNeg < n_49 + 1) (h0k2 : 0 ≤ k2) (hwc : okWh wc) (c_18 : num ≤ k2) (ev_19 : v_19 = kd + 1) : 0 ≤ v_19 := by
  grind
set_option maxHeartbeats 1000000 in
theorem pf_X4_plans_28 (num : Int32) (pts : Int32) (nw : Int32) (u_size : Nat → Int32) (u_when : Nat → Int32) (u_degrees : Nat → Int32) (rf : Nat → Int32) (n_2 : Nat) (k : Int32) (wa : Nat → Int32) (n_41 : Nat) (kd : Int32) (wb : Nat → Int32) (n_49 : Nat) (k2 : Int32) (wc : Nat → Int32) (v_19 : Int32) (hn0 : 0 ≤ num) (hn1 : num ≤ 10) (hp0 : 0 ≤ pts) (hp6 : pts ≤ 6) (hdg : okDeg u_degrees pts) (hwh : okWh u_when) (hz : okSz u_size) (hnw0 : 0 ≤ nw) (hnw1 : nw ≤ 39) (hrf : okRow rf num) (hn_2 : 10 - k.toNatClampNeg < n_2 + 1) (h0k : 0 ≤ k) (hwa : okWh wa) (c_1 : num ≤ k) (hn_41 : 40 - kd.toNatClampNeg < n_41 + 1) (h0d : 0 ≤ kd) (hwb : okWh wb) (c_2 : ¬ 40 ≤ kd) (hn_49 : 10 - k2.toNatClampNeg < n_49 + 1) (h0k2 : 0 ≤ k2) (hwc : okWh wc) (c_18 : num ≤ k2) (ev_19 : v_19 = kd + 1) : okWh wc := by
  exact hwc
set_option maxHeartbeats 1000000 in
theorem pf_X4_plans_29 (num : Int32) (pts : Int32) (nw : Int32) (u_size : Nat → Int32) (u_when : Nat → Int32) (u_degrees : Nat → Int32) (rf : Nat → Int32) (n_2 : Nat) (k : Int32) (wa : Nat → Int32) (n_41 : Nat) (kd : Int32) (wb : Nat → Int32) (n_49 : Nat) (k2 : Int32) (wc : Nat → Int32) (hn0 : 0 ≤ num) (hn1 : num ≤ 10) (hp0 : 0 ≤ pts) (hp6 : pts ≤ 6) (hdg : okDeg u_degrees pts) (hwh : okWh u_when) (hz : okSz u_size) (hnw0 : 0 ≤ nw) (hnw1 : nw ≤ 39) (hrf : okRow rf num) (hn_2 : 10 - k.toNatClampNeg < n_2 + 1) (h0k : 0 ≤ k) (hwa : okWh wa) (c_1 : num ≤ k) (hn_41 : 40 - kd.toNatClampNeg < n_41 + 1) (h0d : 0 ≤ kd) (hwb : okWh wb) (c_2 : ¬ 40 ≤ kd) (hn_49 : 10 - k2.toNatClampNeg < n_49 + 1) (h0k2 : 0 ≤ k2) (hwc : okWh wc) (c_18 : ¬ num ≤ k2) : vp_in k2 10 := by
  exact vi_in (M := 10) rfl (by grind) (by grind)
set_option maxHeartbeats 1000000 in
theorem pf_X4_plans_30 (num : Int32) (pts : Int32) (nw : Int32) (u_size : Nat → Int32) (u_when : Nat → Int32) (u_degrees : Nat → Int32) (rf : Nat → Int32) (n_2 : Nat) (k : Int32) (wa : Nat → Int32) (n_41 : Nat) (kd : Int32) (wb : Nat → Int32) (n_49 : Nat) (k2 : Int32) (wc : Nat → Int32) (v_20 : Int32) (hn0 : 0 ≤ num) (hn1 : num ≤ 10) (hp0 : 0 ≤ pts) (hp6 : pts ≤ 6) (hdg : okDeg u_degrees pts) (hwh : okWh u_when) (hz : okSz u_size) (hnw0 : 0 ≤ nw) (hnw1 : nw ≤ 39) (hrf : okRow rf num) (hn_2 : 10 - k.toNatClampNeg < n_2 + 1) (h0k : 0 ≤ k) (hwa : okWh wa) (c_1 : num ≤ k) (hn_41 : 40 - kd.toNatClampNeg < n_41 + 1) (h0d : 0 ≤ kd) (hwb : okWh wb) (c_2 : ¬ 40 ≤ kd) (hn_49 : 10 - k2.toNatClampNeg < n_49 + 1) (h0k2 : 0 ≤ k2) (hwc : okWh wc) (c_18 : ¬ num ≤ k2) (ev_20 : v_20 = rf k2.toNatClampNeg) : 0 ≤ v_20 ∧ v_20 < num := by
  have h9 := okRow_at hrf (k := k2) (by grind) (by grind)
  grind
set_option maxHeartbeats 1000000 in
theorem pf_X4_plans_31 (num : Int32) (pts : Int32) (nw : Int32) (u_size : Nat → Int32) (u_when : Nat → Int32) (u_degrees : Nat → Int32) (rf : Nat → Int32) (n_2 : Nat) (k : Int32) (wa : Nat → Int32) (n_41 : Nat) (kd : Int32) (wb : Nat → Int32) (n_49 : Nat) (k2 : Int32) (wc : Nat → Int32) (v_20 : Int32) (hn0 : 0 ≤ num) (hn1 : num ≤ 10) (hp0 : 0 ≤ pts) (hp6 : pts ≤ 6) (hdg : okDeg u_degrees pts) (hwh : okWh u_when) (hz : okSz u_size) (hnw0 : 0 ≤ nw) (hnw1 : nw ≤ 39) (hrf : okRow rf num) (hn_2 : 10 - k.toNatClampNeg < n_2 + 1) (h0k : 0 ≤ k) (hwa : okWh wa) (c_1 : num ≤ k) (hn_41 : 40 - kd.toNatClampNeg < n_41 + 1) (h0d : 0 ≤ kd) (hwb : okWh wb) (c_2 : ¬ 40 ≤ kd) (hn_49 : 10 - k2.toNatClampNeg < n_49 + 1) (h0k2 : 0 ≤ k2) (hwc : okWh wc) (c_18 : ¬ num ≤ k2) (ev_20 : v_20 = rf k2.toNatClampNeg) (fx_21 : 0 ≤ v_20 ∧ v_20 < num) : vp_in v_20 10 := by
  exact vi_in (M := 10) rfl (by grind) (by grind)
set_option maxHeartbeats 1000000 in
theorem pf_X4_plans_32 (num : Int32) (pts : Int32) (nw : Int32) (u_size : Nat → Int32) (u_when : Nat → Int32) (u_degrees : Nat → Int32) (rf : Nat → Int32) (n_2 : Nat) (k : Int32) (wa : Nat → Int32) (n_41 : Nat) (kd : Int32) (wb : Nat → Int32) (n_49 : Nat) (k2 : Int32) (wc : Nat → Int32) (v_20 : Int32) (v_22 : Int32) (v_24 : Int32) (hn0 : 0 ≤ num) (hn1 : num ≤ 10) (hp0 : 0 ≤ pts) (hp6 : pts ≤ 6) (hdg : okDeg u_degrees pts) (hwh : okWh u_when) (hz : okSz u_size) (hnw0 : 0 ≤ nw) (hnw1 : nw ≤ 39) (hrf : okRow rf num) (hn_2 : 10 - k.toNatClampNeg < n_2 + 1) (h0k : 0 ≤ k) (hwa : okWh wa) (c_1 : num ≤ k) (hn_41 : 40 - kd.toNatClampNeg < n_41 + 1) (h0d : 0 ≤ kd) (hwb : okWh wb) (c_2 : ¬ 40 ≤ kd) (hn_49 : 10 - k2.toNatClampNeg < n_49 + 1) (h0k2 : 0 ≤ k2) (hwc : okWh wc) (c_18 : ¬ num ≤ k2) (ev_20 : v_20 = rf k2.toNatClampNeg) (fx_21 : 0 ≤ v_20 ∧ v_20 < num) (ev_22 : v_22 = wc v_20.toNatClampNeg) (c_23 : ¬ v_22 = (-1)) (ev_24 : v_24 = k2 + 1) : 10 - v_24.toNatClampNeg < n_49 := by
  exact ms_dec (L := 10) (k := k2) (by grind) (show ¬ (10 : Int32) ≤ k2 by grind) (by omega) (by assumption) hn_49
set_option maxHeartbeats 1000000 in
theorem pf_X4_plans_33 (num : Int32) (pts : Int32) (nw : Int32) (u_size : Nat → Int32) (u_when : Nat → Int32) (u_degrees : Nat → Int32) (rf : Nat → Int32) (n_2 : Nat) (k : Int32) (wa : Nat → Int32) (n_41 : Nat) (kd : Int32) (wb : Nat → Int32) (n_49 : Nat) (k2 : Int32) (wc : Nat → Int32) (v_20 : Int32) (v_22 : Int32) (v_24 : Int32) (hn0 : 0 ≤ num) (hn1 : num ≤ 10) (hp0 : 0 ≤ pts) (hp6 : pts ≤ 6) (hdg : okDeg u_degrees pts) (hwh : okWh u_when) (hz : okSz u_size) (hnw0 : 0 ≤ nw) (hnw1 : nw ≤ 39) (hrf : okRow rf num) (hn_2 : 10 - k.toNatClampNeg < n_2 + 1) (h0k : 0 ≤ k) (hwa : okWh wa) (c_1 : num ≤ k) (hn_41 : 40 - kd.toNatClampNeg < n_41 + 1) (h0d : 0 ≤ kd) (hwb : okWh wb) (c_2 : ¬ 40 ≤ kd) (hn_49 : 10 - k2.toNatClampNeg < n_49 + 1) (h0k2 : 0 ≤ k2) (hwc : okWh wc) (c_18 : ¬ num ≤ k2) (ev_20 : v_20 = rf k2.toNatClampNeg) (fx_21 : 0 ≤ v_20 ∧ v_20 < num) (ev_22 : v_22 = wc v_20.toNatClampNeg) (c_23 : ¬ v_22 = (-1)) (ev_24 : v_24 = k2 + 1) : 0 ≤ v_24 := by
  grind
set_option maxHeartbeats 1000000 in
theorem pf_X4_plans_34 (num : Int32) (pts : Int32) (nw : Int32) (u_size : Nat → Int32) (u_when : Nat → Int32) (u_degrees : Nat → Int32) (rf : Nat → Int32) (n_2 : Nat) (k : Int32) (wa : Nat → Int32) (n_41 : Nat) (kd : Int32) (wb : Nat → Int32) (n_49 : Nat) (k2 : Int32) (wc : Nat → Int32) (v_20 : Int32) (v_22 : Int32) (v_24 : Int32) (hn0 : 0 ≤ num) (hn1 : num ≤ 10) (hp0 : 0 ≤ pts) (hp6 : pts ≤ 6) (hdg : okDeg u_degrees pts) (hwh : okWh u_when) (hz : okSz u_size) (hnw0 : 0 ≤ nw) (hnw1 : nw ≤ 39) (hrf : okRow rf num) (hn_2 : 10 - k.toNatClampNeg < n_2 + 1) (h0k : 0 ≤ k) (hwa : okWh wa) (c_1 : num ≤ k) (hn_41 : 40 - kd.toNatClampNeg < n_41 + 1) (h0d : 0 ≤ kd) (hwb : okWh wb) (c_2 : ¬ 40 ≤ kd) (hn_49 : 10 - k2.toNatClampNeg < n_49 + 1) (h0k2 : 0 ≤ k2) (hwc : okWh wc) (c_18 : ¬ num ≤ k2) (ev_20 : v_20 = rf k2.toNatClampNeg) (fx_21 : 0 ≤ v_20 ∧ v_20 < num) (ev_22 : v_22 = wc v_20.toNatClampNeg) (c_23 : ¬ v_22 = (-1)) (ev_24 : v_24 = k2 + 1) : okWh wc := by
  first
  | exact hwc
  | exact okWh_upd hwc (by grind) (by grind)
set_option maxHeartbeats 1000000 in
theorem pf_X4_plans_35 (num : Int32) (pts : Int32) (nw : Int32) (u_size : Nat → Int32) (u_when : Nat → Int32) (u_degrees : Nat → Int32) (rf : Nat → Int32) (n_2 : Nat) (k : Int32) (wa : Nat → Int32) (n_41 : Nat) (kd : Int32) (wb : Nat → Int32) (n_49 : Nat) (k2 : Int32) (wc : Nat → Int32) (v_20 : Int32) (v_22 : Int32) (hn0 : 0 ≤ num) (hn1 : num ≤ 10) (hp0 : 0 ≤ pts) (hp6 : pts ≤ 6) (hdg : okDeg u_degrees pts) (hwh : okWh u_when) (hz : okSz u_size) (hnw0 : 0 ≤ nw) (hnw1 : nw ≤ 39) (hrf : okRow rf num) (hn_2 : 10 - k.toNatClampNeg < n_2 + 1) (h0k : 0 ≤ k) (hwa : okWh wa) (c_1 : num ≤ k) (hn_41 : 40 - kd.toNatClampNeg < n_41 + 1) (h0d : 0 ≤ kd) (hwb : okWh wb) (c_2 : ¬ 40 ≤ kd) (hn_49 : 10 - k2.toNatClampNeg < n_49 + 1) (h0k2 : 0 ≤ k2) (hwc : okWh wc) (c_18 : ¬ num ≤ k2) (ev_20 : v_20 = rf k2.toNatClampNeg) (fx_21 : 0 ≤ v_20 ∧ v_20 < num) (ev_22 : v_22 = wc v_20.toNatClampNeg) (c_23 : v_22 = (-1)) : 0 ≤ num := by
  grind
set_option maxHeartbeats 1000000 in
theorem pf_X4_plans_36 (num : Int32) (pts : Int32) (nw : Int32) (u_size : Nat → Int32) (u_when : Nat → Int32) (u_degrees : Nat → Int32) (rf : Nat → Int32) (n_2 : Nat) (k : Int32) (wa : Nat → Int32) (n_41 : Nat) (kd : Int32) (wb : Nat → Int32) (n_49 : Nat) (k2 : Int32) (wc : Nat → Int32) (v_20 : Int32) (v_22 : Int32) (hn0 : 0 ≤ num) (hn1 : num ≤ 10) (hp0 : 0 ≤ pts) (hp6 : pts ≤ 6) (hdg : okDeg u_degrees pts) (hwh : okWh u_when) (hz : okSz u_size) (hnw0 : 0 ≤ nw) (hnw1 : nw ≤ 39) (hrf : okRow rf num) (hn_2 : 10 - k.toNatClampNeg < n_2 + 1) (h0k : 0 ≤ k) (hwa : okWh wa) (c_1 : num ≤ k) (hn_41 : 40 - kd.toNatClampNeg < n_41 + 1) (h0d : 0 ≤ kd) (hwb : okWh wb) (c_2 : ¬ 40 ≤ kd) (hn_49 : 10 - k2.toNatClampNeg < n_49 + 1) (h0k2 : 0 ≤ k2) (hwc : okWh wc) (c_18 : ¬ num ≤ k2) (ev_20 : v_20 = rf k2.toNatClampNeg) (fx_21 : 0 ≤ v_20 ∧ v_20 < num) (ev_22 : v_22 = wc v_20.toNatClampNeg) (c_23 : v_22 = (-1)) : num ≤ 10 := by
  grind
set_option maxHeartbeats 1000000 in
theorem pf_X4_plans_37 (num : Int32) (pts : Int32) (nw : Int32) (u_size : Nat → Int32) (u_when : Nat → Int32) (u_degrees : Nat → Int32) (rf : Nat → Int32) (n_2 : Nat) (k : Int32) (wa : Nat → Int32) (n_41 : Nat) (kd : Int32) (wb : Nat → Int32) (n_49 : Nat) (k2 : Int32) (wc : Nat → Int32) (v_20 : Int32) (v_22 : Int32) (hn0 : 0 ≤ num) (hn1 : num ≤ 10) (hp0 : 0 ≤ pts) (hp6 : pts ≤ 6) (hdg : okDeg u_degrees pts) (hwh : okWh u_when) (hz : okSz u_size) (hnw0 : 0 ≤ nw) (hnw1 : nw ≤ 39) (hrf : okRow rf num) (hn_2 : 10 - k.toNatClampNeg < n_2 + 1) (h0k : 0 ≤ k) (hwa : okWh wa) (c_1 : num ≤ k) (hn_41 : 40 - kd.toNatClampNeg < n_41 + 1) (h0d : 0 ≤ kd) (hwb : okWh wb) (c_2 : ¬ 40 ≤ kd) (hn_49 : 10 - k2.toNatClampNeg < n_49 + 1) (h0k2 : 0 ≤ k2) (hwc : okWh wc) (c_18 : ¬ num ≤ k2) (ev_20 : v_20 = rf k2.toNatClampNeg) (fx_21 : 0 ≤ v_20 ∧ v_20 < num) (ev_22 : v_22 = wc v_20.toNatClampNeg) (c_23 : v_22 = (-1)) : 0 ≤ pts := by
  grind
set_option maxHeartbeats 1000000 in
theorem pf_X4_plans_38 (num : Int32) (pts : Int32) (nw : Int32) (u_size : Nat → Int32) (u_when : Nat → Int32) (u_degrees : Nat → Int32) (rf : Nat → Int32) (n_2 : Nat) (k : Int32) (wa : Nat → Int32) (n_41 : Nat) (kd : Int32) (wb : Nat → Int32) (n_49 : Nat) (k2 : Int32) (wc : Nat → Int32) (v_20 : Int32) (v_22 : Int32) (hn0 : 0 ≤ num) (hn1 : num ≤ 10) (hp0 : 0 ≤ pts) (hp6 : pts ≤ 6) (hdg : okDeg u_degrees pts) (hwh : okWh u_when) (hz : okSz u_size) (hnw0 : 0 ≤ nw) (hnw1 : nw ≤ 39) (hrf : okRow rf num) (hn_2 : 10 - k.toNatClampNeg < n_2 + 1) (h0k : 0 ≤ k) (hwa : okWh wa) (c_1 : num ≤ k) (hn_41 : 40 - kd.toNatClampNeg < n_41 + 1) (h0d : 0 ≤ kd) (hwb : okWh wb) (c_2 : ¬ 40 ≤ kd) (hn_49 : 10 - k2.toNatClampNeg < n_49 + 1) (h0k2 : 0 ≤ k2) (hwc : okWh wc) (c_18 : ¬ num ≤ k2) (ev_20 : v_20 = rf k2.toNatClampNeg) (fx_21 : 0 ≤ v_20 ∧ v_20 < num) (ev_22 : v_22 = wc v_20.toNatClampNeg) (c_23 : v_22 = (-1)) : pts ≤ 6 := by
  grind
set_option maxHeartbeats 1000000 in
theorem pf_X4_plans_39 (num : Int32) (pts : Int32) (nw : Int32) (u_size : Nat → Int32) (u_when : Nat → Int32) (u_degrees : Nat → Int32) (rf : Nat → Int32) (n_2 : Nat) (k : Int32) (wa : Nat → Int32) (n_41 : Nat) (kd : Int32) (wb : Nat → Int32) (n_49 : Nat) (k2 : Int32) (wc : Nat → Int32) (v_20 : Int32) (v_22 : Int32) (hn0 : 0 ≤ num) (hn1 : num ≤ 10) (hp0 : 0 ≤ pts) (hp6 : pts ≤ 6) (hdg : okDeg u_degrees pts) (hwh : okWh u_when) (hz : okSz u_size) (hnw0 : 0 ≤ nw) (hnw1 : nw ≤ 39) (hrf : okRow rf num) (hn_2 : 10 - k.toNatClampNeg < n_2 + 1) (h0k : 0 ≤ k) (hwa : okWh wa) (c_1 : num ≤ k) (hn_41 : 40 - kd.toNatClampNeg < n_41 + 1) (h0d : 0 ≤ kd) (hwb : okWh wb) (c_2 : ¬ 40 ≤ kd) (hn_49 : 10 - k2.toNatClampNeg < n_49 + 1) (h0k2 : 0 ≤ k2) (hwc : okWh wc) (c_18 : ¬ num ≤ k2) (ev_20 : v_20 = rf k2.toNatClampNeg) (fx_21 : 0 ≤ v_20 ∧ v_20 < num) (ev_22 : v_22 = wc v_20.toNatClampNeg) (c_23 : v_22 = (-1)) : okDeg u_degrees pts := by
  exact hdg
set_option maxHeartbeats 1000000 in
theorem pf_X4_plans_40 (num : Int32) (pts : Int32) (nw : Int32) (u_size : Nat → Int32) (u_when : Nat → Int32) (u_degrees : Nat → Int32) (rf : Nat → Int32) (n_2 : Nat) (k : Int32) (wa : Nat → Int32) (n_41 : Nat) (kd : Int32) (wb : Nat → Int32) (n_49 : Nat) (k2 : Int32) (wc : Nat → Int32) (v_20 : Int32) (v_22 : Int32) (hn0 : 0 ≤ num) (hn1 : num ≤ 10) (hp0 : 0 ≤ pts) (hp6 : pts ≤ 6) (hdg : okDeg u_degrees pts) (hwh : okWh u_when) (hz : okSz u_size) (hnw0 : 0 ≤ nw) (hnw1 : nw ≤ 39) (hrf : okRow rf num) (hn_2 : 10 - k.toNatClampNeg < n_2 + 1) (h0k : 0 ≤ k) (hwa : okWh wa) (c_1 : num ≤ k) (hn_41 : 40 - kd.toNatClampNeg < n_41 + 1) (h0d : 0 ≤ kd) (hwb : okWh wb) (c_2 : ¬ 40 ≤ kd) (hn_49 : 10 - k2.toNatClampNeg < n_49 + 1) (h0k2 : 0 ≤ k2) (hwc : okWh wc) (c_18 : ¬ num ≤ k2) (ev_20 : v_20 = rf k2.toNatClampNeg) (fx_21 : 0 ≤ v_20 ∧ v_20 < num) (ev_22 : v_22 = wc v_20.toNatClampNeg) (c_23 : v_22 = (-1)) : okWh wc := by
  exact hwc
set_option maxHeartbeats 1000000 in
theorem pf_X4_plans_41 (num : Int32) (pts : Int32) (nw : Int32) (u_size : Nat → Int32) (u_when : Nat → Int32) (u_degrees : Nat → Int32) (rf : Nat → Int32) (n_2 : Nat) (k : Int32) (wa : Nat → Int32) (n_41 : Nat) (kd : Int32) (wb : Nat → Int32) (n_49 : Nat) (k2 : Int32) (wc : Nat → Int32) (v_20 : Int32) (v_22 : Int32) (hn0 : 0 ≤ num) (hn1 : num ≤ 10) (hp0 : 0 ≤ pts) (hp6 : pts ≤ 6) (hdg : okDeg u_degrees pts) (hwh : okWh u_when) (hz : okSz u_size) (hnw0 : 0 ≤ nw) (hnw1 : nw ≤ 39) (hrf : okRow rf num) (hn_2 : 10 - k.toNatClampNeg < n_2 + 1) (h0k : 0 ≤ k) (hwa : okWh wa) (c_1 : num ≤ k) (hn_41 : 40 - kd.toNatClampNeg < n_41 + 1) (h0d : 0 ≤ kd) (hwb : okWh wb) (c_2 : ¬ 40 ≤ kd) (hn_49 : 10 - k2.toNatClampNeg < n_49 + 1) (h0k2 : 0 ≤ k2) (hwc : okWh wc) (c_18 : ¬ num ≤ k2) (ev_20 : v_20 = rf k2.toNatClampNeg) (fx_21 : 0 ≤ v_20 ∧ v_20 < num) (ev_22 : v_22 = wc v_20.toNatClampNeg) (c_23 : v_22 = (-1)) : okSz u_size := by
  exact hz
set_option maxHeartbeats 1000000 in
theorem pf_X4_plans_42 (num : Int32) (pts : Int32) (nw : Int32) (u_size : Nat → Int32) (u_when : Nat → Int32) (u_degrees : Nat → Int32) (rf : Nat → Int32) (n_2 : Nat) (k : Int32) (wa : Nat → Int32) (n_41 : Nat) (kd : Int32) (wb : Nat → Int32) (n_49 : Nat) (k2 : Int32) (wc : Nat → Int32) (v_20 : Int32) (v_22 : Int32) (hn0 : 0 ≤ num) (hn1 : num ≤ 10) (hp0 : 0 ≤ pts) (hp6 : pts ≤ 6) (hdg : okDeg u_degrees pts) (hwh : okWh u_when) (hz : okSz u_size) (hnw0 : 0 ≤ nw) (hnw1 : nw ≤ 39) (hrf : okRow rf num) (hn_2 : 10 - k.toNatClampNeg < n_2 + 1) (h0k : 0 ≤ k) (hwa : okWh wa) (c_1 : num ≤ k) (hn_41 : 40 - kd.toNatClampNeg < n_41 + 1) (h0d : 0 ≤ kd) (hwb : okWh wb) (c_2 : ¬ 40 ≤ kd) (hn_49 : 10 - k2.toNatClampNeg < n_49 + 1) (h0k2 : 0 ≤ k2) (hwc : okWh wc) (c_18 : ¬ num ≤ k2) (ev_20 : v_20 = rf k2.toNatClampNeg) (fx_21 : 0 ≤ v_20 ∧ v_20 < num) (ev_22 : v_22 = wc v_20.toNatClampNeg) (c_23 : v_22 = (-1)) : 0 ≤ v_20 := by
  grind
set_option maxHeartbeats 1000000 in
theorem pf_X4_plans_43 (num : Int32) (pts : Int32) (nw : Int32) (u_size : Nat → Int32) (u_when : Nat → Int32) (u_degrees : Nat → Int32) (rf : Nat → Int32) (n_2 : Nat) (k : Int32) (wa : Nat → Int32) (n_41 : Nat) (kd : Int32) (wb : Nat → Int32) (n_49 : Nat) (k2 : Int32) (wc : Nat → Int32) (v_20 : Int32) (v_22 : Int32) (hn0 : 0 ≤ num) (hn1 : num ≤ 10) (hp0 : 0 ≤ pts) (hp6 : pts ≤ 6) (hdg : okDeg u_degrees pts) (hwh : okWh u_when) (hz : okSz u_size) (hnw0 : 0 ≤ nw) (hnw1 : nw ≤ 39) (hrf : okRow rf num) (hn_2 : 10 - k.toNatClampNeg < n_2 + 1) (h0k : 0 ≤ k) (hwa : okWh wa) (c_1 : num ≤ k) (hn_41 : 40 - kd.toNatClampNeg < n_41 + 1) (h0d : 0 ≤ kd) (hwb : okWh wb) (c_2 : ¬ 40 ≤ kd) (hn_49 : 10 - k2.toNatClampNeg < n_49 + 1) (h0k2 : 0 ≤ k2) (hwc : okWh wc) (c_18 : ¬ num ≤ k2) (ev_20 : v_20 = rf k2.toNatClampNeg) (fx_21 : 0 ≤ v_20 ∧ v_20 < num) (ev_22 : v_22 = wc v_20.toNatClampNeg) (c_23 : v_22 = (-1)) : v_20 < num := by
  grind
set_option maxHeartbeats 1000000 in
theorem pf_X4_plans_44 (num : Int32) (pts : Int32) (nw : Int32) (u_size : Nat → Int32) (u_when : Nat → Int32) (u_degrees : Nat → Int32) (rf : Nat → Int32) (n_2 : Nat) (k : Int32) (wa : Nat → Int32) (n_41 : Nat) (kd : Int32) (wb : Nat → Int32) (n_49 : Nat) (k2 : Int32) (wc : Nat → Int32) (v_20 : Int32) (v_22 : Int32) (hn0 : 0 ≤ num) (hn1 : num ≤ 10) (hp0 : 0 ≤ pts) (hp6 : pts ≤ 6) (hdg : okDeg u_degrees pts) (hwh : okWh u_when) (hz : okSz u_size) (hnw0 : 0 ≤ nw) (hnw1 : nw ≤ 39) (hrf : okRow rf num) (hn_2 : 10 - k.toNatClampNeg < n_2 + 1) (h0k : 0 ≤ k) (hwa : okWh wa) (c_1 : num ≤ k) (hn_41 : 40 - kd.toNatClampNeg < n_41 + 1) (h0d : 0 ≤ kd) (hwb : okWh wb) (c_2 : ¬ 40 ≤ kd) (hn_49 : 10 - k2.toNatClampNeg < n_49 + 1) (h0k2 : 0 ≤ k2) (hwc : okWh wc) (c_18 : ¬ num ≤ k2) (ev_20 : v_20 = rf k2.toNatClampNeg) (fx_21 : 0 ≤ v_20 ∧ v_20 < num) (ev_22 : v_22 = wc v_20.toNatClampNeg) (c_23 : v_22 = (-1)) : kd ≤ 39 := by
  grind
set_option maxHeartbeats 1000000 in
theorem pf_X4_plans_45 (num : Int32) (pts : Int32) (nw : Int32) (u_size : Nat → Int32) (u_when : Nat → Int32) (u_degrees : Nat → Int32) (rf : Nat → Int32) (n_2 : Nat) (k : Int32) (wa : Nat → Int32) (n_41 : Nat) (kd : Int32) (wb : Nat → Int32) (n_49 : Nat) (k2 : Int32) (wc : Nat → Int32) (v_20 : Int32) (v_22 : Int32) (r_25 : Int32) (v_28 : Int32) (hn0 : 0 ≤ num) (hn1 : num ≤ 10) (hp0 : 0 ≤ pts) (hp6 : pts ≤ 6) (hdg : okDeg u_degrees pts) (hwh : okWh u_when) (hz : okSz u_size) (hnw0 : 0 ≤ nw) (hnw1 : nw ≤ 39) (hrf : okRow rf num) (hn_2 : 10 - k.toNatClampNeg < n_2 + 1) (h0k : 0 ≤ k) (hwa : okWh wa) (c_1 : num ≤ k) (hn_41 : 40 - kd.toNatClampNeg < n_41 + 1) (h0d : 0 ≤ kd) (hwb : okWh wb) (c_2 : ¬ 40 ≤ kd) (hn_49 : 10 - k2.toNatClampNeg < n_49 + 1) (h0k2 : 0 ≤ k2) (hwc : okWh wc) (c_18 : ¬ num ≤ k2) (ev_20 : v_20 = rf k2.toNatClampNeg) (fx_21 : 0 ≤ v_20 ∧ v_20 < num) (ev_22 : v_22 = wc v_20.toNatClampNeg) (c_23 : v_22 = (-1)) (c_27 : ¬ r_25 = 0) (ev_28 : v_28 = k2 + 1) : 10 - v_28.toNatClampNeg < n_49 := by
  exact ms_dec (L := 10) (k := k2) (by grind) (show ¬ (10 : Int32) ≤ k2 by grind) (by omega) (by assumption) hn_49
set_option maxHeartbeats 1000000 in
theorem pf_X4_plans_46 (num : Int32) (pts : Int32) (nw : Int32) (u_size : Nat → Int32) (u_when : Nat → Int32) (u_degrees : Nat → Int32) (rf : Nat → Int32) (n_2 : Nat) (k : Int32) (wa : Nat → Int32) (n_41 : Nat) (kd : Int32) (wb : Nat → Int32) (n_49 : Nat) (k2 : Int32) (wc : Nat → Int32) (v_20 : Int32) (v_22 : Int32) (r_25 : Int32) (v_28 : Int32) (hn0 : 0 ≤ num) (hn1 : num ≤ 10) (hp0 : 0 ≤ pts) (hp6 : pts ≤ 6) (hdg : okDeg u_degrees pts) (hwh : okWh u_when) (hz : okSz u_size) (hnw0 : 0 ≤ nw) (hnw1 : nw ≤ 39) (hrf : okRow rf num) (hn_2 : 10 - k.toNatClampNeg < n_2 + 1) (h0k : 0 ≤ k) (hwa : okWh wa) (c_1 : num ≤ k) (hn_41 : 40 - kd.toNatClampNeg < n_41 + 1) (h0d : 0 ≤ kd) (hwb : okWh wb) (c_2 : ¬ 40 ≤ kd) (hn_49 : 10 - k2.toNatClampNeg < n_49 + 1) (h0k2 : 0 ≤ k2) (hwc : okWh wc) (c_18 : ¬ num ≤ k2) (ev_20 : v_20 = rf k2.toNatClampNeg) (fx_21 : 0 ≤ v_20 ∧ v_20 < num) (ev_22 : v_22 = wc v_20.toNatClampNeg) (c_23 : v_22 = (-1)) (c_27 : ¬ r_25 = 0) (ev_28 : v_28 = k2 + 1) : 0 ≤ v_28 := by
  grind
set_option maxHeartbeats 1000000 in
theorem pf_X4_plans_47 (num : Int32) (pts : Int32) (nw : Int32) (u_size : Nat → Int32) (u_when : Nat → Int32) (u_degrees : Nat → Int32) (rf : Nat → Int32) (n_2 : Nat) (k : Int32) (wa : Nat → Int32) (n_41 : Nat) (kd : Int32) (wb : Nat → Int32) (n_49 : Nat) (k2 : Int32) (wc : Nat → Int32) (v_20 : Int32) (v_22 : Int32) (r_25 : Int32) (v_28 : Int32) (hn0 : 0 ≤ num) (hn1 : num ≤ 10) (hp0 : 0 ≤ pts) (hp6 : pts ≤ 6) (hdg : okDeg u_degrees pts) (hwh : okWh u_when) (hz : okSz u_size) (hnw0 : 0 ≤ nw) (hnw1 : nw ≤ 39) (hrf : okRow rf num) (hn_2 : 10 - k.toNatClampNeg < n_2 + 1) (h0k : 0 ≤ k) (hwa : okWh wa) (c_1 : num ≤ k) (hn_41 : 40 - kd.toNatClampNeg < n_41 + 1) (h0d : 0 ≤ kd) (hwb : okWh wb) (c_2 : ¬ 40 ≤ kd) (hn_49 : 10 - k2.toNatClampNeg < n_49 + 1) (h0k2 : 0 ≤ k2) (hwc : okWh wc) (c_18 : ¬ num ≤ k2) (ev_20 : v_20 = rf k2.toNatClampNeg) (fx_21 : 0 ≤ v_20 ∧ v_20 < num) (ev_22 : v_22 = wc v_20.toNatClampNeg) (c_23 : v_22 = (-1)) (c_27 : ¬ r_25 = 0) (ev_28 : v_28 = k2 + 1) : okWh wc := by
  first
  | exact hwc
  | exact okWh_upd hwc (by grind) (by grind)
set_option maxHeartbeats 1000000 in
theorem pf_X4_plans_48 (num : Int32) (pts : Int32) (nw : Int32) (u_size : Nat → Int32) (u_when : Nat → Int32) (u_degrees : Nat → Int32) (rf : Nat → Int32) (n_2 : Nat) (k : Int32) (wa : Nat → Int32) (n_41 : Nat) (kd : Int32) (wb : Nat → Int32) (n_49 : Nat) (k2 : Int32) (wc : Nat → Int32) (v_20 : Int32) (v_22 : Int32) (r_25 : Int32) (hn0 : 0 ≤ num) (hn1 : num ≤ 10) (hp0 : 0 ≤ pts) (hp6 : pts ≤ 6) (hdg : okDeg u_degrees pts) (hwh : okWh u_when) (hz : okSz u_size) (hnw0 : 0 ≤ nw) (hnw1 : nw ≤ 39) (hrf : okRow rf num) (hn_2 : 10 - k.toNatClampNeg < n_2 + 1) (h0k : 0 ≤ k) (hwa : okWh wa) (c_1 : num ≤ k) (hn_41 : 40 - kd.toNatClampNeg < n_41 + 1) (h0d : 0 ≤ kd) (hwb : okWh wb) (c_2 : ¬ 40 ≤ kd) (hn_49 : 10 - k2.toNatClampNeg < n_49 + 1) (h0k2 : 0 ≤ k2) (hwc : okWh wc) (c_18 : ¬ num ≤ k2) (ev_20 : v_20 = rf k2.toNatClampNeg) (fx_21 : 0 ≤ v_20 ∧ v_20 < num) (ev_22 : v_22 = wc v_20.toNatClampNeg) (c_23 : v_22 = (-1)) (c_27 : r_25 = 0) : vp_in v_20 10 := by
  exact vi_in (M := 10) rfl (by grind) (by grind)
set_option maxHeartbeats 1000000 in
theorem pf_X4_plans_49 (num : Int32) (pts : Int32) (nw : Int32) (u_size : Nat → Int32) (u_when : Nat → Int32) (u_degrees : Nat → Int32) (rf : Nat → Int32) (n_2 : Nat) (k : Int32) (wa : Nat → Int32) (n_41 : Nat) (kd : Int32) (wb : Nat → Int32) (n_49 : Nat) (k2 : Int32) (wc : Nat → Int32) (v_20 : Int32) (v_22 : Int32) (r_25 : Int32) (v_29 : Int32) (hn0 : 0 ≤ num) (hn1 : num ≤ 10) (hp0 : 0 ≤ pts) (hp6 : pts ≤ 6) (hdg : okDeg u_degrees pts) (hwh : okWh u_when) (hz : okSz u_size) (hnw0 : 0 ≤ nw) (hnw1 : nw ≤ 39) (hrf : okRow rf num) (hn_2 : 10 - k.toNatClampNeg < n_2 + 1) (h0k : 0 ≤ k) (hwa : okWh wa) (c_1 : num ≤ k) (hn_41 : 40 - kd.toNatClampNeg < n_41 + 1) (h0d : 0 ≤ kd) (hwb : okWh wb) (c_2 : ¬ 40 ≤ kd) (hn_49 : 10 - k2.toNatClampNeg < n_49 + 1) (h0k2 : 0 ≤ k2) (hwc : okWh wc) (c_18 : ¬ num ≤ k2) (ev_20 : v_20 = rf k2.toNatClampNeg) (fx_21 : 0 ≤ v_20 ∧ v_20 < num) (ev_22 : v_22 = wc v_20.toNatClampNeg) (c_23 : v_22 = (-1)) (c_27 : r_25 = 0) (ev_29 : v_29 = k2 + 1) : 10 - v_29.toNatClampNeg < n_49 := by
  exact ms_dec (L := 10) (k := k2) (by grind) (show ¬ (10 : Int32) ≤ k2 by grind) (by omega) (by assumption) hn_49
set_option maxHeartbeats 1000000 in
theorem pf_X4_plans_50 (num : Int32) (pts : Int32) (nw : Int32) (u_size : Nat → Int32) (u_when : Nat → Int32) (u_degrees : Nat → Int32) (rf : Nat → Int32) (n_2 : Nat) (k : Int32) (wa : Nat → Int32) (n_41 : Nat) (kd : Int32) (wb : Nat → Int32) (n_49 : Nat) (k2 : Int32) (wc : Nat → Int32) (v_20 : Int32) (v_22 : Int32) (r_25 : Int32) (v_29 : Int32) (hn0 : 0 ≤ num) (hn1 : num ≤ 10) (hp0 : 0 ≤ pts) (hp6 : pts ≤ 6) (hdg : okDeg u_degrees pts) (hwh : okWh u_when) (hz : okSz u_size) (hnw0 : 0 ≤ nw) (hnw1 : nw ≤ 39) (hrf : okRow rf num) (hn_2 : 10 - k.toNatClampNeg < n_2 + 1) (h0k : 0 ≤ k) (hwa : okWh wa) (c_1 : num ≤ k) (hn_41 : 40 - kd.toNatClampNeg < n_41 + 1) (h0d : 0 ≤ kd) (hwb : okWh wb) (c_2 : ¬ 40 ≤ kd) (hn_49 : 10 - k2.toNatClampNeg < n_49 + 1) (h0k2 : 0 ≤ k2) (hwc : okWh wc) (c_18 : ¬ num ≤ k2) (ev_20 : v_20 = rf k2.toNatClampNeg) (fx_21 : 0 ≤ v_20 ∧ v_20 < num) (ev_22 : v_22 = wc v_20.toNatClampNeg) (c_23 : v_22 = (-1)) (c_27 : r_25 = 0) (ev_29 : v_29 = k2 + 1) : 0 ≤ v_29 := by
  grind
set_option maxHeartbeats 1000000 in
theorem pf_X4_plans_51 (num : Int32) (pts : Int32) (nw : Int32) (u_size : Nat → Int32) (u_when : Nat → Int32) (u_degrees : Nat → Int32) (rf : Nat → Int32) (n_2 : Nat) (k : Int32) (wa : Nat → Int32) (n_41 : Nat) (kd : Int32) (wb : Nat → Int32) (n_49 : Nat) (k2 : Int32) (wc : Nat → Int32) (v_20 : Int32) (v_22 : Int32) (r_25 : Int32) (v_29 : Int32) (hn0 : 0 ≤ num) (hn1 : num ≤ 10) (hp0 : 0 ≤ pts) (hp6 : pts ≤ 6) (hdg : okDeg u_degrees pts) (hwh : okWh u_when) (hz : okSz u_size) (hnw0 : 0 ≤ nw) (hnw1 : nw ≤ 39) (hrf : okRow rf num) (hn_2 : 10 - k.toNatClampNeg < n_2 + 1) (h0k : 0 ≤ k) (hwa : okWh wa) (c_1 : num ≤ k) (hn_41 : 40 - kd.toNatClampNeg < n_41 + 1) (h0d : 0 ≤ kd) (hwb : okWh wb) (c_2 : ¬ 40 ≤ kd) (hn_49 : 10 - k2.toNatClampNeg < n_49 + 1) (h0k2 : 0 ≤ k2) (hwc : okWh wc) (c_18 : ¬ num ≤ k2) (ev_20 : v_20 = rf k2.toNatClampNeg) (fx_21 : 0 ≤ v_20 ∧ v_20 < num) (ev_22 : v_22 = wc v_20.toNatClampNeg) (c_23 : v_22 = (-1)) (c_27 : r_25 = 0) (ev_29 : v_29 = k2 + 1) : okWh (upd wc v_20.toNatClampNeg kd) := by
  first
  | exact hwc
  | exact okWh_upd hwc (by grind) (by grind)
set_option maxHeartbeats 1000000 in
theorem pf_X4_plans_52 (num : Int32) (pts : Int32) (nw : Int32) (u_size : Nat → Int32) (u_when : Nat → Int32) (u_degrees : Nat → Int32) (rf : Nat → Int32) (n_2 : Nat) (k : Int32) (wa : Nat → Int32) (n_41 : Nat) (kd : Int32) (wb : Nat → Int32) (hn0 : 0 ≤ num) (hn1 : num ≤ 10) (hp0 : 0 ≤ pts) (hp6 : pts ≤ 6) (hdg : okDeg u_degrees pts) (hwh : okWh u_when) (hz : okSz u_size) (hnw0 : 0 ≤ nw) (hnw1 : nw ≤ 39) (hrf : okRow rf num) (hn_2 : 10 - k.toNatClampNeg < n_2 + 1) (h0k : 0 ≤ k) (hwa : okWh wa) (c_1 : num ≤ k) (hn_41 : 40 - kd.toNatClampNeg < n_41 + 1) (h0d : 0 ≤ kd) (hwb : okWh wb) (c_2 : ¬ 40 ≤ kd) : 0 ≤ (0 : Int32) := by
  grind
set_option maxHeartbeats 1000000 in
theorem pf_X4_plans_53 (num : Int32) (pts : Int32) (nw : Int32) (u_size : Nat → Int32) (u_when : Nat → Int32) (u_degrees : Nat → Int32) (rf : Nat → Int32) (n_2 : Nat) (k : Int32) (wa : Nat → Int32) (n_41 : Nat) (kd : Int32) (wb : Nat → Int32) (hn0 : 0 ≤ num) (hn1 : num ≤ 10) (hp0 : 0 ≤ pts) (hp6 : pts ≤ 6) (hdg : okDeg u_degrees pts) (hwh : okWh u_when) (hz : okSz u_size) (hnw0 : 0 ≤ nw) (hnw1 : nw ≤ 39) (hrf : okRow rf num) (hn_2 : 10 - k.toNatClampNeg < n_2 + 1) (h0k : 0 ≤ k) (hwa : okWh wa) (c_1 : num ≤ k) (hn_41 : 40 - kd.toNatClampNeg < n_41 + 1) (h0d : 0 ≤ kd) (hwb : okWh wb) (c_2 : ¬ 40 ≤ kd) : okWh wb := by
  exact hwb
set_option maxHeartbeats 1000000 in
theorem pf_X4_plans_54 (num : Int32) (pts : Int32) (nw : Int32) (u_size : Nat → Int32) (u_when : Nat → Int32) (u_degrees : Nat → Int32) (rf : Nat → Int32) (n_2 : Nat) (k : Int32) (wa : Nat → Int32) (hn0 : 0 ≤ num) (hn1 : num ≤ 10) (hp0 : 0 ≤ pts) (hp6 : pts ≤ 6) (hdg : okDeg u_degrees pts) (hwh : okWh u_when) (hz : okSz u_size) (hnw0 : 0 ≤ nw) (hnw1 : nw ≤ 39) (hrf : okRow rf num) (hn_2 : 10 - k.toNatClampNeg < n_2 + 1) (h0k : 0 ≤ k) (hwa : okWh wa) (c_1 : num ≤ k) : 0 ≤ nw := by
  grind
set_option maxHeartbeats 1000000 in
theorem pf_X4_plans_55 (num : Int32) (pts : Int32) (nw : Int32) (u_size : Nat → Int32) (u_when : Nat → Int32) (u_degrees : Nat → Int32) (rf : Nat → Int32) (n_2 : Nat) (k : Int32) (wa : Nat → Int32) (hn0 : 0 ≤ num) (hn1 : num ≤ 10) (hp0 : 0 ≤ pts) (hp6 : pts ≤ 6) (hdg : okDeg u_degrees pts) (hwh : okWh u_when) (hz : okSz u_size) (hnw0 : 0 ≤ nw) (hnw1 : nw ≤ 39) (hrf : okRow rf num) (hn_2 : 10 - k.toNatClampNeg < n_2 + 1) (h0k : 0 ≤ k) (hwa : okWh wa) (c_1 : num ≤ k) : okWh wa := by
  exact hwa
set_option maxHeartbeats 1000000 in
theorem pf_X4_plans_56 (num : Int32) (pts : Int32) (nw : Int32) (u_size : Nat → Int32) (u_when : Nat → Int32) (u_degrees : Nat → Int32) (rf : Nat → Int32) (n_2 : Nat) (k : Int32) (wa : Nat → Int32) (hn0 : 0 ≤ num) (hn1 : num ≤ 10) (hp0 : 0 ≤ pts) (hp6 : pts ≤ 6) (hdg : okDeg u_degrees pts) (hwh : okWh u_when) (hz : okSz u_size) (hnw0 : 0 ≤ nw) (hnw1 : nw ≤ 39) (hrf : okRow rf num) (hn_2 : 10 - k.toNatClampNeg < n_2 + 1) (h0k : 0 ≤ k) (hwa : okWh wa) (c_1 : ¬ num ≤ k) : vp_in k 10 := by
  exact vi_in (M := 10) rfl (by grind) (by grind)
set_option maxHeartbeats 1000000 in
theorem pf_X4_plans_57 (num : Int32) (pts : Int32) (nw : Int32) (u_size : Nat → Int32) (u_when : Nat → Int32) (u_degrees : Nat → Int32) (rf : Nat → Int32) (n_2 : Nat) (k : Int32) (wa : Nat → Int32) (v_30 : Int32) (v_32 : Int32) (hn0 : 0 ≤ num) (hn1 : num ≤ 10) (hp0 : 0 ≤ pts) (hp6 : pts ≤ 6) (hdg : okDeg u_degrees pts) (hwh : okWh u_when) (hz : okSz u_size) (hnw0 : 0 ≤ nw) (hnw1 : nw ≤ 39) (hrf : okRow rf num) (hn_2 : 10 - k.toNatClampNeg < n_2 + 1) (h0k : 0 ≤ k) (hwa : okWh wa) (c_1 : ¬ num ≤ k) (ev_30 : v_30 = wa k.toNatClampNeg) (c_31 : v_30 < nw) (ev_32 : v_32 = k + 1) : 10 - v_32.toNatClampNeg < n_2 := by
  exact ms_dec (L := 10) (k := k) (by grind) (show ¬ (10 : Int32) ≤ k by grind) (by omega) (by assumption) hn_2
set_option maxHeartbeats 1000000 in
theorem pf_X4_plans_58 (num : Int32) (pts : Int32) (nw : Int32) (u_size : Nat → Int32) (u_when : Nat → Int32) (u_degrees : Nat → Int32) (rf : Nat → Int32) (n_2 : Nat) (k : Int32) (wa : Nat → Int32) (v_30 : Int32) (v_32 : Int32) (hn0 : 0 ≤ num) (hn1 : num ≤ 10) (hp0 : 0 ≤ pts) (hp6 : pts ≤ 6) (hdg : okDeg u_degrees pts) (hwh : okWh u_when) (hz : okSz u_size) (hnw0 : 0 ≤ nw) (hnw1 : nw ≤ 39) (hrf : okRow rf num) (hn_2 : 10 - k.toNatClampNeg < n_2 + 1) (h0k : 0 ≤ k) (hwa : okWh wa) (c_1 : ¬ num ≤ k) (ev_30 : v_30 = wa k.toNatClampNeg) (c_31 : v_30 < nw) (ev_32 : v_32 = k + 1) : 0 ≤ v_32 := by
  grind
set_option maxHeartbeats 1000000 in
theorem pf_X4_plans_59 (num : Int32) (pts : Int32) (nw : Int32) (u_size : Nat → Int32) (u_when : Nat → Int32) (u_degrees : Nat → Int32) (rf : Nat → Int32) (n_2 : Nat) (k : Int32) (wa : Nat → Int32) (v_30 : Int32) (v_32 : Int32) (hn0 : 0 ≤ num) (hn1 : num ≤ 10) (hp0 : 0 ≤ pts) (hp6 : pts ≤ 6) (hdg : okDeg u_degrees pts) (hwh : okWh u_when) (hz : okSz u_size) (hnw0 : 0 ≤ nw) (hnw1 : nw ≤ 39) (hrf : okRow rf num) (hn_2 : 10 - k.toNatClampNeg < n_2 + 1) (h0k : 0 ≤ k) (hwa : okWh wa) (c_1 : ¬ num ≤ k) (ev_30 : v_30 = wa k.toNatClampNeg) (c_31 : v_30 < nw) (ev_32 : v_32 = k + 1) : okWh wa := by
  first
  | exact hwa
  | exact okWh_upd hwa (by decide) (by decide)
set_option maxHeartbeats 1000000 in
theorem pf_X4_plans_60 (num : Int32) (pts : Int32) (nw : Int32) (u_size : Nat → Int32) (u_when : Nat → Int32) (u_degrees : Nat → Int32) (rf : Nat → Int32) (n_2 : Nat) (k : Int32) (wa : Nat → Int32) (v_30 : Int32) (hn0 : 0 ≤ num) (hn1 : num ≤ 10) (hp0 : 0 ≤ pts) (hp6 : pts ≤ 6) (hdg : okDeg u_degrees pts) (hwh : okWh u_when) (hz : okSz u_size) (hnw0 : 0 ≤ nw) (hnw1 : nw ≤ 39) (hrf : okRow rf num) (hn_2 : 10 - k.toNatClampNeg < n_2 + 1) (h0k : 0 ≤ k) (hwa : okWh wa) (c_1 : ¬ num ≤ k) (ev_30 : v_30 = wa k.toNatClampNeg) (c_31 : ¬ v_30 < nw) : vp_in k 10 := by
  exact vi_in (M := 10) rfl (by grind) (by grind)
set_option maxHeartbeats 1000000 in
theorem pf_X4_plans_61 (num : Int32) (pts : Int32) (nw : Int32) (u_size : Nat → Int32) (u_when : Nat → Int32) (u_degrees : Nat → Int32) (rf : Nat → Int32) (n_2 : Nat) (k : Int32) (wa : Nat → Int32) (v_30 : Int32) (v_33 : Int32) (hn0 : 0 ≤ num) (hn1 : num ≤ 10) (hp0 : 0 ≤ pts) (hp6 : pts ≤ 6) (hdg : okDeg u_degrees pts) (hwh : okWh u_when) (hz : okSz u_size) (hnw0 : 0 ≤ nw) (hnw1 : nw ≤ 39) (hrf : okRow rf num) (hn_2 : 10 - k.toNatClampNeg < n_2 + 1) (h0k : 0 ≤ k) (hwa : okWh wa) (c_1 : ¬ num ≤ k) (ev_30 : v_30 = wa k.toNatClampNeg) (c_31 : ¬ v_30 < nw) (ev_33 : v_33 = k + 1) : 10 - v_33.toNatClampNeg < n_2 := by
  exact ms_dec (L := 10) (k := k) (by grind) (show ¬ (10 : Int32) ≤ k by grind) (by omega) (by assumption) hn_2
set_option maxHeartbeats 1000000 in
theorem pf_X4_plans_62 (num : Int32) (pts : Int32) (nw : Int32) (u_size : Nat → Int32) (u_when : Nat → Int32) (u_degrees : Nat → Int32) (rf : Nat → Int32) (n_2 : Nat) (k : Int32) (wa : Nat → Int32) (v_30 : Int32) (v_33 : Int32) (hn0 : 0 ≤ num) (hn1 : num ≤ 10) (hp0 : 0 ≤ pts) (hp6 : pts ≤ 6) (hdg : okDeg u_degrees pts) (hwh : okWh u_when) (hz : okSz u_size) (hnw0 : 0 ≤ nw) (hnw1 : nw ≤ 39) (hrf : okRow rf num) (hn_2 : 10 - k.toNatClampNeg < n_2 + 1) (h0k : 0 ≤ k) (hwa : okWh wa) (c_1 : ¬ num ≤ k) (ev_30 : v_30 = wa k.toNatClampNeg) (c_31 : ¬ v_30 < nw) (ev_33 : v_33 = k + 1) : 0 ≤ v_33 := by
  grind
set_option maxHeartbeats 1000000 in
theorem pf_X4_plans_63 (num : Int32) (pts : Int32) (nw : Int32) (u_size : Nat → Int32) (u_when : Nat → Int32) (u_degrees : Nat → Int32) (rf : Nat → Int32) (n_2 : Nat) (k : Int32) (wa : Nat → Int32) (v_30 : Int32) (v_33 : Int32) (hn0 : 0 ≤ num) (hn1 : num ≤ 10) (hp0 : 0 ≤ pts) (hp6 : pts ≤ 6) (hdg : okDeg u_degrees pts) (hwh : okWh u_when) (hz : okSz u_size) (hnw0 : 0 ≤ nw) (hnw1 : nw ≤ 39) (hrf : okRow rf num) (hn_2 : 10 - k.toNatClampNeg < n_2 + 1) (h0k : 0 ≤ k) (hwa : okWh wa) (c_1 : ¬ num ≤ k) (ev_30 : v_30 = wa k.toNatClampNeg) (c_31 : ¬ v_30 < nw) (ev_33 : v_33 = k + 1) : okWh (upd wa k.toNatClampNeg (-1)) := by
  first
  | exact hwa
  | exact okWh_upd hwa (by decide) (by decide)
set_option maxHeartbeats 1000000 in
theorem pf_X4_plans_64 (num : Int32) (pts : Int32) (nw : Int32) (u_size : Nat → Int32) (u_when : Nat → Int32) (u_degrees : Nat → Int32) (rf : Nat → Int32) (hn0 : 0 ≤ num) (hn1 : num ≤ 10) (hp0 : 0 ≤ pts) (hp6 : pts ≤ 6) (hdg : okDeg u_degrees pts) (hwh : okWh u_when) (hz : okSz u_size) (hnw0 : 0 ≤ nw) (hnw1 : nw ≤ 39) (hrf : okRow rf num) : 0 ≤ (0 : Int32) := by
  grind
set_option maxHeartbeats 1000000 in
theorem pf_X4_plans_65 (num : Int32) (pts : Int32) (nw : Int32) (u_size : Nat → Int32) (u_when : Nat → Int32) (u_degrees : Nat → Int32) (rf : Nat → Int32) (hn0 : 0 ≤ num) (hn1 : num ≤ 10) (hp0 : 0 ≤ pts) (hp6 : pts ≤ 6) (hdg : okDeg u_degrees pts) (hwh : okWh u_when) (hz : okSz u_size) (hnw0 : 0 ≤ nw) (hnw1 : nw ≤ 39) (hrf : okRow rf num) : okWh u_when := by
  exact hwh
set_option maxHeartbeats 4000000 in
set_option maxRecDepth 100000 in
theorem c_X4_plans (l : Launch) (D : va_G) (cI cQ : ClassId) (sz : Nat) (y0 : Nat) (m_kind : Nat) (m_floor : Nat) (m_volume : Nat) (m_size : Nat) (m_faces : Nat) (m_ahead : Nat) (m_forms : Nat) (m_when : Nat) (m_warmth : Nat) (m_degrees : Nat) (m_thousandths : Nat) (m_order : Nat) (m_tried : Nat) (m_chosen : Nat) (m_longest : Nat) (num : Int32) (pts : Int32) (nw : Int32) (en : Int32) (gl : Int32) (bw : Int32) (sp : Int32) (be : Int32) (ab : Int64) (bl : Int64) (u_kind : Nat → Int32) (u_floor : Nat → Int32) (u_volume : Nat → Int32) (u_size : Nat → Int32) (u_faces : Nat → Int32) (u_ahead : Nat → Int32) (u_forms : Nat → Int32) (u_when : Nat → Int32) (u_warmth : Nat → Int32) (u_degrees : Nat → Int32) (u_thousandths : Nat → Int32) (rf : Nat → Int32) (row : Nat) (hn0 : 0 ≤ num) (hn1 : num ≤ 10) (hp0 : 0 ≤ pts) (hp6 : pts ≤ 6) (hdg : okDeg u_degrees pts) (hwh : okWh u_when) (hz : okSz u_size) (hnw0 : 0 ≤ nw) (hnw1 : nw ≤ 39) (hrf : okRow rf num) : CtI l yX4_plans wsX4_plans 6 141 0 0 [.ref y0, .ref row] D [(cI, .int), (cQ, .array .int)] [(y0, .inr (4, [.int num, .int pts, .int nw, .int en, .int gl, .int bw, .int sp, .int be, .ref m_kind, .ref m_floor, .ref m_volume, .ref m_size, .ref m_faces, .ref m_when, .ref m_ahead, .ref m_order, .ref m_tried, .ref m_chosen, .ref m_forms, .ref m_warmth, .ref m_degrees, .ref m_thousandths, .ref m_longest, .long ab, .long bl])), (m_kind, .inl (cI, 10, .inl u_kind)), (m_floor, .inl (cI, 10, .inl u_floor)), (m_volume, .inl (cI, 10, .inl u_volume)), (m_size, .inl (cI, 10, .inl u_size)), (m_faces, .inl (cI, 10, .inl u_faces)), (m_ahead, .inl (cI, 100, .inl u_ahead)), (m_forms, .inl (cI, 3, .inl u_forms)), (m_when, .inl (cI, 10, .inl u_when)), (m_warmth, .inl (cI, 40, .inl u_warmth)), (m_degrees, .inl (cI, 6, .inl u_degrees)), (m_thousandths, .inl (cI, 6, .inl u_thousandths)), (row, .inl (cI, 10, .inl rf))] sz (fun (r : Int32) (u : (Nat → Int32)) => r ≤ 40 ∧ okWh u) (fun (u : (Nat → Int32)) => [(y0, .inr (4, [.int num, .int pts, .int nw, .int en, .int gl, .int bw, .int sp, .int be, .ref m_kind, .ref m_floor, .ref m_volume, .ref m_size, .ref m_faces, .ref m_when, .ref m_ahead, .ref m_order, .ref m_tried, .ref m_chosen, .ref m_forms, .ref m_warmth, .ref m_degrees, .ref m_thousandths, .ref m_longest, .long ab, .long bl])), (m_kind, .inl (cI, 10, .inl u_kind)), (m_floor, .inl (cI, 10, .inl u_floor)), (m_volume, .inl (cI, 10, .inl u_volume)), (m_size, .inl (cI, 10, .inl u_size)), (m_faces, .inl (cI, 10, .inl u_faces)), (m_ahead, .inl (cI, 100, .inl u_ahead)), (m_forms, .inl (cI, 3, .inl u_forms)), (m_when, .inl (cI, 10, .inl u)), (m_warmth, .inl (cI, 40, .inl u_warmth)), (m_degrees, .inl (cI, 6, .inl u_degrees)), (m_thousandths, .inl (cI, 6, .inl u_thousandths)), (row, .inl (cI, 10, .inl rf))]) := by
  refine Met.ofW (cc := cX4_plans) (maxL := 5) (ret := (some .int)) (by decide) rfl ?_
  intro p e s m args below meth c s₁ B hml hv
  obtain ⟨rfl, hsz, hP, hK, hD0, hN⟩ := hv
  have hx := B.exec
  have hb := B.bytes
  have hr := B.returns
  have hts := atoms_spec (ws := wsX4_plans) B.pre
  have hown : s.vm.findClass RX4 = some m.cls := findClass_of_methodNamed B.named
  have hlocks := B.notSynchronized
  subst hsz
  have hD := hD0.self (sz := s.heap.size)
  generalize hAe : va_A [(y0, .inr (4, [.int num, .int pts, .int nw, .int en, .int gl, .int bw, .int sp, .int be, .ref m_kind, .ref m_floor, .ref m_volume, .ref m_size, .ref m_faces, .ref m_when, .ref m_ahead, .ref m_order, .ref m_tried, .ref m_chosen, .ref m_forms, .ref m_warmth, .ref m_degrees, .ref m_thousandths, .ref m_longest, .long ab, .long bl])), (m_kind, .inl (cI, 10, .inl u_kind)), (m_floor, .inl (cI, 10, .inl u_floor)), (m_volume, .inl (cI, 10, .inl u_volume)), (m_size, .inl (cI, 10, .inl u_size)), (m_faces, .inl (cI, 10, .inl u_faces)), (m_ahead, .inl (cI, 100, .inl u_ahead)), (m_forms, .inl (cI, 3, .inl u_forms)), (m_when, .inl (cI, 10, .inl u_when)), (m_warmth, .inl (cI, 40, .inl u_warmth)), (m_degrees, .inl (cI, 6, .inl u_degrees)), (m_thousandths, .inl (cI, 6, .inl u_thousandths)), (row, .inl (cI, 10, .inl rf))] s.heap.size = A at hD ⊢
  have hA : ∀ q : Nat, s.heap.size ≤ q → A q := fun q h => by rw [← hAe]; exact Or.inr h
  have hS : va_S A s.heap s.heap [] := va_S.rf
  have hl := lv_entry ([.ref y0, .ref row]) (n := 5) (Nat.le_of_ble_eq_true rfl)
  rw [lg_entry_eq]
  generalize (lg_sl ([.ref y0, .ref row]) ++ List.replicate (5 - (lg_sl ([.ref y0, .ref row])).length) Slot.unset).toArray = ls at hl ⊢
  have hl : lv_has ls 5 [(0, .ref y0), (1, .ref row)] := hl
  refine W_gen (fun GW hIn hOut => ?_)
  refine hIn _ _ _ _ _ ?_
  have hP0 := hP
  refine lv_iconst (v := 0) hx hb dX4_plans_0 (by decide) ?_
  refine lv_istore_n (lv' := [(2, .int 0), (0, .ref y0), (1, .ref row)]) hx hb dX4_plans_1 rfl hl (by decide) rfl (fun ls hl => ?_)
  have lp_2 : ∀ (n : Nat) (k : Int32) (wa : Nat → Int32) (H : Heap) (locs : List Loc) (ls : Array Slot), 10 - k.toNatClampNeg < n → (0 ≤ k) → (okWh wa) → va_P D vwCl [(y0, .inr (4, [.int num, .int pts, .int nw, .int en, .int gl, .int bw, .int sp, .int be, .ref m_kind, .ref m_floor, .ref m_volume, .ref m_size, .ref m_faces, .ref m_when, .ref m_ahead, .ref m_order, .ref m_tried, .ref m_chosen, .ref m_forms, .ref m_warmth, .ref m_degrees, .ref m_thousandths, .ref m_longest, .long ab, .long bl])), (m_kind, .inl (cI, 10, .inl u_kind)), (m_floor, .inl (cI, 10, .inl u_floor)), (m_volume, .inl (cI, 10, .inl u_volume)), (m_size, .inl (cI, 10, .inl u_size)), (m_faces, .inl (cI, 10, .inl u_faces)), (m_ahead, .inl (cI, 100, .inl u_ahead)), (m_forms, .inl (cI, 3, .inl u_forms)), (m_when, .inl (cI, 10, .inl wa)), (m_warmth, .inl (cI, 40, .inl u_warmth)), (m_degrees, .inl (cI, 6, .inl u_degrees)), (m_thousandths, .inl (cI, 6, .inl u_thousandths)), (row, .inl (cI, 10, .inl rf))] H → va_D A [(y0, .inr (4, [.int num, .int pts, .int nw, .int en, .int gl, .int bw, .int sp, .int be, .ref m_kind, .ref m_floor, .ref m_volume, .ref m_size, .ref m_faces, .ref m_when, .ref m_ahead, .ref m_order, .ref m_tried, .ref m_chosen, .ref m_forms, .ref m_warmth, .ref m_degrees, .ref m_thousandths, .ref m_longest, .long ab, .long bl])), (m_kind, .inl (cI, 10, .inl u_kind)), (m_floor, .inl (cI, 10, .inl u_floor)), (m_volume, .inl (cI, 10, .inl u_volume)), (m_size, .inl (cI, 10, .inl u_size)), (m_faces, .inl (cI, 10, .inl u_faces)), (m_ahead, .inl (cI, 100, .inl u_ahead)), (m_forms, .inl (cI, 3, .inl u_forms)), (m_when, .inl (cI, 10, .inl wa)), (m_warmth, .inl (cI, 40, .inl u_warmth)), (m_degrees, .inl (cI, 6, .inl u_degrees)), (m_thousandths, .inl (cI, 6, .inl u_thousandths)), (row, .inl (cI, 10, .inl rf))] → va_S A s.heap H locs → lv_has ls 5 [(0, .ref y0), (1, .ref row), (2, .int k)] → GW H locs 0 0 (F0 m 2 ls []) := by
    intro n_2
    induction n_2 with
    | zero => intro k wa H locs ls hn_2; exact absurd hn_2 (Nat.not_lt_zero _)
    | succ n_2 ih_2 =>
      intro k wa H locs ls hn_2 h0k hwa hP hD hS hl
      refine hIn _ _ _ _ _ ?_
      refine lv_iload_n hx hb dX4_plans_2 rfl (lv_at hl 2 rfl) ?_
      refine lv_aload_n hx hb dX4_plans_3 rfl (lv_at hl 0 rfl) ?_
      refine va_get (D := D) (ci := 4) (v := .int num) (C := RX4) (T := TX4) (N := 25) hx hb hts iw_X4_plans_4 hown hK hP 0 rfl rfl 0 (by decide) (hts _ wd_X4_plans_1) (fun _ h9 => h9) rfl dX4_plans_4 ?_
      refine lv_icmp_ge (tgt := 36) hx hb dX4_plans_7 (by decide) (fun c_1 => ?_) (fun c_1 => ?_)
      · refine lv_aload_n hx hb dX4_plans_36 rfl (lv_at hl 0 rfl) ?_
        refine va_get (D := D) (ci := 4) (v := .int nw) (C := RX4) (T := TX4) (N := 25) hx hb hts iw_X4_plans_4 hown hK hP 0 rfl rfl 2 (by decide) (hts _ wd_X4_plans_3) (fun _ h9 => h9) rfl dX4_plans_37 ?_
        refine lv_istore_n (lv' := [(2, .int nw), (0, .ref y0), (1, .ref row)]) hx hb dX4_plans_40 rfl hl (by decide) rfl (fun ls hl => ?_)
        have lp_41 : ∀ (n : Nat) (kd : Int32) (wb : Nat → Int32) (H : Heap) (locs : List Loc) (ls : Array Slot), 40 - kd.toNatClampNeg < n → (0 ≤ kd) → (okWh wb) → va_P D vwCl [(y0, .inr (4, [.int num, .int pts, .int nw, .int en, .int gl, .int bw, .int sp, .int be, .ref m_kind, .ref m_floor, .ref m_volume, .ref m_size, .ref m_faces, .ref m_when, .ref m_ahead, .ref m_order, .ref m_tried, .ref m_chosen, .ref m_forms, .ref m_warmth, .ref m_degrees, .ref m_thousandths, .ref m_longest, .long ab, .long bl])), (m_kind, .inl (cI, 10, .inl u_kind)), (m_floor, .inl (cI, 10, .inl u_floor)), (m_volume, .inl (cI, 10, .inl u_volume)), (m_size, .inl (cI, 10, .inl u_size)), (m_faces, .inl (cI, 10, .inl u_faces)), (m_ahead, .inl (cI, 100, .inl u_ahead)), (m_forms, .inl (cI, 3, .inl u_forms)), (m_when, .inl (cI, 10, .inl wb)), (m_warmth, .inl (cI, 40, .inl u_warmth)), (m_degrees, .inl (cI, 6, .inl u_degrees)), (m_thousandths, .inl (cI, 6, .inl u_thousandths)), (row, .inl (cI, 10, .inl rf))] H → va_D A [(y0, .inr (4, [.int num, .int pts, .int nw, .int en, .int gl, .int bw, .int sp, .int be, .ref m_kind, .ref m_floor, .ref m_volume, .ref m_size, .ref m_faces, .ref m_when, .ref m_ahead, .ref m_order, .ref m_tried, .ref m_chosen, .ref m_forms, .ref m_warmth, .ref m_degrees, .ref m_thousandths, .ref m_longest, .long ab, .long bl])), (m_kind, .inl (cI, 10, .inl u_kind)), (m_floor, .inl (cI, 10, .inl u_floor)), (m_volume, .inl (cI, 10, .inl u_volume)), (m_size, .inl (cI, 10, .inl u_size)), (m_faces, .inl (cI, 10, .inl u_faces)), (m_ahead, .inl (cI, 100, .inl u_ahead)), (m_forms, .inl (cI, 3, .inl u_forms)), (m_when, .inl (cI, 10, .inl wb)), (m_warmth, .inl (cI, 40, .inl u_warmth)), (m_degrees, .inl (cI, 6, .inl u_degrees)), (m_thousandths, .inl (cI, 6, .inl u_thousandths)), (row, .inl (cI, 10, .inl rf))] → va_S A s.heap H locs → lv_has ls 5 [(0, .ref y0), (1, .ref row), (2, .int kd)] → GW H locs 0 0 (F0 m 41 ls []) := by
          intro n_41
          induction n_41 with
          | zero => intro kd wb H locs ls hn_41; exact absurd hn_41 (Nat.not_lt_zero _)
          | succ n_41 ih_41 =>
            intro kd wb H locs ls hn_41 h0d hwb hP hD hS hl
            refine hIn _ _ _ _ _ ?_
            refine lv_iload_n hx hb dX4_plans_41 rfl (lv_at hl 2 rfl) ?_
            refine lv_bipush (v := 40) hx hb dX4_plans_42 (by decide) ?_
            refine lv_icmp_ge (tgt := 103) hx hb dX4_plans_44 (by decide) (fun c_2 => ?_) (fun c_2 => ?_)
            · refine lv_iconst (v := 0) hx hb dX4_plans_103 (by decide) ?_
              refine lv_istore_n (lv' := [(2, .int 0), (0, .ref y0), (1, .ref row)]) hx hb dX4_plans_104 rfl hl (by decide) rfl (fun ls hl => ?_)
              refine lv_iconst (v := 0) hx hb dX4_plans_105 (by decide) ?_
              refine lv_istore_n (lv' := [(3, .int 0), (2, .int 0), (0, .ref y0), (1, .ref row)]) hx hb dX4_plans_106 rfl hl (by decide) rfl (fun ls hl => ?_)
              have lp_107 : ∀ (n : Nat) (k3 : Int32) (kl : Int32) (H : Heap) (locs : List Loc) (ls : Array Slot), 10 - k3.toNatClampNeg < n → (0 ≤ k3) → (kl ≤ 40) → va_P D vwCl [(y0, .inr (4, [.int num, .int pts, .int nw, .int en, .int gl, .int bw, .int sp, .int be, .ref m_kind, .ref m_floor, .ref m_volume, .ref m_size, .ref m_faces, .ref m_when, .ref m_ahead, .ref m_order, .ref m_tried, .ref m_chosen, .ref m_forms, .ref m_warmth, .ref m_degrees, .ref m_thousandths, .ref m_longest, .long ab, .long bl])), (m_kind, .inl (cI, 10, .inl u_kind)), (m_floor, .inl (cI, 10, .inl u_floor)), (m_volume, .inl (cI, 10, .inl u_volume)), (m_size, .inl (cI, 10, .inl u_size)), (m_faces, .inl (cI, 10, .inl u_faces)), (m_ahead, .inl (cI, 100, .inl u_ahead)), (m_forms, .inl (cI, 3, .inl u_forms)), (m_when, .inl (cI, 10, .inl wb)), (m_warmth, .inl (cI, 40, .inl u_warmth)), (m_degrees, .inl (cI, 6, .inl u_degrees)), (m_thousandths, .inl (cI, 6, .inl u_thousandths)), (row, .inl (cI, 10, .inl rf))] H → va_D A [(y0, .inr (4, [.int num, .int pts, .int nw, .int en, .int gl, .int bw, .int sp, .int be, .ref m_kind, .ref m_floor, .ref m_volume, .ref m_size, .ref m_faces, .ref m_when, .ref m_ahead, .ref m_order, .ref m_tried, .ref m_chosen, .ref m_forms, .ref m_warmth, .ref m_degrees, .ref m_thousandths, .ref m_longest, .long ab, .long bl])), (m_kind, .inl (cI, 10, .inl u_kind)), (m_floor, .inl (cI, 10, .inl u_floor)), (m_volume, .inl (cI, 10, .inl u_volume)), (m_size, .inl (cI, 10, .inl u_size)), (m_faces, .inl (cI, 10, .inl u_faces)), (m_ahead, .inl (cI, 100, .inl u_ahead)), (m_forms, .inl (cI, 3, .inl u_forms)), (m_when, .inl (cI, 10, .inl wb)), (m_warmth, .inl (cI, 40, .inl u_warmth)), (m_degrees, .inl (cI, 6, .inl u_degrees)), (m_thousandths, .inl (cI, 6, .inl u_thousandths)), (row, .inl (cI, 10, .inl rf))] → va_S A s.heap H locs → lv_has ls 5 [(0, .ref y0), (2, .int kl), (3, .int k3)] → GW H locs 0 0 (F0 m 107 ls []) := by
                intro n_107
                induction n_107 with
                | zero => intro k3 kl H locs ls hn_107; exact absurd hn_107 (Nat.not_lt_zero _)
                | succ n_107 ih_107 =>
                  intro k3 kl H locs ls hn_107 h0k3 hkl hP hD hS hl
                  refine hIn _ _ _ _ _ ?_
                  refine lv_iload_n hx hb dX4_plans_107 rfl (lv_at hl 2 rfl) ?_
                  refine lv_aload_n hx hb dX4_plans_108 rfl (lv_at hl 0 rfl) ?_
                  refine va_get (D := D) (ci := 4) (v := .int num) (C := RX4) (T := TX4) (N := 25) hx hb hts iw_X4_plans_4 hown hK hP 0 rfl rfl 0 (by decide) (hts _ wd_X4_plans_1) (fun _ h9 => h9) rfl dX4_plans_109 ?_
                  refine lv_icmp_ge (tgt := 157) hx hb dX4_plans_112 (by decide) (fun c_3 => ?_) (fun c_3 => ?_)
                  · refine lv_iload_n hx hb dX4_plans_157 rfl (lv_at hl 1 rfl) ?_
                    refine W.widen (k := 0) (n := 0) (Nat.le_of_ble_eq_true rfl) (Nat.le_of_ble_eq_true rfl) ?_
                    exact fi_i wb hx hb hr hlocks hK (hP.sub [0, 1, 2, 3, 4, 5, 6, 7, 8, 9, 10, 11, 12] rfl) (hD.sub [0, 1, 2, 3, 4, 5, 6, 7, 8, 9, 10, 11, 12] (by decide) rfl) hS ⟨(pf_X4_plans_1 num pts nw u_size u_when u_degrees rf n_2 k wa n_41 kd wb n_107 k3 kl hn0 hn1 hp0 hp6 hdg hwh hz hnw0 hnw1 hrf hn_2 h0k hwa c_1 hn_41 h0d hwb c_2 hn_107 h0k3 hkl c_3), (pf_X4_plans_2 num pts nw u_size u_when u_degrees rf n_2 k wa n_41 kd wb n_107 k3 kl hn0 hn1 hp0 hp6 hdg hwh hz hnw0 hnw1 hrf hn_2 h0k hwa c_1 hn_41 h0d hwb c_2 hn_107 h0k3 hkl c_3)⟩ dX4_plans_158
                  · refine lv_aload_n hx hb dX4_plans_115 rfl (lv_at hl 0 rfl) ?_
                    refine va_get (D := D) (ci := 4) (v := .ref m_when) (C := RX4) (T := TX4) (N := 25) hx hb hts iw_X4_plans_4 hown hK hP 0 rfl rfl 13 (by decide) (hts _ wd_X4_plans_2) (fun _ h9 => h9) rfl dX4_plans_116 ?_
                    refine lv_iload_n hx hb dX4_plans_119 rfl (lv_at hl 2 rfl) ?_
                    refine va_iald hx hb hK hP 8 0 rfl rfl (pf_X4_plans_3 num pts nw u_size u_when u_degrees rf n_2 k wa n_41 kd wb n_107 k3 kl hn0 hn1 hp0 hp6 hdg hwh hz hnw0 hnw1 hrf hn_2 h0k hwa c_1 hn_41 h0d hwb c_2 hn_107 h0k3 hkl c_3) dX4_plans_120 ?_
                    refine lv_topi (fun v_4 ev_4 => ?_)
                    have fx_5 : -1 ≤ v_4 ∧ v_4 ≤ 39 := (pf_X4_plans_4 num pts nw u_size u_when u_degrees rf n_2 k wa n_41 kd wb n_107 k3 kl v_4 hn0 hn1 hp0 hp6 hdg hwh hz hnw0 hnw1 hrf hn_2 h0k hwa c_1 hn_41 h0d hwb c_2 hn_107 h0k3 hkl c_3 ev_4)
                    refine lv_iconst (v := (-1)) hx hb dX4_plans_121 (by decide) ?_
                    refine lv_icmp_ne (tgt := 130) hx hb dX4_plans_122 (by decide) (fun c_6 => ?_) (fun c_6 => ?_)
                    · refine lv_aload_n hx hb dX4_plans_130 rfl (lv_at hl 0 rfl) ?_
                      refine lv_aload_n hx hb dX4_plans_131 rfl (lv_at hl 0 rfl) ?_
                      refine va_get (D := D) (ci := 4) (v := .ref m_when) (C := RX4) (T := TX4) (N := 25) hx hb hts iw_X4_plans_4 hown hK hP 0 rfl rfl 13 (by decide) (hts _ wd_X4_plans_2) (fun _ h9 => h9) rfl dX4_plans_132 ?_
                      refine lv_iload_n hx hb dX4_plans_135 rfl (lv_at hl 2 rfl) ?_
                      refine va_iald hx hb hK hP 8 0 rfl rfl (pf_X4_plans_5 num pts nw u_size u_when u_degrees rf n_2 k wa n_41 kd wb n_107 k3 kl v_4 hn0 hn1 hp0 hp6 hdg hwh hz hnw0 hnw1 hrf hn_2 h0k hwa c_1 hn_41 h0d hwb c_2 hn_107 h0k3 hkl c_3 ev_4 fx_5 c_6) dX4_plans_136 ?_
                      refine lv_topi (fun v_7 ev_7 => ?_)
                      have fx_8 : -1 ≤ v_7 ∧ v_7 ≤ 39 := (pf_X4_plans_6 num pts nw u_size u_when u_degrees rf n_2 k wa n_41 kd wb n_107 k3 kl v_4 v_7 hn0 hn1 hp0 hp6 hdg hwh hz hnw0 hnw1 hrf hn_2 h0k hwa c_1 hn_41 h0d hwb c_2 hn_107 h0k3 hkl c_3 ev_4 fx_5 c_6 ev_7)
                      refine cc_i (wc := [(y0, .inr (4, [.int num, .int pts, .int nw, .int en, .int gl, .int bw, .int sp, .int be, .ref m_kind, .ref m_floor, .ref m_volume, .ref m_size, .ref m_faces, .ref m_when, .ref m_ahead, .ref m_order, .ref m_tried, .ref m_chosen, .ref m_forms, .ref m_warmth, .ref m_degrees, .ref m_thousandths, .ref m_longest, .long ab, .long bl])), (m_warmth, .inl (cI, 40, .inl u_warmth)), (m_degrees, .inl (cI, 6, .inl u_degrees)), (m_thousandths, .inl (cI, 6, .inl u_thousandths))]) (wr := [(m_kind, .inl (cI, 10, .inl u_kind)), (m_floor, .inl (cI, 10, .inl u_floor)), (m_volume, .inl (cI, 10, .inl u_volume)), (m_size, .inl (cI, 10, .inl u_size)), (m_faces, .inl (cI, 10, .inl u_faces)), (m_ahead, .inl (cI, 100, .inl u_ahead)), (m_forms, .inl (cI, 3, .inl u_forms)), (m_when, .inl (cI, 10, .inl wb)), (row, .inl (cI, 10, .inl rf))]) (va_runV (As := [.int v_7]) (rest := []) ⟨hx, hb, hml, hown, hts⟩ (c_X4_stripped l D cI cQ H.size y0 m_warmth m_degrees m_thousandths m_kind m_floor m_volume m_size m_faces m_when m_ahead m_order m_tried m_chosen m_forms m_longest num pts nw en gl bw sp be ab bl u_warmth u_degrees u_thousandths v_7 (pf_X4_plans_7 num pts nw u_size u_when u_degrees rf n_2 k wa n_41 kd wb n_107 k3 kl v_4 v_7 hn0 hn1 hp0 hp6 hdg hwh hz hnw0 hnw1 hrf hn_2 h0k hwa c_1 hn_41 h0d hwb c_2 hn_107 h0k3 hkl c_3 ev_4 fx_5 c_6 ev_7 fx_8) (pf_X4_plans_8 num pts nw u_size u_when u_degrees rf n_2 k wa n_41 kd wb n_107 k3 kl v_4 v_7 hn0 hn1 hp0 hp6 hdg hwh hz hnw0 hnw1 hrf hn_2 h0k hwa c_1 hn_41 h0d hwb c_2 hn_107 h0k3 hkl c_3 ev_4 fx_5 c_6 ev_7 fx_8) (pf_X4_plans_9 num pts nw u_size u_when u_degrees rf n_2 k wa n_41 kd wb n_107 k3 kl v_4 v_7 hn0 hn1 hp0 hp6 hdg hwh hz hnw0 hnw1 hrf hn_2 h0k hwa c_1 hn_41 h0d hwb c_2 hn_107 h0k3 hkl c_3 ev_4 fx_5 c_6 ev_7 fx_8) (pf_X4_plans_10 num pts nw u_size u_when u_degrees rf n_2 k wa n_41 kd wb n_107 k3 kl v_4 v_7 hn0 hn1 hp0 hp6 hdg hwh hz hnw0 hnw1 hrf hn_2 h0k hwa c_1 hn_41 h0d hwb c_2 hn_107 h0k3 hkl c_3 ev_4 fx_5 c_6 ev_7 fx_8) (pf_X4_plans_11 num pts nw u_size u_when u_degrees rf n_2 k wa n_41 kd wb n_107 k3 kl v_4 v_7 hn0 hn1 hp0 hp6 hdg hwh hz hnw0 hnw1 hrf hn_2 h0k hwa c_1 hn_41 h0d hwb c_2 hn_107 h0k3 hkl c_3 ev_4 fx_5 c_6 ev_7 fx_8)) (cwV 1 hts gX4_plans_X4_stripped rfl rfl rfl (by decide +kernel) ⟨Nat.le_of_ble_eq_true rfl, Nat.le_of_ble_eq_true rfl⟩) (preV (wc := [(y0, .inr (4, [.int num, .int pts, .int nw, .int en, .int gl, .int bw, .int sp, .int be, .ref m_kind, .ref m_floor, .ref m_volume, .ref m_size, .ref m_faces, .ref m_when, .ref m_ahead, .ref m_order, .ref m_tried, .ref m_chosen, .ref m_forms, .ref m_warmth, .ref m_degrees, .ref m_thousandths, .ref m_longest, .long ab, .long bl])), (m_warmth, .inl (cI, 40, .inl u_warmth)), (m_degrees, .inl (cI, 6, .inl u_degrees)), (m_thousandths, .inl (cI, 6, .inl u_thousandths))]) (ci := 4) (q0 := 0) hK hP hD hN [0, 9, 10, 11] rfl (by decide) rfl rfl) rfl rfl hl.1 rfl (lv_room (Nat.le_of_ble_eq_true rfl)) dX4_plans_137 ⟨Nat.le_of_ble_eq_true rfl, Nat.le_of_ble_eq_true rfl⟩) hP hD hS hA [0, 9, 10, 11] [1, 2, 3, 4, 5, 6, 7, 8, 12] rfl rfl (by decide) (by decide) (fun r_9 u H locs w_10 hP hD hS => ?_)
                      have hP : va_P D vwCl [(m_kind, .inl (cI, 10, .inl u_kind)), (m_floor, .inl (cI, 10, .inl u_floor)), (m_volume, .inl (cI, 10, .inl u_volume)), (m_size, .inl (cI, 10, .inl u_size)), (m_faces, .inl (cI, 10, .inl u_faces)), (m_ahead, .inl (cI, 100, .inl u_ahead)), (m_forms, .inl (cI, 3, .inl u_forms)), (m_when, .inl (cI, 10, .inl wb)), (row, .inl (cI, 10, .inl rf)), (y0, .inr (4, [.int num, .int pts, .int nw, .int en, .int gl, .int bw, .int sp, .int be, .ref m_kind, .ref m_floor, .ref m_volume, .ref m_size, .ref m_faces, .ref m_when, .ref m_ahead, .ref m_order, .ref m_tried, .ref m_chosen, .ref m_forms, .ref m_warmth, .ref m_degrees, .ref m_thousandths, .ref m_longest, .long ab, .long bl])), (m_warmth, .inl (cI, 40, .inl u_warmth)), (m_degrees, .inl (cI, 6, .inl u_degrees)), (m_thousandths, .inl (cI, 6, .inl u_thousandths))] H := hP
                      have hD : va_D A [(m_kind, .inl (cI, 10, .inl u_kind)), (m_floor, .inl (cI, 10, .inl u_floor)), (m_volume, .inl (cI, 10, .inl u_volume)), (m_size, .inl (cI, 10, .inl u_size)), (m_faces, .inl (cI, 10, .inl u_faces)), (m_ahead, .inl (cI, 100, .inl u_ahead)), (m_forms, .inl (cI, 3, .inl u_forms)), (m_when, .inl (cI, 10, .inl wb)), (row, .inl (cI, 10, .inl rf)), (y0, .inr (4, [.int num, .int pts, .int nw, .int en, .int gl, .int bw, .int sp, .int be, .ref m_kind, .ref m_floor, .ref m_volume, .ref m_size, .ref m_faces, .ref m_when, .ref m_ahead, .ref m_order, .ref m_tried, .ref m_chosen, .ref m_forms, .ref m_warmth, .ref m_degrees, .ref m_thousandths, .ref m_longest, .long ab, .long bl])), (m_warmth, .inl (cI, 40, .inl u_warmth)), (m_degrees, .inl (cI, 6, .inl u_degrees)), (m_thousandths, .inl (cI, 6, .inl u_thousandths))] := hD
                      have w_10 : r_9 ≤ 40 := w_10
                      refine lv_istore (lv' := [(4, .int r_9), (0, .ref y0), (2, .int kl), (3, .int k3)]) hx hb dX4_plans_140 hl (by decide) rfl (fun ls hl => ?_)
                      refine lv_iload hx hb dX4_plans_142 (lv_at hl 0 rfl) ?_
                      refine lv_iload_n hx hb dX4_plans_144 rfl (lv_at hl 2 rfl) ?_
                      refine lv_icmp_le (tgt := 151) hx hb dX4_plans_145 (by decide) (fun c_12 => ?_) (fun c_12 => ?_)
                      · obtain ⟨v_13, ev_13⟩ : ∃ y : Int32, y = k3 + 1 := ⟨_, rfl⟩
                        refine lv_iinc (v := v_13) (lv' := [(3, .int v_13), (4, .int r_9), (0, .ref y0), (2, .int kl)]) hx hb dX4_plans_151 hl (k := 3) rfl (by rw [ev_13]; rfl) (by decide) rfl (fun ls hl => ?_)
                        refine lv_goto (tgt := 107) hx hb dX4_plans_154 (by decide) ?_
                        exact hOut _ _ _ _ _ (ih_107 v_13 kl _ _ _ (pf_X4_plans_12 num pts nw u_size u_when u_degrees rf n_2 k wa n_41 kd wb n_107 k3 kl v_4 v_7 r_9 v_13 hn0 hn1 hp0 hp6 hdg hwh hz hnw0 hnw1 hrf hn_2 h0k hwa c_1 hn_41 h0d hwb c_2 hn_107 h0k3 hkl c_3 ev_4 fx_5 c_6 ev_7 fx_8 w_10 c_12 ev_13) (pf_X4_plans_13 num pts nw u_size u_when u_degrees rf n_2 k wa n_41 kd wb n_107 k3 kl v_4 v_7 r_9 v_13 hn0 hn1 hp0 hp6 hdg hwh hz hnw0 hnw1 hrf hn_2 h0k hwa c_1 hn_41 h0d hwb c_2 hn_107 h0k3 hkl c_3 ev_4 fx_5 c_6 ev_7 fx_8 w_10 c_12 ev_13) (pf_X4_plans_14 num pts nw u_size u_when u_degrees rf n_2 k wa n_41 kd wb n_107 k3 kl v_4 v_7 r_9 v_13 hn0 hn1 hp0 hp6 hdg hwh hz hnw0 hnw1 hrf hn_2 h0k hwa c_1 hn_41 h0d hwb c_2 hn_107 h0k3 hkl c_3 ev_4 fx_5 c_6 ev_7 fx_8 w_10 c_12 ev_13) (hP.sub [9, 0, 1, 2, 3, 4, 5, 6, 7, 10, 11, 12, 8] rfl) (hD.sub [9, 0, 1, 2, 3, 4, 5, 6, 7, 10, 11, 12, 8] (by decide) rfl) hS (lv_sub hl [2, 3, 0] rfl))
                      · refine lv_iload hx hb dX4_plans_148 (lv_at hl 0 rfl) ?_
                        refine lv_istore_n (lv' := [(2, .int r_9), (4, .int r_9), (0, .ref y0), (3, .int k3)]) hx hb dX4_plans_150 rfl hl (by decide) rfl (fun ls hl => ?_)
                        obtain ⟨v_14, ev_14⟩ : ∃ y : Int32, y = k3 + 1 := ⟨_, rfl⟩
                        refine lv_iinc (v := v_14) (lv' := [(3, .int v_14), (2, .int r_9), (4, .int r_9), (0, .ref y0)]) hx hb dX4_plans_151 hl (k := 3) rfl (by rw [ev_14]; rfl) (by decide) rfl (fun ls hl => ?_)
                        refine lv_goto (tgt := 107) hx hb dX4_plans_154 (by decide) ?_
                        exact hOut _ _ _ _ _ (ih_107 v_14 r_9 _ _ _ (pf_X4_plans_15 num pts nw u_size u_when u_degrees rf n_2 k wa n_41 kd wb n_107 k3 kl v_4 v_7 r_9 v_14 hn0 hn1 hp0 hp6 hdg hwh hz hnw0 hnw1 hrf hn_2 h0k hwa c_1 hn_41 h0d hwb c_2 hn_107 h0k3 hkl c_3 ev_4 fx_5 c_6 ev_7 fx_8 w_10 c_12 ev_14) (pf_X4_plans_16 num pts nw u_size u_when u_degrees rf n_2 k wa n_41 kd wb n_107 k3 kl v_4 v_7 r_9 v_14 hn0 hn1 hp0 hp6 hdg hwh hz hnw0 hnw1 hrf hn_2 h0k hwa c_1 hn_41 h0d hwb c_2 hn_107 h0k3 hkl c_3 ev_4 fx_5 c_6 ev_7 fx_8 w_10 c_12 ev_14) (pf_X4_plans_17 num pts nw u_size u_when u_degrees rf n_2 k wa n_41 kd wb n_107 k3 kl v_4 v_7 r_9 v_14 hn0 hn1 hp0 hp6 hdg hwh hz hnw0 hnw1 hrf hn_2 h0k hwa c_1 hn_41 h0d hwb c_2 hn_107 h0k3 hkl c_3 ev_4 fx_5 c_6 ev_7 fx_8 w_10 c_12 ev_14) (hP.sub [9, 0, 1, 2, 3, 4, 5, 6, 7, 10, 11, 12, 8] rfl) (hD.sub [9, 0, 1, 2, 3, 4, 5, 6, 7, 10, 11, 12, 8] (by decide) rfl) hS (lv_sub hl [3, 1, 0] rfl))
                    · refine lv_bipush (v := 40) hx hb dX4_plans_125 (by decide) ?_
                      refine lv_goto (tgt := 140) hx hb dX4_plans_127 (by decide) ?_
                      refine lv_istore (lv' := [(4, .int 40), (0, .ref y0), (2, .int kl), (3, .int k3)]) hx hb dX4_plans_140 hl (by decide) rfl (fun ls hl => ?_)
                      refine lv_iload hx hb dX4_plans_142 (lv_at hl 0 rfl) ?_
                      refine lv_iload_n hx hb dX4_plans_144 rfl (lv_at hl 2 rfl) ?_
                      refine lv_icmp_le (tgt := 151) hx hb dX4_plans_145 (by decide) (fun c_15 => ?_) (fun c_15 => ?_)
                      · obtain ⟨v_16, ev_16⟩ : ∃ y : Int32, y = k3 + 1 := ⟨_, rfl⟩
                        refine lv_iinc (v := v_16) (lv' := [(3, .int v_16), (4, .int 40), (0, .ref y0), (2, .int kl)]) hx hb dX4_plans_151 hl (k := 3) rfl (by rw [ev_16]; rfl) (by decide) rfl (fun ls hl => ?_)
                        refine lv_goto (tgt := 107) hx hb dX4_plans_154 (by decide) ?_
                        exact hOut _ _ _ _ _ (ih_107 v_16 kl _ _ _ (pf_X4_plans_18 num pts nw u_size u_when u_degrees rf n_2 k wa n_41 kd wb n_107 k3 kl v_4 v_16 hn0 hn1 hp0 hp6 hdg hwh hz hnw0 hnw1 hrf hn_2 h0k hwa c_1 hn_41 h0d hwb c_2 hn_107 h0k3 hkl c_3 ev_4 fx_5 c_6 c_15 ev_16) (pf_X4_plans_19 num pts nw u_size u_when u_degrees rf n_2 k wa n_41 kd wb n_107 k3 kl v_4 v_16 hn0 hn1 hp0 hp6 hdg hwh hz hnw0 hnw1 hrf hn_2 h0k hwa c_1 hn_41 h0d hwb c_2 hn_107 h0k3 hkl c_3 ev_4 fx_5 c_6 c_15 ev_16) (pf_X4_plans_20 num pts nw u_size u_when u_degrees rf n_2 k wa n_41 kd wb n_107 k3 kl v_4 v_16 hn0 hn1 hp0 hp6 hdg hwh hz hnw0 hnw1 hrf hn_2 h0k hwa c_1 hn_41 h0d hwb c_2 hn_107 h0k3 hkl c_3 ev_4 fx_5 c_6 c_15 ev_16) (hP.sub [0, 1, 2, 3, 4, 5, 6, 7, 8, 9, 10, 11, 12] rfl) (hD.sub [0, 1, 2, 3, 4, 5, 6, 7, 8, 9, 10, 11, 12] (by decide) rfl) hS (lv_sub hl [2, 3, 0] rfl))
                      · refine lv_iload hx hb dX4_plans_148 (lv_at hl 0 rfl) ?_
                        refine lv_istore_n (lv' := [(2, .int 40), (4, .int 40), (0, .ref y0), (3, .int k3)]) hx hb dX4_plans_150 rfl hl (by decide) rfl (fun ls hl => ?_)
                        obtain ⟨v_17, ev_17⟩ : ∃ y : Int32, y = k3 + 1 := ⟨_, rfl⟩
                        refine lv_iinc (v := v_17) (lv' := [(3, .int v_17), (2, .int 40), (4, .int 40), (0, .ref y0)]) hx hb dX4_plans_151 hl (k := 3) rfl (by rw [ev_17]; rfl) (by decide) rfl (fun ls hl => ?_)
                        refine lv_goto (tgt := 107) hx hb dX4_plans_154 (by decide) ?_
                        exact hOut _ _ _ _ _ (ih_107 v_17 40 _ _ _ (pf_X4_plans_21 num pts nw u_size u_when u_degrees rf n_2 k wa n_41 kd wb n_107 k3 kl v_4 v_17 hn0 hn1 hp0 hp6 hdg hwh hz hnw0 hnw1 hrf hn_2 h0k hwa c_1 hn_41 h0d hwb c_2 hn_107 h0k3 hkl c_3 ev_4 fx_5 c_6 c_15 ev_17) (pf_X4_plans_22 num pts nw u_size u_when u_degrees rf n_2 k wa n_41 kd wb n_107 k3 kl v_4 v_17 hn0 hn1 hp0 hp6 hdg hwh hz hnw0 hnw1 hrf hn_2 h0k hwa c_1 hn_41 h0d hwb c_2 hn_107 h0k3 hkl c_3 ev_4 fx_5 c_6 c_15 ev_17) (pf_X4_plans_23 num pts nw u_size u_when u_degrees rf n_2 k wa n_41 kd wb n_107 k3 kl v_4 v_17 hn0 hn1 hp0 hp6 hdg hwh hz hnw0 hnw1 hrf hn_2 h0k hwa c_1 hn_41 h0d hwb c_2 hn_107 h0k3 hkl c_3 ev_4 fx_5 c_6 c_15 ev_17) (hP.sub [0, 1, 2, 3, 4, 5, 6, 7, 8, 9, 10, 11, 12] rfl) (hD.sub [0, 1, 2, 3, 4, 5, 6, 7, 8, 9, 10, 11, 12] (by decide) rfl) hS (lv_sub hl [3, 1, 0] rfl))
              exact hOut _ _ _ _ _ (lp_107 (10 - (0 : Int32).toNatClampNeg + 1) 0 0 _ _ _ (Nat.lt_succ_self _) (pf_X4_plans_24 num pts nw u_size u_when u_degrees rf n_2 k wa n_41 kd wb hn0 hn1 hp0 hp6 hdg hwh hz hnw0 hnw1 hrf hn_2 h0k hwa c_1 hn_41 h0d hwb c_2) (pf_X4_plans_25 num pts nw u_size u_when u_degrees rf n_2 k wa n_41 kd wb hn0 hn1 hp0 hp6 hdg hwh hz hnw0 hnw1 hrf hn_2 h0k hwa c_1 hn_41 h0d hwb c_2) (hP.sub [0, 1, 2, 3, 4, 5, 6, 7, 8, 9, 10, 11, 12] rfl) (hD.sub [0, 1, 2, 3, 4, 5, 6, 7, 8, 9, 10, 11, 12] (by decide) rfl) hS (lv_sub hl [2, 1, 0] rfl))
            · refine lv_iconst (v := 0) hx hb dX4_plans_47 (by decide) ?_
              refine lv_istore_n (lv' := [(3, .int 0), (0, .ref y0), (1, .ref row), (2, .int kd)]) hx hb dX4_plans_48 rfl hl (by decide) rfl (fun ls hl => ?_)
              have lp_49 : ∀ (n : Nat) (k2 : Int32) (wc : Nat → Int32) (H : Heap) (locs : List Loc) (ls : Array Slot), 10 - k2.toNatClampNeg < n → (0 ≤ k2) → (okWh wc) → va_P D vwCl [(y0, .inr (4, [.int num, .int pts, .int nw, .int en, .int gl, .int bw, .int sp, .int be, .ref m_kind, .ref m_floor, .ref m_volume, .ref m_size, .ref m_faces, .ref m_when, .ref m_ahead, .ref m_order, .ref m_tried, .ref m_chosen, .ref m_forms, .ref m_warmth, .ref m_degrees, .ref m_thousandths, .ref m_longest, .long ab, .long bl])), (m_kind, .inl (cI, 10, .inl u_kind)), (m_floor, .inl (cI, 10, .inl u_floor)), (m_volume, .inl (cI, 10, .inl u_volume)), (m_size, .inl (cI, 10, .inl u_size)), (m_faces, .inl (cI, 10, .inl u_faces)), (m_ahead, .inl (cI, 100, .inl u_ahead)), (m_forms, .inl (cI, 3, .inl u_forms)), (m_when, .inl (cI, 10, .inl wc)), (m_warmth, .inl (cI, 40, .inl u_warmth)), (m_degrees, .inl (cI, 6, .inl u_degrees)), (m_thousandths, .inl (cI, 6, .inl u_thousandths)), (row, .inl (cI, 10, .inl rf))] H → va_D A [(y0, .inr (4, [.int num, .int pts, .int nw, .int en, .int gl, .int bw, .int sp, .int be, .ref m_kind, .ref m_floor, .ref m_volume, .ref m_size, .ref m_faces, .ref m_when, .ref m_ahead, .ref m_order, .ref m_tried, .ref m_chosen, .ref m_forms, .ref m_warmth, .ref m_degrees, .ref m_thousandths, .ref m_longest, .long ab, .long bl])), (m_kind, .inl (cI, 10, .inl u_kind)), (m_floor, .inl (cI, 10, .inl u_floor)), (m_volume, .inl (cI, 10, .inl u_volume)), (m_size, .inl (cI, 10, .inl u_size)), (m_faces, .inl (cI, 10, .inl u_faces)), (m_ahead, .inl (cI, 100, .inl u_ahead)), (m_forms, .inl (cI, 3, .inl u_forms)), (m_when, .inl (cI, 10, .inl wc)), (m_warmth, .inl (cI, 40, .inl u_warmth)), (m_degrees, .inl (cI, 6, .inl u_degrees)), (m_thousandths, .inl (cI, 6, .inl u_thousandths)), (row, .inl (cI, 10, .inl rf))] → va_S A s.heap H locs → lv_has ls 5 [(0, .ref y0), (1, .ref row), (2, .int kd), (3, .int k2)] → GW H locs 0 0 (F0 m 49 ls []) := by
                intro n_49
                induction n_49 with
                | zero => intro k2 wc H locs ls hn_49; exact absurd hn_49 (Nat.not_lt_zero _)
                | succ n_49 ih_49 =>
                  intro k2 wc H locs ls hn_49 h0k2 hwc hP hD hS hl
                  refine hIn _ _ _ _ _ ?_
                  refine lv_iload_n hx hb dX4_plans_49 rfl (lv_at hl 3 rfl) ?_
                  refine lv_aload_n hx hb dX4_plans_50 rfl (lv_at hl 0 rfl) ?_
                  refine va_get (D := D) (ci := 4) (v := .int num) (C := RX4) (T := TX4) (N := 25) hx hb hts iw_X4_plans_4 hown hK hP 0 rfl rfl 0 (by decide) (hts _ wd_X4_plans_1) (fun _ h9 => h9) rfl dX4_plans_51 ?_
                  refine lv_icmp_ge (tgt := 97) hx hb dX4_plans_54 (by decide) (fun c_18 => ?_) (fun c_18 => ?_)
                  · obtain ⟨v_19, ev_19⟩ : ∃ y : Int32, y = kd + 1 := ⟨_, rfl⟩
                    refine lv_iinc (v := v_19) (lv' := [(2, .int v_19), (0, .ref y0), (1, .ref row), (3, .int k2)]) hx hb dX4_plans_97 hl (k := 2) rfl (by rw [ev_19]; rfl) (by decide) rfl (fun ls hl => ?_)
                    refine lv_goto (tgt := 41) hx hb dX4_plans_100 (by decide) ?_
                    exact hOut _ _ _ _ _ (ih_41 v_19 wc _ _ _ (pf_X4_plans_26 num pts nw u_size u_when u_degrees rf n_2 k wa n_41 kd wb n_49 k2 wc v_19 hn0 hn1 hp0 hp6 hdg hwh hz hnw0 hnw1 hrf hn_2 h0k hwa c_1 hn_41 h0d hwb c_2 hn_49 h0k2 hwc c_18 ev_19) (pf_X4_plans_27 num pts nw u_size u_when u_degrees rf n_2 k wa n_41 kd wb n_49 k2 wc v_19 hn0 hn1 hp0 hp6 hdg hwh hz hnw0 hnw1 hrf hn_2 h0k hwa c_1 hn_41 h0d hwb c_2 hn_49 h0k2 hwc c_18 ev_19) (pf_X4_plans_28 num pts nw u_size u_when u_degrees rf n_2 k wa n_41 kd wb n_49 k2 wc v_19 hn0 hn1 hp0 hp6 hdg hwh hz hnw0 hnw1 hrf hn_2 h0k hwa c_1 hn_41 h0d hwb c_2 hn_49 h0k2 hwc c_18 ev_19) (hP.sub [0, 1, 2, 3, 4, 5, 6, 7, 8, 9, 10, 11, 12] rfl) (hD.sub [0, 1, 2, 3, 4, 5, 6, 7, 8, 9, 10, 11, 12] (by decide) rfl) hS (lv_sub hl [1, 2, 0] rfl))
                  · refine lv_aload_n hx hb dX4_plans_57 rfl (lv_at hl 1 rfl) ?_
                    refine lv_iload_n hx hb dX4_plans_58 rfl (lv_at hl 3 rfl) ?_
                    refine va_iald hx hb hK hP 12 0 rfl rfl (pf_X4_plans_29 num pts nw u_size u_when u_degrees rf n_2 k wa n_41 kd wb n_49 k2 wc hn0 hn1 hp0 hp6 hdg hwh hz hnw0 hnw1 hrf hn_2 h0k hwa c_1 hn_41 h0d hwb c_2 hn_49 h0k2 hwc c_18) dX4_plans_59 ?_
                    refine lv_topi (fun v_20 ev_20 => ?_)
                    have fx_21 : 0 ≤ v_20 ∧ v_20 < num := (pf_X4_plans_30 num pts nw u_size u_when u_degrees rf n_2 k wa n_41 kd wb n_49 k2 wc v_20 hn0 hn1 hp0 hp6 hdg hwh hz hnw0 hnw1 hrf hn_2 h0k hwa c_1 hn_41 h0d hwb c_2 hn_49 h0k2 hwc c_18 ev_20)
                    refine lv_istore (lv' := [(4, .int v_20), (0, .ref y0), (1, .ref row), (2, .int kd), (3, .int k2)]) hx hb dX4_plans_60 hl (by decide) rfl (fun ls hl => ?_)
                    refine lv_aload_n hx hb dX4_plans_62 rfl (lv_at hl 1 rfl) ?_
                    refine va_get (D := D) (ci := 4) (v := .ref m_when) (C := RX4) (T := TX4) (N := 25) hx hb hts iw_X4_plans_4 hown hK hP 0 rfl rfl 13 (by decide) (hts _ wd_X4_plans_2) (fun _ h9 => h9) rfl dX4_plans_63 ?_
                    refine lv_iload hx hb dX4_plans_66 (lv_at hl 0 rfl) ?_
                    refine va_iald hx hb hK hP 8 0 rfl rfl (pf_X4_plans_31 num pts nw u_size u_when u_degrees rf n_2 k wa n_41 kd wb n_49 k2 wc v_20 hn0 hn1 hp0 hp6 hdg hwh hz hnw0 hnw1 hrf hn_2 h0k hwa c_1 hn_41 h0d hwb c_2 hn_49 h0k2 hwc c_18 ev_20 fx_21) dX4_plans_68 ?_
                    refine lv_topi (fun v_22 ev_22 => ?_)
                    refine lv_iconst (v := (-1)) hx hb dX4_plans_69 (by decide) ?_
                    refine lv_icmp_ne (tgt := 91) hx hb dX4_plans_70 (by decide) (fun c_23 => ?_) (fun c_23 => ?_)
                    · obtain ⟨v_24, ev_24⟩ : ∃ y : Int32, y = k2 + 1 := ⟨_, rfl⟩
                      refine lv_iinc (v := v_24) (lv' := [(3, .int v_24), (4, .int v_20), (0, .ref y0), (1, .ref row), (2, .int kd)]) hx hb dX4_plans_91 hl (k := 4) rfl (by rw [ev_24]; rfl) (by decide) rfl (fun ls hl => ?_)
                      refine lv_goto (tgt := 49) hx hb dX4_plans_94 (by decide) ?_
                      exact hOut _ _ _ _ _ (ih_49 v_24 wc _ _ _ (pf_X4_plans_32 num pts nw u_size u_when u_degrees rf n_2 k wa n_41 kd wb n_49 k2 wc v_20 v_22 v_24 hn0 hn1 hp0 hp6 hdg hwh hz hnw0 hnw1 hrf hn_2 h0k hwa c_1 hn_41 h0d hwb c_2 hn_49 h0k2 hwc c_18 ev_20 fx_21 ev_22 c_23 ev_24) (pf_X4_plans_33 num pts nw u_size u_when u_degrees rf n_2 k wa n_41 kd wb n_49 k2 wc v_20 v_22 v_24 hn0 hn1 hp0 hp6 hdg hwh hz hnw0 hnw1 hrf hn_2 h0k hwa c_1 hn_41 h0d hwb c_2 hn_49 h0k2 hwc c_18 ev_20 fx_21 ev_22 c_23 ev_24) (pf_X4_plans_34 num pts nw u_size u_when u_degrees rf n_2 k wa n_41 kd wb n_49 k2 wc v_20 v_22 v_24 hn0 hn1 hp0 hp6 hdg hwh hz hnw0 hnw1 hrf hn_2 h0k hwa c_1 hn_41 h0d hwb c_2 hn_49 h0k2 hwc c_18 ev_20 fx_21 ev_22 c_23 ev_24) (hP.sub [0, 1, 2, 3, 4, 5, 6, 7, 8, 9, 10, 11, 12] rfl) (hD.sub [0, 1, 2, 3, 4, 5, 6, 7, 8, 9, 10, 11, 12] (by decide) rfl) hS (lv_sub hl [2, 3, 4, 0] rfl))
                    · refine lv_aload_n hx hb dX4_plans_73 rfl (lv_at hl 1 rfl) ?_
                      refine lv_iload hx hb dX4_plans_74 (lv_at hl 0 rfl) ?_
                      refine lv_iload_n hx hb dX4_plans_76 rfl (lv_at hl 3 rfl) ?_
                      refine cc_i (wc := [(y0, .inr (4, [.int num, .int pts, .int nw, .int en, .int gl, .int bw, .int sp, .int be, .ref m_kind, .ref m_floor, .ref m_volume, .ref m_size, .ref m_faces, .ref m_when, .ref m_ahead, .ref m_order, .ref m_tried, .ref m_chosen, .ref m_forms, .ref m_warmth, .ref m_degrees, .ref m_thousandths, .ref m_longest, .long ab, .long bl])), (m_kind, .inl (cI, 10, .inl u_kind)), (m_floor, .inl (cI, 10, .inl u_floor)), (m_volume, .inl (cI, 10, .inl u_volume)), (m_size, .inl (cI, 10, .inl u_size)), (m_faces, .inl (cI, 10, .inl u_faces)), (m_ahead, .inl (cI, 100, .inl u_ahead)), (m_forms, .inl (cI, 3, .inl u_forms)), (m_when, .inl (cI, 10, .inl wc)), (m_warmth, .inl (cI, 40, .inl u_warmth)), (m_degrees, .inl (cI, 6, .inl u_degrees)), (m_thousandths, .inl (cI, 6, .inl u_thousandths))]) (wr := [(row, .inl (cI, 10, .inl rf))]) (va_runV (As := [.int v_20, .int kd]) (rest := []) ⟨hx, hb, hml, hown, hts⟩ (c_X4_hinders l D cI cQ H.size y0 m_kind m_floor m_volume m_size m_faces m_ahead m_forms m_when m_warmth m_degrees m_thousandths m_order m_tried m_chosen m_longest num pts nw en gl bw sp be ab bl u_kind u_floor u_volume u_size u_faces u_ahead u_forms wc u_warmth u_degrees u_thousandths v_20 kd (pf_X4_plans_35 num pts nw u_size u_when u_degrees rf n_2 k wa n_41 kd wb n_49 k2 wc v_20 v_22 hn0 hn1 hp0 hp6 hdg hwh hz hnw0 hnw1 hrf hn_2 h0k hwa c_1 hn_41 h0d hwb c_2 hn_49 h0k2 hwc c_18 ev_20 fx_21 ev_22 c_23) (pf_X4_plans_36 num pts nw u_size u_when u_degrees rf n_2 k wa n_41 kd wb n_49 k2 wc v_20 v_22 hn0 hn1 hp0 hp6 hdg hwh hz hnw0 hnw1 hrf hn_2 h0k hwa c_1 hn_41 h0d hwb c_2 hn_49 h0k2 hwc c_18 ev_20 fx_21 ev_22 c_23) (pf_X4_plans_37 num pts nw u_size u_when u_degrees rf n_2 k wa n_41 kd wb n_49 k2 wc v_20 v_22 hn0 hn1 hp0 hp6 hdg hwh hz hnw0 hnw1 hrf hn_2 h0k hwa c_1 hn_41 h0d hwb c_2 hn_49 h0k2 hwc c_18 ev_20 fx_21 ev_22 c_23) (pf_X4_plans_38 num pts nw u_size u_when u_degrees rf n_2 k wa n_41 kd wb n_49 k2 wc v_20 v_22 hn0 hn1 hp0 hp6 hdg hwh hz hnw0 hnw1 hrf hn_2 h0k hwa c_1 hn_41 h0d hwb c_2 hn_49 h0k2 hwc c_18 ev_20 fx_21 ev_22 c_23) (pf_X4_plans_39 num pts nw u_size u_when u_degrees rf n_2 k wa n_41 kd wb n_49 k2 wc v_20 v_22 hn0 hn1 hp0 hp6 hdg hwh hz hnw0 hnw1 hrf hn_2 h0k hwa c_1 hn_41 h0d hwb c_2 hn_49 h0k2 hwc c_18 ev_20 fx_21 ev_22 c_23) (pf_X4_plans_40 num pts nw u_size u_when u_degrees rf n_2 k wa n_41 kd wb n_49 k2 wc v_20 v_22 hn0 hn1 hp0 hp6 hdg hwh hz hnw0 hnw1 hrf hn_2 h0k hwa c_1 hn_41 h0d hwb c_2 hn_49 h0k2 hwc c_18 ev_20 fx_21 ev_22 c_23) (pf_X4_plans_41 num pts nw u_size u_when u_degrees rf n_2 k wa n_41 kd wb n_49 k2 wc v_20 v_22 hn0 hn1 hp0 hp6 hdg hwh hz hnw0 hnw1 hrf hn_2 h0k hwa c_1 hn_41 h0d hwb c_2 hn_49 h0k2 hwc c_18 ev_20 fx_21 ev_22 c_23) (pf_X4_plans_42 num pts nw u_size u_when u_degrees rf n_2 k wa n_41 kd wb n_49 k2 wc v_20 v_22 hn0 hn1 hp0 hp6 hdg hwh hz hnw0 hnw1 hrf hn_2 h0k hwa c_1 hn_41 h0d hwb c_2 hn_49 h0k2 hwc c_18 ev_20 fx_21 ev_22 c_23) (pf_X4_plans_43 num pts nw u_size u_when u_degrees rf n_2 k wa n_41 kd wb n_49 k2 wc v_20 v_22 hn0 hn1 hp0 hp6 hdg hwh hz hnw0 hnw1 hrf hn_2 h0k hwa c_1 hn_41 h0d hwb c_2 hn_49 h0k2 hwc c_18 ev_20 fx_21 ev_22 c_23) (pf_X4_plans_44 num pts nw u_size u_when u_degrees rf n_2 k wa n_41 kd wb n_49 k2 wc v_20 v_22 hn0 hn1 hp0 hp6 hdg hwh hz hnw0 hnw1 hrf hn_2 h0k hwa c_1 hn_41 h0d hwb c_2 hn_49 h0k2 hwc c_18 ev_20 fx_21 ev_22 c_23)) (cwV 2 hts gX4_plans_X4_hinders rfl rfl rfl (by decide +kernel) ⟨Nat.le_of_ble_eq_true rfl, Nat.le_of_ble_eq_true rfl⟩) (preV (wc := [(y0, .inr (4, [.int num, .int pts, .int nw, .int en, .int gl, .int bw, .int sp, .int be, .ref m_kind, .ref m_floor, .ref m_volume, .ref m_size, .ref m_faces, .ref m_when, .ref m_ahead, .ref m_order, .ref m_tried, .ref m_chosen, .ref m_forms, .ref m_warmth, .ref m_degrees, .ref m_thousandths, .ref m_longest, .long ab, .long bl])), (m_kind, .inl (cI, 10, .inl u_kind)), (m_floor, .inl (cI, 10, .inl u_floor)), (m_volume, .inl (cI, 10, .inl u_volume)), (m_size, .inl (cI, 10, .inl u_size)), (m_faces, .inl (cI, 10, .inl u_faces)), (m_ahead, .inl (cI, 100, .inl u_ahead)), (m_forms, .inl (cI, 3, .inl u_forms)), (m_when, .inl (cI, 10, .inl wc)), (m_warmth, .inl (cI, 40, .inl u_warmth)), (m_degrees, .inl (cI, 6, .inl u_degrees)), (m_thousandths, .inl (cI, 6, .inl u_thousandths))]) (ci := 4) (q0 := 0) hK hP hD hN [0, 1, 2, 3, 4, 5, 6, 7, 8, 9, 10, 11] rfl (by decide) rfl rfl) rfl rfl hl.1 rfl (lv_room (Nat.le_of_ble_eq_true rfl)) dX4_plans_77 ⟨Nat.le_of_ble_eq_true rfl, Nat.le_of_ble_eq_true rfl⟩) hP hD hS hA [0, 1, 2, 3, 4, 5, 6, 7, 8, 9, 10, 11] [12] rfl rfl (by decide) (by decide) (fun r_25 u H locs w_26 hP hD hS => ?_)
                      have hP : va_P D vwCl [(row, .inl (cI, 10, .inl rf)), (y0, .inr (4, [.int num, .int pts, .int nw, .int en, .int gl, .int bw, .int sp, .int be, .ref m_kind, .ref m_floor, .ref m_volume, .ref m_size, .ref m_faces, .ref m_when, .ref m_ahead, .ref m_order, .ref m_tried, .ref m_chosen, .ref m_forms, .ref m_warmth, .ref m_degrees, .ref m_thousandths, .ref m_longest, .long ab, .long bl])), (m_kind, .inl (cI, 10, .inl u_kind)), (m_floor, .inl (cI, 10, .inl u_floor)), (m_volume, .inl (cI, 10, .inl u_volume)), (m_size, .inl (cI, 10, .inl u_size)), (m_faces, .inl (cI, 10, .inl u_faces)), (m_ahead, .inl (cI, 100, .inl u_ahead)), (m_forms, .inl (cI, 3, .inl u_forms)), (m_when, .inl (cI, 10, .inl wc)), (m_warmth, .inl (cI, 40, .inl u_warmth)), (m_degrees, .inl (cI, 6, .inl u_degrees)), (m_thousandths, .inl (cI, 6, .inl u_thousandths))] H := hP
                      have hD : va_D A [(row, .inl (cI, 10, .inl rf)), (y0, .inr (4, [.int num, .int pts, .int nw, .int en, .int gl, .int bw, .int sp, .int be, .ref m_kind, .ref m_floor, .ref m_volume, .ref m_size, .ref m_faces, .ref m_when, .ref m_ahead, .ref m_order, .ref m_tried, .ref m_chosen, .ref m_forms, .ref m_warmth, .ref m_degrees, .ref m_thousandths, .ref m_longest, .long ab, .long bl])), (m_kind, .inl (cI, 10, .inl u_kind)), (m_floor, .inl (cI, 10, .inl u_floor)), (m_volume, .inl (cI, 10, .inl u_volume)), (m_size, .inl (cI, 10, .inl u_size)), (m_faces, .inl (cI, 10, .inl u_faces)), (m_ahead, .inl (cI, 100, .inl u_ahead)), (m_forms, .inl (cI, 3, .inl u_forms)), (m_when, .inl (cI, 10, .inl wc)), (m_warmth, .inl (cI, 40, .inl u_warmth)), (m_degrees, .inl (cI, 6, .inl u_degrees)), (m_thousandths, .inl (cI, 6, .inl u_thousandths))] := hD
                      refine lv_if_ne (tgt := 91) hx hb dX4_plans_80 (by decide) (fun c_27 => ?_) (fun c_27 => ?_)
                      · obtain ⟨v_28, ev_28⟩ : ∃ y : Int32, y = k2 + 1 := ⟨_, rfl⟩
                        refine lv_iinc (v := v_28) (lv' := [(3, .int v_28), (4, .int v_20), (0, .ref y0), (1, .ref row), (2, .int kd)]) hx hb dX4_plans_91 hl (k := 4) rfl (by rw [ev_28]; rfl) (by decide) rfl (fun ls hl => ?_)
                        refine lv_goto (tgt := 49) hx hb dX4_plans_94 (by decide) ?_
                        exact hOut _ _ _ _ _ (ih_49 v_28 wc _ _ _ (pf_X4_plans_45 num pts nw u_size u_when u_degrees rf n_2 k wa n_41 kd wb n_49 k2 wc v_20 v_22 r_25 v_28 hn0 hn1 hp0 hp6 hdg hwh hz hnw0 hnw1 hrf hn_2 h0k hwa c_1 hn_41 h0d hwb c_2 hn_49 h0k2 hwc c_18 ev_20 fx_21 ev_22 c_23 c_27 ev_28) (pf_X4_plans_46 num pts nw u_size u_when u_degrees rf n_2 k wa n_41 kd wb n_49 k2 wc v_20 v_22 r_25 v_28 hn0 hn1 hp0 hp6 hdg hwh hz hnw0 hnw1 hrf hn_2 h0k hwa c_1 hn_41 h0d hwb c_2 hn_49 h0k2 hwc c_18 ev_20 fx_21 ev_22 c_23 c_27 ev_28) (pf_X4_plans_47 num pts nw u_size u_when u_degrees rf n_2 k wa n_41 kd wb n_49 k2 wc v_20 v_22 r_25 v_28 hn0 hn1 hp0 hp6 hdg hwh hz hnw0 hnw1 hrf hn_2 h0k hwa c_1 hn_41 h0d hwb c_2 hn_49 h0k2 hwc c_18 ev_20 fx_21 ev_22 c_23 c_27 ev_28) (hP.sub [1, 2, 3, 4, 5, 6, 7, 8, 9, 10, 11, 12, 0] rfl) (hD.sub [1, 2, 3, 4, 5, 6, 7, 8, 9, 10, 11, 12, 0] (by decide) rfl) hS (lv_sub hl [2, 3, 4, 0] rfl))
                      · refine lv_aload_n hx hb dX4_plans_83 rfl (lv_at hl 1 rfl) ?_
                        refine va_get (D := D) (ci := 4) (v := .ref m_when) (C := RX4) (T := TX4) (N := 25) hx hb hts iw_X4_plans_4 hown hK hP 1 rfl rfl 13 (by decide) (hts _ wd_X4_plans_2) (fun _ h9 => h9) rfl dX4_plans_84 ?_
                        refine lv_iload hx hb dX4_plans_87 (lv_at hl 0 rfl) ?_
                        refine lv_iload_n hx hb dX4_plans_89 rfl (lv_at hl 3 rfl) ?_
                        refine va_iast hx hb hK hP hD hS 9 0 rfl rfl (pf_X4_plans_48 num pts nw u_size u_when u_degrees rf n_2 k wa n_41 kd wb n_49 k2 wc v_20 v_22 r_25 hn0 hn1 hp0 hp6 hdg hwh hz hnw0 hnw1 hrf hn_2 h0k hwa c_1 hn_41 h0d hwb c_2 hn_49 h0k2 hwc c_18 ev_20 fx_21 ev_22 c_23 c_27) dX4_plans_90 (fun H locs hP hD hS => ?_)
                        have hP : va_P D vwCl [(row, .inl (cI, 10, .inl rf)), (y0, .inr (4, [.int num, .int pts, .int nw, .int en, .int gl, .int bw, .int sp, .int be, .ref m_kind, .ref m_floor, .ref m_volume, .ref m_size, .ref m_faces, .ref m_when, .ref m_ahead, .ref m_order, .ref m_tried, .ref m_chosen, .ref m_forms, .ref m_warmth, .ref m_degrees, .ref m_thousandths, .ref m_longest, .long ab, .long bl])), (m_kind, .inl (cI, 10, .inl u_kind)), (m_floor, .inl (cI, 10, .inl u_floor)), (m_volume, .inl (cI, 10, .inl u_volume)), (m_size, .inl (cI, 10, .inl u_size)), (m_faces, .inl (cI, 10, .inl u_faces)), (m_ahead, .inl (cI, 100, .inl u_ahead)), (m_forms, .inl (cI, 3, .inl u_forms)), (m_when, .inl (cI, 10, .inl (upd wc v_20.toNatClampNeg kd))), (m_warmth, .inl (cI, 40, .inl u_warmth)), (m_degrees, .inl (cI, 6, .inl u_degrees)), (m_thousandths, .inl (cI, 6, .inl u_thousandths))] H := hP
                        have hD : va_D A [(row, .inl (cI, 10, .inl rf)), (y0, .inr (4, [.int num, .int pts, .int nw, .int en, .int gl, .int bw, .int sp, .int be, .ref m_kind, .ref m_floor, .ref m_volume, .ref m_size, .ref m_faces, .ref m_when, .ref m_ahead, .ref m_order, .ref m_tried, .ref m_chosen, .ref m_forms, .ref m_warmth, .ref m_degrees, .ref m_thousandths, .ref m_longest, .long ab, .long bl])), (m_kind, .inl (cI, 10, .inl u_kind)), (m_floor, .inl (cI, 10, .inl u_floor)), (m_volume, .inl (cI, 10, .inl u_volume)), (m_size, .inl (cI, 10, .inl u_size)), (m_faces, .inl (cI, 10, .inl u_faces)), (m_ahead, .inl (cI, 100, .inl u_ahead)), (m_forms, .inl (cI, 3, .inl u_forms)), (m_when, .inl (cI, 10, .inl (upd wc v_20.toNatClampNeg kd))), (m_warmth, .inl (cI, 40, .inl u_warmth)), (m_degrees, .inl (cI, 6, .inl u_degrees)), (m_thousandths, .inl (cI, 6, .inl u_thousandths))] := hD
                        obtain ⟨v_29, ev_29⟩ : ∃ y : Int32, y = k2 + 1 := ⟨_, rfl⟩
                        refine lv_iinc (v := v_29) (lv' := [(3, .int v_29), (4, .int v_20), (0, .ref y0), (1, .ref row), (2, .int kd)]) hx hb dX4_plans_91 hl (k := 4) rfl (by rw [ev_29]; rfl) (by decide) rfl (fun ls hl => ?_)
                        refine lv_goto (tgt := 49) hx hb dX4_plans_94 (by decide) ?_
                        exact hOut _ _ _ _ _ (ih_49 v_29 (upd wc v_20.toNatClampNeg kd) _ _ _ (pf_X4_plans_49 num pts nw u_size u_when u_degrees rf n_2 k wa n_41 kd wb n_49 k2 wc v_20 v_22 r_25 v_29 hn0 hn1 hp0 hp6 hdg hwh hz hnw0 hnw1 hrf hn_2 h0k hwa c_1 hn_41 h0d hwb c_2 hn_49 h0k2 hwc c_18 ev_20 fx_21 ev_22 c_23 c_27 ev_29) (pf_X4_plans_50 num pts nw u_size u_when u_degrees rf n_2 k wa n_41 kd wb n_49 k2 wc v_20 v_22 r_25 v_29 hn0 hn1 hp0 hp6 hdg hwh hz hnw0 hnw1 hrf hn_2 h0k hwa c_1 hn_41 h0d hwb c_2 hn_49 h0k2 hwc c_18 ev_20 fx_21 ev_22 c_23 c_27 ev_29) (pf_X4_plans_51 num pts nw u_size u_when u_degrees rf n_2 k wa n_41 kd wb n_49 k2 wc v_20 v_22 r_25 v_29 hn0 hn1 hp0 hp6 hdg hwh hz hnw0 hnw1 hrf hn_2 h0k hwa c_1 hn_41 h0d hwb c_2 hn_49 h0k2 hwc c_18 ev_20 fx_21 ev_22 c_23 c_27 ev_29) (hP.sub [1, 2, 3, 4, 5, 6, 7, 8, 9, 10, 11, 12, 0] rfl) (hD.sub [1, 2, 3, 4, 5, 6, 7, 8, 9, 10, 11, 12, 0] (by decide) rfl) hS (lv_sub hl [2, 3, 4, 0] rfl))
              exact hOut _ _ _ _ _ (lp_49 (10 - (0 : Int32).toNatClampNeg + 1) 0 wb _ _ _ (Nat.lt_succ_self _) (pf_X4_plans_52 num pts nw u_size u_when u_degrees rf n_2 k wa n_41 kd wb hn0 hn1 hp0 hp6 hdg hwh hz hnw0 hnw1 hrf hn_2 h0k hwa c_1 hn_41 h0d hwb c_2) (pf_X4_plans_53 num pts nw u_size u_when u_degrees rf n_2 k wa n_41 kd wb hn0 hn1 hp0 hp6 hdg hwh hz hnw0 hnw1 hrf hn_2 h0k hwa c_1 hn_41 h0d hwb c_2) (hP.sub [0, 1, 2, 3, 4, 5, 6, 7, 8, 9, 10, 11, 12] rfl) (hD.sub [0, 1, 2, 3, 4, 5, 6, 7, 8, 9, 10, 11, 12] (by decide) rfl) hS (lv_sub hl [1, 2, 3, 0] rfl))
        exact hOut _ _ _ _ _ (lp_41 (40 - nw.toNatClampNeg + 1) nw wa _ _ _ (Nat.lt_succ_self _) (pf_X4_plans_54 num pts nw u_size u_when u_degrees rf n_2 k wa hn0 hn1 hp0 hp6 hdg hwh hz hnw0 hnw1 hrf hn_2 h0k hwa c_1) (pf_X4_plans_55 num pts nw u_size u_when u_degrees rf n_2 k wa hn0 hn1 hp0 hp6 hdg hwh hz hnw0 hnw1 hrf hn_2 h0k hwa c_1) (hP.sub [0, 1, 2, 3, 4, 5, 6, 7, 8, 9, 10, 11, 12] rfl) (hD.sub [0, 1, 2, 3, 4, 5, 6, 7, 8, 9, 10, 11, 12] (by decide) rfl) hS (lv_sub hl [1, 2, 0] rfl))
      · refine lv_aload_n hx hb dX4_plans_10 rfl (lv_at hl 0 rfl) ?_
        refine va_get (D := D) (ci := 4) (v := .ref m_when) (C := RX4) (T := TX4) (N := 25) hx hb hts iw_X4_plans_4 hown hK hP 0 rfl rfl 13 (by decide) (hts _ wd_X4_plans_2) (fun _ h9 => h9) rfl dX4_plans_11 ?_
        refine lv_iload_n hx hb dX4_plans_14 rfl (lv_at hl 2 rfl) ?_
        refine va_iald hx hb hK hP 8 0 rfl rfl (pf_X4_plans_56 num pts nw u_size u_when u_degrees rf n_2 k wa hn0 hn1 hp0 hp6 hdg hwh hz hnw0 hnw1 hrf hn_2 h0k hwa c_1) dX4_plans_15 ?_
        refine lv_topi (fun v_30 ev_30 => ?_)
        refine lv_aload_n hx hb dX4_plans_16 rfl (lv_at hl 0 rfl) ?_
        refine va_get (D := D) (ci := 4) (v := .int nw) (C := RX4) (T := TX4) (N := 25) hx hb hts iw_X4_plans_4 hown hK hP 0 rfl rfl 2 (by decide) (hts _ wd_X4_plans_3) (fun _ h9 => h9) rfl dX4_plans_17 ?_
        refine lv_icmp_lt (tgt := 30) hx hb dX4_plans_20 (by decide) (fun c_31 => ?_) (fun c_31 => ?_)
        · obtain ⟨v_32, ev_32⟩ : ∃ y : Int32, y = k + 1 := ⟨_, rfl⟩
          refine lv_iinc (v := v_32) (lv' := [(2, .int v_32), (0, .ref y0), (1, .ref row)]) hx hb dX4_plans_30 hl (k := 2) rfl (by rw [ev_32]; rfl) (by decide) rfl (fun ls hl => ?_)
          refine lv_goto (tgt := 2) hx hb dX4_plans_33 (by decide) ?_
          exact hOut _ _ _ _ _ (ih_2 v_32 wa _ _ _ (pf_X4_plans_57 num pts nw u_size u_when u_degrees rf n_2 k wa v_30 v_32 hn0 hn1 hp0 hp6 hdg hwh hz hnw0 hnw1 hrf hn_2 h0k hwa c_1 ev_30 c_31 ev_32) (pf_X4_plans_58 num pts nw u_size u_when u_degrees rf n_2 k wa v_30 v_32 hn0 hn1 hp0 hp6 hdg hwh hz hnw0 hnw1 hrf hn_2 h0k hwa c_1 ev_30 c_31 ev_32) (pf_X4_plans_59 num pts nw u_size u_when u_degrees rf n_2 k wa v_30 v_32 hn0 hn1 hp0 hp6 hdg hwh hz hnw0 hnw1 hrf hn_2 h0k hwa c_1 ev_30 c_31 ev_32) (hP.sub [0, 1, 2, 3, 4, 5, 6, 7, 8, 9, 10, 11, 12] rfl) (hD.sub [0, 1, 2, 3, 4, 5, 6, 7, 8, 9, 10, 11, 12] (by decide) rfl) hS (lv_sub hl [1, 2, 0] rfl))
        · refine lv_aload_n hx hb dX4_plans_23 rfl (lv_at hl 0 rfl) ?_
          refine va_get (D := D) (ci := 4) (v := .ref m_when) (C := RX4) (T := TX4) (N := 25) hx hb hts iw_X4_plans_4 hown hK hP 0 rfl rfl 13 (by decide) (hts _ wd_X4_plans_2) (fun _ h9 => h9) rfl dX4_plans_24 ?_
          refine lv_iload_n hx hb dX4_plans_27 rfl (lv_at hl 2 rfl) ?_
          refine lv_iconst (v := (-1)) hx hb dX4_plans_28 (by decide) ?_
          refine va_iast hx hb hK hP hD hS 8 0 rfl rfl (pf_X4_plans_60 num pts nw u_size u_when u_degrees rf n_2 k wa v_30 hn0 hn1 hp0 hp6 hdg hwh hz hnw0 hnw1 hrf hn_2 h0k hwa c_1 ev_30 c_31) dX4_plans_29 (fun H locs hP hD hS => ?_)
          have hP : va_P D vwCl [(y0, .inr (4, [.int num, .int pts, .int nw, .int en, .int gl, .int bw, .int sp, .int be, .ref m_kind, .ref m_floor, .ref m_volume, .ref m_size, .ref m_faces, .ref m_when, .ref m_ahead, .ref m_order, .ref m_tried, .ref m_chosen, .ref m_forms, .ref m_warmth, .ref m_degrees, .ref m_thousandths, .ref m_longest, .long ab, .long bl])), (m_kind, .inl (cI, 10, .inl u_kind)), (m_floor, .inl (cI, 10, .inl u_floor)), (m_volume, .inl (cI, 10, .inl u_volume)), (m_size, .inl (cI, 10, .inl u_size)), (m_faces, .inl (cI, 10, .inl u_faces)), (m_ahead, .inl (cI, 100, .inl u_ahead)), (m_forms, .inl (cI, 3, .inl u_forms)), (m_when, .inl (cI, 10, .inl (upd wa k.toNatClampNeg (-1)))), (m_warmth, .inl (cI, 40, .inl u_warmth)), (m_degrees, .inl (cI, 6, .inl u_degrees)), (m_thousandths, .inl (cI, 6, .inl u_thousandths)), (row, .inl (cI, 10, .inl rf))] H := hP
          have hD : va_D A [(y0, .inr (4, [.int num, .int pts, .int nw, .int en, .int gl, .int bw, .int sp, .int be, .ref m_kind, .ref m_floor, .ref m_volume, .ref m_size, .ref m_faces, .ref m_when, .ref m_ahead, .ref m_order, .ref m_tried, .ref m_chosen, .ref m_forms, .ref m_warmth, .ref m_degrees, .ref m_thousandths, .ref m_longest, .long ab, .long bl])), (m_kind, .inl (cI, 10, .inl u_kind)), (m_floor, .inl (cI, 10, .inl u_floor)), (m_volume, .inl (cI, 10, .inl u_volume)), (m_size, .inl (cI, 10, .inl u_size)), (m_faces, .inl (cI, 10, .inl u_faces)), (m_ahead, .inl (cI, 100, .inl u_ahead)), (m_forms, .inl (cI, 3, .inl u_forms)), (m_when, .inl (cI, 10, .inl (upd wa k.toNatClampNeg (-1)))), (m_warmth, .inl (cI, 40, .inl u_warmth)), (m_degrees, .inl (cI, 6, .inl u_degrees)), (m_thousandths, .inl (cI, 6, .inl u_thousandths)), (row, .inl (cI, 10, .inl rf))] := hD
          obtain ⟨v_33, ev_33⟩ : ∃ y : Int32, y = k + 1 := ⟨_, rfl⟩
          refine lv_iinc (v := v_33) (lv' := [(2, .int v_33), (0, .ref y0), (1, .ref row)]) hx hb dX4_plans_30 hl (k := 2) rfl (by rw [ev_33]; rfl) (by decide) rfl (fun ls hl => ?_)
          refine lv_goto (tgt := 2) hx hb dX4_plans_33 (by decide) ?_
          exact hOut _ _ _ _ _ (ih_2 v_33 (upd wa k.toNatClampNeg (-1)) _ _ _ (pf_X4_plans_61 num pts nw u_size u_when u_degrees rf n_2 k wa v_30 v_33 hn0 hn1 hp0 hp6 hdg hwh hz hnw0 hnw1 hrf hn_2 h0k hwa c_1 ev_30 c_31 ev_33) (pf_X4_plans_62 num pts nw u_size u_when u_degrees rf n_2 k wa v_30 v_33 hn0 hn1 hp0 hp6 hdg hwh hz hnw0 hnw1 hrf hn_2 h0k hwa c_1 ev_30 c_31 ev_33) (pf_X4_plans_63 num pts nw u_size u_when u_degrees rf n_2 k wa v_30 v_33 hn0 hn1 hp0 hp6 hdg hwh hz hnw0 hnw1 hrf hn_2 h0k hwa c_1 ev_30 c_31 ev_33) (hP.sub [0, 1, 2, 3, 4, 5, 6, 7, 8, 9, 10, 11, 12] rfl) (hD.sub [0, 1, 2, 3, 4, 5, 6, 7, 8, 9, 10, 11, 12] (by decide) rfl) hS (lv_sub hl [1, 2, 0] rfl))
  exact hOut _ _ _ _ _ (lp_2 (10 - (0 : Int32).toNatClampNeg + 1) 0 u_when _ _ _ (Nat.lt_succ_self _) (pf_X4_plans_64 num pts nw u_size u_when u_degrees rf hn0 hn1 hp0 hp6 hdg hwh hz hnw0 hnw1 hrf) (pf_X4_plans_65 num pts nw u_size u_when u_degrees rf hn0 hn1 hp0 hp6 hdg hwh hz hnw0 hnw1 hrf) (hP.sub [0, 1, 2, 3, 4, 5, 6, 7, 8, 9, 10, 11, 12] rfl) (hD.sub [0, 1, 2, 3, 4, 5, 6, 7, 8, 9, 10, 11, 12] (by decide) rfl) hS (lv_sub hl [1, 2, 0] rfl))

theorem iw_X4_plan_4 : ∀ w ∈ wsX40, w ∈ wsX4_plan := fun w h => (List.mem_cons_of_mem _ (List.mem_append_right _ h))
theorem wd_X4_plan_1 : (.fieldLink RX4 43 "PourPlanModel" "order" "[I" : Cond) ∈ wsX4_plan := List.mem_of_getElem? (i := 1) rfl
theorem wd_X4_plan_2 : (.fieldLink RX4 128 "PourPlanModel" "end" "I" : Cond) ∈ wsX4_plan := List.mem_of_getElem? (i := 2) rfl
set_option maxHeartbeats 1000000 in
theorem pf_X4_plan_1 (num : Int32) (pts : Int32) (nw : Int32) (u_size : Nat → Int32) (u_when : Nat → Int32) (u_degrees : Nat → Int32) (u_order : Nat → Int32) (hn0 : 0 ≤ num) (hn1 : num ≤ 10) (hp0 : 0 ≤ pts) (hp6 : pts ≤ 6) (hdg : okDeg u_degrees pts) (hwh : okWh u_when) (hz : okSz u_size) (hnw0 : 0 ≤ nw) (hnw1 : nw ≤ 39) (hro : okRow u_order num) : 0 ≤ num := by
  grind
set_option maxHeartbeats 1000000 in
theorem pf_X4_plan_2 (num : Int32) (pts : Int32) (nw : Int32) (u_size : Nat → Int32) (u_when : Nat → Int32) (u_degrees : Nat → Int32) (u_order : Nat → Int32) (hn0 : 0 ≤ num) (hn1 : num ≤ 10) (hp0 : 0 ≤ pts) (hp6 : pts ≤ 6) (hdg : okDeg u_degrees pts) (hwh : okWh u_when) (hz : okSz u_size) (hnw0 : 0 ≤ nw) (hnw1 : nw ≤ 39) (hro : okRow u_order num) : num ≤ 10 := by
  grind
set_option maxHeartbeats 1000000 in
theorem pf_X4_plan_3 (num : Int32) (pts : Int32) (nw : Int32) (u_size : Nat → Int32) (u_when : Nat → Int32) (u_degrees : Nat → Int32) (u_order : Nat → Int32) (hn0 : 0 ≤ num) (hn1 : num ≤ 10) (hp0 : 0 ≤ pts) (hp6 : pts ≤ 6) (hdg : okDeg u_degrees pts) (hwh : okWh u_when) (hz : okSz u_size) (hnw0 : 0 ≤ nw) (hnw1 : nw ≤ 39) (hro : okRow u_order num) : 0 ≤ pts := by
  grind
set_option maxHeartbeats 1000000 in
theorem pf_X4_plan_4 (num : Int32) (pts : Int32) (nw : Int32) (u_size : Nat → Int32) (u_when : Nat → Int32) (u_degrees : Nat → Int32) (u_order : Nat → Int32) (hn0 : 0 ≤ num) (hn1 : num ≤ 10) (hp0 : 0 ≤ pts) (hp6 : pts ≤ 6) (hdg : okDeg u_degrees pts) (hwh : okWh u_when) (hz : okSz u_size) (hnw0 : 0 ≤ nw) (hnw1 : nw ≤ 39) (hro : okRow u_order num) : pts ≤ 6 := by
  grind
set_option maxHeartbeats 1000000 in
theorem pf_X4_plan_5 (num : Int32) (pts : Int32) (nw : Int32) (u_size : Nat → Int32) (u_when : Nat → Int32) (u_degrees : Nat → Int32) (u_order : Nat → Int32) (hn0 : 0 ≤ num) (hn1 : num ≤ 10) (hp0 : 0 ≤ pts) (hp6 : pts ≤ 6) (hdg : okDeg u_degrees pts) (hwh : okWh u_when) (hz : okSz u_size) (hnw0 : 0 ≤ nw) (hnw1 : nw ≤ 39) (hro : okRow u_order num) : okDeg u_degrees pts := by
  exact hdg
set_option maxHeartbeats 1000000 in
theorem pf_X4_plan_6 (num : Int32) (pts : Int32) (nw : Int32) (u_size : Nat → Int32) (u_when : Nat → Int32) (u_degrees : Nat → Int32) (u_order : Nat → Int32) (hn0 : 0 ≤ num) (hn1 : num ≤ 10) (hp0 : 0 ≤ pts) (hp6 : pts ≤ 6) (hdg : okDeg u_degrees pts) (hwh : okWh u_when) (hz : okSz u_size) (hnw0 : 0 ≤ nw) (hnw1 : nw ≤ 39) (hro : okRow u_order num) : okWh u_when := by
  first
  | assumption
  | exact hwh
set_option maxHeartbeats 1000000 in
theorem pf_X4_plan_7 (num : Int32) (pts : Int32) (nw : Int32) (u_size : Nat → Int32) (u_when : Nat → Int32) (u_degrees : Nat → Int32) (u_order : Nat → Int32) (hn0 : 0 ≤ num) (hn1 : num ≤ 10) (hp0 : 0 ≤ pts) (hp6 : pts ≤ 6) (hdg : okDeg u_degrees pts) (hwh : okWh u_when) (hz : okSz u_size) (hnw0 : 0 ≤ nw) (hnw1 : nw ≤ 39) (hro : okRow u_order num) : okSz u_size := by
  exact hz
set_option maxHeartbeats 1000000 in
theorem pf_X4_plan_8 (num : Int32) (pts : Int32) (nw : Int32) (u_size : Nat → Int32) (u_when : Nat → Int32) (u_degrees : Nat → Int32) (u_order : Nat → Int32) (hn0 : 0 ≤ num) (hn1 : num ≤ 10) (hp0 : 0 ≤ pts) (hp6 : pts ≤ 6) (hdg : okDeg u_degrees pts) (hwh : okWh u_when) (hz : okSz u_size) (hnw0 : 0 ≤ nw) (hnw1 : nw ≤ 39) (hro : okRow u_order num) : 0 ≤ nw := by
  grind
set_option maxHeartbeats 1000000 in
theorem pf_X4_plan_9 (num : Int32) (pts : Int32) (nw : Int32) (u_size : Nat → Int32) (u_when : Nat → Int32) (u_degrees : Nat → Int32) (u_order : Nat → Int32) (hn0 : 0 ≤ num) (hn1 : num ≤ 10) (hp0 : 0 ≤ pts) (hp6 : pts ≤ 6) (hdg : okDeg u_degrees pts) (hwh : okWh u_when) (hz : okSz u_size) (hnw0 : 0 ≤ nw) (hnw1 : nw ≤ 39) (hro : okRow u_order num) : nw ≤ 39 := by
  grind
set_option maxHeartbeats 1000000 in
theorem pf_X4_plan_10 (num : Int32) (pts : Int32) (nw : Int32) (u_size : Nat → Int32) (u_when : Nat → Int32) (u_degrees : Nat → Int32) (u_order : Nat → Int32) (hn0 : 0 ≤ num) (hn1 : num ≤ 10) (hp0 : 0 ≤ pts) (hp6 : pts ≤ 6) (hdg : okDeg u_degrees pts) (hwh : okWh u_when) (hz : okSz u_size) (hnw0 : 0 ≤ nw) (hnw1 : nw ≤ 39) (hro : okRow u_order num) : okRow u_order num := by
  first
  | assumption
  | exact hro
set_option maxHeartbeats 1000000 in
theorem pf_X4_plan_11 (num : Int32) (pts : Int32) (nw : Int32) (u_size : Nat → Int32) (u_when : Nat → Int32) (u_degrees : Nat → Int32) (u_order : Nat → Int32) (w2_3 : Nat → Int32) (r_1 : Int32) (hn0 : 0 ≤ num) (hn1 : num ≤ 10) (hp0 : 0 ≤ pts) (hp6 : pts ≤ 6) (hdg : okDeg u_degrees pts) (hwh : okWh u_when) (hz : okSz u_size) (hnw0 : 0 ≤ nw) (hnw1 : nw ≤ 39) (hro : okRow u_order num) (h_4 : r_1 ≤ 40) (h_5 : okWh w2_3) : okWh w2_3 := by
  first
  | (grind)
  | (assumption)
set_option maxHeartbeats 4000000 in
set_option maxRecDepth 100000 in
theorem c_X4_plan (l : Launch) (D : va_G) (cI cQ : ClassId) (sz : Nat) (y0 : Nat) (m_kind : Nat) (m_floor : Nat) (m_volume : Nat) (m_size : Nat) (m_faces : Nat) (m_ahead : Nat) (m_forms : Nat) (m_when : Nat) (m_warmth : Nat) (m_degrees : Nat) (m_thousandths : Nat) (m_order : Nat) (m_tried : Nat) (m_chosen : Nat) (m_longest : Nat) (num : Int32) (pts : Int32) (nw : Int32) (en : Int32) (gl : Int32) (bw : Int32) (sp : Int32) (be : Int32) (ab : Int64) (bl : Int64) (u_kind : Nat → Int32) (u_floor : Nat → Int32) (u_volume : Nat → Int32) (u_size : Nat → Int32) (u_faces : Nat → Int32) (u_ahead : Nat → Int32) (u_forms : Nat → Int32) (u_when : Nat → Int32) (u_warmth : Nat → Int32) (u_degrees : Nat → Int32) (u_thousandths : Nat → Int32) (u_order : Nat → Int32) (hn0 : 0 ≤ num) (hn1 : num ≤ 10) (hp0 : 0 ≤ pts) (hp6 : pts ≤ 6) (hdg : okDeg u_degrees pts) (hwh : okWh u_when) (hz : okSz u_size) (hnw0 : 0 ≤ nw) (hnw1 : nw ≤ 39) (hro : okRow u_order num) : CtI l yX4_plan wsX4_plan 7 165 0 0 [.ref y0] D [(cI, .int), (cQ, .array .int)] [(y0, .inr (4, [.int num, .int pts, .int nw, .int en, .int gl, .int bw, .int sp, .int be, .ref m_kind, .ref m_floor, .ref m_volume, .ref m_size, .ref m_faces, .ref m_when, .ref m_ahead, .ref m_order, .ref m_tried, .ref m_chosen, .ref m_forms, .ref m_warmth, .ref m_degrees, .ref m_thousandths, .ref m_longest, .long ab, .long bl])), (m_kind, .inl (cI, 10, .inl u_kind)), (m_floor, .inl (cI, 10, .inl u_floor)), (m_volume, .inl (cI, 10, .inl u_volume)), (m_size, .inl (cI, 10, .inl u_size)), (m_faces, .inl (cI, 10, .inl u_faces)), (m_ahead, .inl (cI, 100, .inl u_ahead)), (m_forms, .inl (cI, 3, .inl u_forms)), (m_when, .inl (cI, 10, .inl u_when)), (m_warmth, .inl (cI, 40, .inl u_warmth)), (m_degrees, .inl (cI, 6, .inl u_degrees)), (m_thousandths, .inl (cI, 6, .inl u_thousandths)), (m_order, .inl (cI, 10, .inl u_order))] sz (fun (r : Int32) (u : (Nat → Int32) × Int32) => okWh u.1) (fun (u : (Nat → Int32) × Int32) => [(y0, .inr (4, [.int num, .int pts, .int nw, .int u.2, .int gl, .int bw, .int sp, .int be, .ref m_kind, .ref m_floor, .ref m_volume, .ref m_size, .ref m_faces, .ref m_when, .ref m_ahead, .ref m_order, .ref m_tried, .ref m_chosen, .ref m_forms, .ref m_warmth, .ref m_degrees, .ref m_thousandths, .ref m_longest, .long ab, .long bl])), (m_kind, .inl (cI, 10, .inl u_kind)), (m_floor, .inl (cI, 10, .inl u_floor)), (m_volume, .inl (cI, 10, .inl u_volume)), (m_size, .inl (cI, 10, .inl u_size)), (m_faces, .inl (cI, 10, .inl u_faces)), (m_ahead, .inl (cI, 100, .inl u_ahead)), (m_forms, .inl (cI, 3, .inl u_forms)), (m_when, .inl (cI, 10, .inl u.1)), (m_warmth, .inl (cI, 40, .inl u_warmth)), (m_degrees, .inl (cI, 6, .inl u_degrees)), (m_thousandths, .inl (cI, 6, .inl u_thousandths)), (m_order, .inl (cI, 10, .inl u_order))]) := by
  refine Met.ofW (cc := cX4_plan) (maxL := 1) (ret := (some .int)) (by decide) rfl ?_
  intro p e s m args below meth c s₁ B hml hv
  obtain ⟨rfl, hsz, hP, hK, hD0, hN⟩ := hv
  have hx := B.exec
  have hb := B.bytes
  have hr := B.returns
  have hts := atoms_spec (ws := wsX4_plan) B.pre
  have hown : s.vm.findClass RX4 = some m.cls := findClass_of_methodNamed B.named
  have hlocks := B.notSynchronized
  subst hsz
  have hD := hD0.self (sz := s.heap.size)
  generalize hAe : va_A [(y0, .inr (4, [.int num, .int pts, .int nw, .int en, .int gl, .int bw, .int sp, .int be, .ref m_kind, .ref m_floor, .ref m_volume, .ref m_size, .ref m_faces, .ref m_when, .ref m_ahead, .ref m_order, .ref m_tried, .ref m_chosen, .ref m_forms, .ref m_warmth, .ref m_degrees, .ref m_thousandths, .ref m_longest, .long ab, .long bl])), (m_kind, .inl (cI, 10, .inl u_kind)), (m_floor, .inl (cI, 10, .inl u_floor)), (m_volume, .inl (cI, 10, .inl u_volume)), (m_size, .inl (cI, 10, .inl u_size)), (m_faces, .inl (cI, 10, .inl u_faces)), (m_ahead, .inl (cI, 100, .inl u_ahead)), (m_forms, .inl (cI, 3, .inl u_forms)), (m_when, .inl (cI, 10, .inl u_when)), (m_warmth, .inl (cI, 40, .inl u_warmth)), (m_degrees, .inl (cI, 6, .inl u_degrees)), (m_thousandths, .inl (cI, 6, .inl u_thousandths)), (m_order, .inl (cI, 10, .inl u_order))] s.heap.size = A at hD ⊢
  have hA : ∀ q : Nat, s.heap.size ≤ q → A q := fun q h => by rw [← hAe]; exact Or.inr h
  have hS : va_S A s.heap s.heap [] := va_S.rf
  have hl := lv_entry ([.ref y0]) (n := 1) (Nat.le_of_ble_eq_true rfl)
  rw [lg_entry_eq]
  generalize (lg_sl ([.ref y0]) ++ List.replicate (1 - (lg_sl ([.ref y0])).length) Slot.unset).toArray = ls at hl ⊢
  have hl : lv_has ls 1 [(0, .ref y0)] := hl
  have hP0 := hP
  refine lv_aload_n hx hb dX4_plan_0 rfl (lv_at hl 0 rfl) ?_
  refine lv_aload_n hx hb dX4_plan_1 rfl (lv_at hl 0 rfl) ?_
  refine lv_aload_n hx hb dX4_plan_2 rfl (lv_at hl 0 rfl) ?_
  refine va_get (D := D) (ci := 4) (v := .ref m_order) (C := RX4) (T := TX4) (N := 25) hx hb hts iw_X4_plan_4 hown hK hP 0 rfl rfl 15 (by decide) (hts _ wd_X4_plan_1) (fun _ h9 => h9) rfl dX4_plan_3 ?_
  refine cc_i (wc := [(y0, .inr (4, [.int num, .int pts, .int nw, .int en, .int gl, .int bw, .int sp, .int be, .ref m_kind, .ref m_floor, .ref m_volume, .ref m_size, .ref m_faces, .ref m_when, .ref m_ahead, .ref m_order, .ref m_tried, .ref m_chosen, .ref m_forms, .ref m_warmth, .ref m_degrees, .ref m_thousandths, .ref m_longest, .long ab, .long bl])), (m_kind, .inl (cI, 10, .inl u_kind)), (m_floor, .inl (cI, 10, .inl u_floor)), (m_volume, .inl (cI, 10, .inl u_volume)), (m_size, .inl (cI, 10, .inl u_size)), (m_faces, .inl (cI, 10, .inl u_faces)), (m_ahead, .inl (cI, 100, .inl u_ahead)), (m_forms, .inl (cI, 3, .inl u_forms)), (m_when, .inl (cI, 10, .inl u_when)), (m_warmth, .inl (cI, 40, .inl u_warmth)), (m_degrees, .inl (cI, 6, .inl u_degrees)), (m_thousandths, .inl (cI, 6, .inl u_thousandths)), (m_order, .inl (cI, 10, .inl u_order))]) (wr := []) (va_runV (As := [.ref m_order]) (rest := [.ref y0]) ⟨hx, hb, hml, hown, hts⟩ (c_X4_plans l D cI cQ s.heap.size y0 m_kind m_floor m_volume m_size m_faces m_ahead m_forms m_when m_warmth m_degrees m_thousandths m_order m_tried m_chosen m_longest num pts nw en gl bw sp be ab bl u_kind u_floor u_volume u_size u_faces u_ahead u_forms u_when u_warmth u_degrees u_thousandths u_order m_order (pf_X4_plan_1 num pts nw u_size u_when u_degrees u_order hn0 hn1 hp0 hp6 hdg hwh hz hnw0 hnw1 hro) (pf_X4_plan_2 num pts nw u_size u_when u_degrees u_order hn0 hn1 hp0 hp6 hdg hwh hz hnw0 hnw1 hro) (pf_X4_plan_3 num pts nw u_size u_when u_degrees u_order hn0 hn1 hp0 hp6 hdg hwh hz hnw0 hnw1 hro) (pf_X4_plan_4 num pts nw u_size u_when u_degrees u_order hn0 hn1 hp0 hp6 hdg hwh hz hnw0 hnw1 hro) (pf_X4_plan_5 num pts nw u_size u_when u_degrees u_order hn0 hn1 hp0 hp6 hdg hwh hz hnw0 hnw1 hro) (pf_X4_plan_6 num pts nw u_size u_when u_degrees u_order hn0 hn1 hp0 hp6 hdg hwh hz hnw0 hnw1 hro) (pf_X4_plan_7 num pts nw u_size u_when u_degrees u_order hn0 hn1 hp0 hp6 hdg hwh hz hnw0 hnw1 hro) (pf_X4_plan_8 num pts nw u_size u_when u_degrees u_order hn0 hn1 hp0 hp6 hdg hwh hz hnw0 hnw1 hro) (pf_X4_plan_9 num pts nw u_size u_when u_degrees u_order hn0 hn1 hp0 hp6 hdg hwh hz hnw0 hnw1 hro) (pf_X4_plan_10 num pts nw u_size u_when u_degrees u_order hn0 hn1 hp0 hp6 hdg hwh hz hnw0 hnw1 hro)) (cwV 1 hts gX4_plan_X4_plans rfl rfl rfl (by decide +kernel) ⟨Nat.le_of_ble_eq_true rfl, Nat.le_of_ble_eq_true rfl⟩) (preV (wc := [(y0, .inr (4, [.int num, .int pts, .int nw, .int en, .int gl, .int bw, .int sp, .int be, .ref m_kind, .ref m_floor, .ref m_volume, .ref m_size, .ref m_faces, .ref m_when, .ref m_ahead, .ref m_order, .ref m_tried, .ref m_chosen, .ref m_forms, .ref m_warmth, .ref m_degrees, .ref m_thousandths, .ref m_longest, .long ab, .long bl])), (m_kind, .inl (cI, 10, .inl u_kind)), (m_floor, .inl (cI, 10, .inl u_floor)), (m_volume, .inl (cI, 10, .inl u_volume)), (m_size, .inl (cI, 10, .inl u_size)), (m_faces, .inl (cI, 10, .inl u_faces)), (m_ahead, .inl (cI, 100, .inl u_ahead)), (m_forms, .inl (cI, 3, .inl u_forms)), (m_when, .inl (cI, 10, .inl u_when)), (m_warmth, .inl (cI, 40, .inl u_warmth)), (m_degrees, .inl (cI, 6, .inl u_degrees)), (m_thousandths, .inl (cI, 6, .inl u_thousandths)), (m_order, .inl (cI, 10, .inl u_order))]) (ci := 4) (q0 := 0) hK hP hD hN [0, 1, 2, 3, 4, 5, 6, 7, 8, 9, 10, 11, 12] rfl (by decide) rfl rfl) rfl rfl hl.1 rfl (lv_room (Nat.le_of_ble_eq_true rfl)) dX4_plan_6 ⟨Nat.le_of_ble_eq_true rfl, Nat.le_of_ble_eq_true rfl⟩) hP hD hS hA [0, 1, 2, 3, 4, 5, 6, 7, 8, 9, 10, 11, 12] [] rfl rfl (by decide) (by decide) (fun r_1 u H locs w_2 hP hD hS => ?_)
  obtain ⟨w2_3, rfl⟩ : ∃ z, z = u := ⟨_, rfl⟩
  have hP : va_P D vwCl [(y0, .inr (4, [.int num, .int pts, .int nw, .int en, .int gl, .int bw, .int sp, .int be, .ref m_kind, .ref m_floor, .ref m_volume, .ref m_size, .ref m_faces, .ref m_when, .ref m_ahead, .ref m_order, .ref m_tried, .ref m_chosen, .ref m_forms, .ref m_warmth, .ref m_degrees, .ref m_thousandths, .ref m_longest, .long ab, .long bl])), (m_kind, .inl (cI, 10, .inl u_kind)), (m_floor, .inl (cI, 10, .inl u_floor)), (m_volume, .inl (cI, 10, .inl u_volume)), (m_size, .inl (cI, 10, .inl u_size)), (m_faces, .inl (cI, 10, .inl u_faces)), (m_ahead, .inl (cI, 100, .inl u_ahead)), (m_forms, .inl (cI, 3, .inl u_forms)), (m_when, .inl (cI, 10, .inl w2_3)), (m_warmth, .inl (cI, 40, .inl u_warmth)), (m_degrees, .inl (cI, 6, .inl u_degrees)), (m_thousandths, .inl (cI, 6, .inl u_thousandths)), (m_order, .inl (cI, 10, .inl u_order))] H := hP
  have hD : va_D A [(y0, .inr (4, [.int num, .int pts, .int nw, .int en, .int gl, .int bw, .int sp, .int be, .ref m_kind, .ref m_floor, .ref m_volume, .ref m_size, .ref m_faces, .ref m_when, .ref m_ahead, .ref m_order, .ref m_tried, .ref m_chosen, .ref m_forms, .ref m_warmth, .ref m_degrees, .ref m_thousandths, .ref m_longest, .long ab, .long bl])), (m_kind, .inl (cI, 10, .inl u_kind)), (m_floor, .inl (cI, 10, .inl u_floor)), (m_volume, .inl (cI, 10, .inl u_volume)), (m_size, .inl (cI, 10, .inl u_size)), (m_faces, .inl (cI, 10, .inl u_faces)), (m_ahead, .inl (cI, 100, .inl u_ahead)), (m_forms, .inl (cI, 3, .inl u_forms)), (m_when, .inl (cI, 10, .inl w2_3)), (m_warmth, .inl (cI, 40, .inl u_warmth)), (m_degrees, .inl (cI, 6, .inl u_degrees)), (m_thousandths, .inl (cI, 6, .inl u_thousandths)), (m_order, .inl (cI, 10, .inl u_order))] := hD
  have w_2 : r_1 ≤ 40 ∧ okWh w2_3 := w_2
  obtain ⟨h_4, h_5⟩ := w_2
  refine va_put (D := D) (ci := 4) (v := .int r_1) (ty := .int) (C := RX4) (T := TX4) (N := 25) hx hb hts iw_X4_plan_4 tyX4 tyX4_ok nmX4 hown hK hP hD hS 0 rfl rfl 3 (by decide) (hts _ wd_X4_plan_2) (fun _ h9 => h9) rfl (by decide +kernel) rfl rfl (Nat.le_of_ble_eq_true rfl) dX4_plan_9 (fun H locs hP hD hS => ?_)
  have hP : va_P D vwCl [(y0, .inr (4, [.int num, .int pts, .int nw, .int r_1, .int gl, .int bw, .int sp, .int be, .ref m_kind, .ref m_floor, .ref m_volume, .ref m_size, .ref m_faces, .ref m_when, .ref m_ahead, .ref m_order, .ref m_tried, .ref m_chosen, .ref m_forms, .ref m_warmth, .ref m_degrees, .ref m_thousandths, .ref m_longest, .long ab, .long bl])), (m_kind, .inl (cI, 10, .inl u_kind)), (m_floor, .inl (cI, 10, .inl u_floor)), (m_volume, .inl (cI, 10, .inl u_volume)), (m_size, .inl (cI, 10, .inl u_size)), (m_faces, .inl (cI, 10, .inl u_faces)), (m_ahead, .inl (cI, 100, .inl u_ahead)), (m_forms, .inl (cI, 3, .inl u_forms)), (m_when, .inl (cI, 10, .inl w2_3)), (m_warmth, .inl (cI, 40, .inl u_warmth)), (m_degrees, .inl (cI, 6, .inl u_degrees)), (m_thousandths, .inl (cI, 6, .inl u_thousandths)), (m_order, .inl (cI, 10, .inl u_order))] H := hP
  have hD : va_D A [(y0, .inr (4, [.int num, .int pts, .int nw, .int r_1, .int gl, .int bw, .int sp, .int be, .ref m_kind, .ref m_floor, .ref m_volume, .ref m_size, .ref m_faces, .ref m_when, .ref m_ahead, .ref m_order, .ref m_tried, .ref m_chosen, .ref m_forms, .ref m_warmth, .ref m_degrees, .ref m_thousandths, .ref m_longest, .long ab, .long bl])), (m_kind, .inl (cI, 10, .inl u_kind)), (m_floor, .inl (cI, 10, .inl u_floor)), (m_volume, .inl (cI, 10, .inl u_volume)), (m_size, .inl (cI, 10, .inl u_size)), (m_faces, .inl (cI, 10, .inl u_faces)), (m_ahead, .inl (cI, 100, .inl u_ahead)), (m_forms, .inl (cI, 3, .inl u_forms)), (m_when, .inl (cI, 10, .inl w2_3)), (m_warmth, .inl (cI, 40, .inl u_warmth)), (m_degrees, .inl (cI, 6, .inl u_degrees)), (m_thousandths, .inl (cI, 6, .inl u_thousandths)), (m_order, .inl (cI, 10, .inl u_order))] := hD
  refine lv_aload_n hx hb dX4_plan_12 rfl (lv_at hl 0 rfl) ?_
  refine va_get (D := D) (ci := 4) (v := .int r_1) (C := RX4) (T := TX4) (N := 25) hx hb hts iw_X4_plan_4 hown hK hP 0 rfl rfl 3 (by decide) (hts _ wd_X4_plan_2) (fun _ h9 => h9) rfl dX4_plan_13 ?_
  refine W.widen (k := 0) (n := 0) (Nat.le_of_ble_eq_true rfl) (Nat.le_of_ble_eq_true rfl) ?_
  exact fi_i (w2_3, r_1) hx hb hr hlocks hK (hP.sub [0, 1, 2, 3, 4, 5, 6, 7, 8, 9, 10, 11, 12] rfl) (hD.sub [0, 1, 2, 3, 4, 5, 6, 7, 8, 9, 10, 11, 12] (by decide) rfl) hS (pf_X4_plan_11 num pts nw u_size u_when u_degrees u_order w2_3 r_1 hn0 hn1 hp0 hp6 hdg hwh hz hnw0 hnw1 hro h_4 h_5) dX4_plan_16

theorem iw_X4_now_4 : ∀ w ∈ wsX40, w ∈ wsX4_now := fun w h => (List.mem_cons_of_mem _ (List.mem_append_right _ h))
theorem wd_X4_now_1 : (.fieldLink RX4 118 "PourPlanModel" "now" "I" : Cond) ∈ wsX4_now := List.mem_of_getElem? (i := 1) rfl
theorem wd_X4_now_2 : (.fieldLink RX4 67 "PourPlanModel" "pieces" "I" : Cond) ∈ wsX4_now := List.mem_of_getElem? (i := 2) rfl
theorem wd_X4_now_3 : (.fieldLink RX4 37 "PourPlanModel" "when" "[I" : Cond) ∈ wsX4_now := List.mem_of_getElem? (i := 3) rfl
set_option maxHeartbeats 1000000 in
theorem pf_X4_now_1 (num : Int32) (nw : Int32) (u_when : Nat → Int32) (d : Int32) (r_1 : Int32) (n_29 : Nat) (k : Int32) (wa : Nat → Int32) (hn0 : 0 ≤ num) (hn1 : num ≤ 10) (hwh : okWh u_when) (hnw0 : 0 ≤ nw) (hnw1 : nw ≤ 39) (w_2 : r_1 = bDay d) (c_4 : ¬ r_1 = 0) (c_5 : nw ≤ d) (hn_29 : 10 - k.toNatClampNeg < n_29 + 1) (h0k : 0 ≤ k) (hwa : okWh wa) (c_6 : num ≤ k) : okWh wa := by
  first
  | (grind [bDay])
  | (first
     | exact hwh
     | exact hwa)
set_option maxHeartbeats 1000000 in
theorem pf_X4_now_2 (num : Int32) (nw : Int32) (u_when : Nat → Int32) (d : Int32) (r_1 : Int32) (n_29 : Nat) (k : Int32) (wa : Nat → Int32) (hn0 : 0 ≤ num) (hn1 : num ≤ 10) (hwh : okWh u_when) (hnw0 : 0 ≤ nw) (hnw1 : nw ≤ 39) (w_2 : r_1 = bDay d) (c_4 : ¬ r_1 = 0) (c_5 : nw ≤ d) (hn_29 : 10 - k.toNatClampNeg < n_29 + 1) (h0k : 0 ≤ k) (hwa : okWh wa) (c_6 : num ≤ k) : (0 ≤ d ∧ d ≤ 39) := by
  grind [bDay]
set_option maxHeartbeats 1000000 in
theorem pf_X4_now_3 (num : Int32) (nw : Int32) (u_when : Nat → Int32) (d : Int32) (r_1 : Int32) (n_29 : Nat) (k : Int32) (wa : Nat → Int32) (hn0 : 0 ≤ num) (hn1 : num ≤ 10) (hwh : okWh u_when) (hnw0 : 0 ≤ nw) (hnw1 : nw ≤ 39) (w_2 : r_1 = bDay d) (c_4 : ¬ r_1 = 0) (c_5 : nw ≤ d) (hn_29 : 10 - k.toNatClampNeg < n_29 + 1) (h0k : 0 ≤ k) (hwa : okWh wa) (c_6 : ¬ num ≤ k) : vp_in k 10 := by
  exact vi_in (M := 10) rfl (by grind [bDay]) (by grind [bDay])
set_option maxHeartbeats 1000000 in
theorem pf_X4_now_4 (num : Int32) (nw : Int32) (u_when : Nat → Int32) (d : Int32) (r_1 : Int32) (n_29 : Nat) (k : Int32) (wa : Nat → Int32) (v_7 : Int32) (v_9 : Int32) (hn0 : 0 ≤ num) (hn1 : num ≤ 10) (hwh : okWh u_when) (hnw0 : 0 ≤ nw) (hnw1 : nw ≤ 39) (w_2 : r_1 = bDay d) (c_4 : ¬ r_1 = 0) (c_5 : nw ≤ d) (hn_29 : 10 - k.toNatClampNeg < n_29 + 1) (h0k : 0 ≤ k) (hwa : okWh wa) (c_6 : ¬ num ≤ k) (ev_7 : v_7 = wa k.toNatClampNeg) (c_8 : v_7 < d) (ev_9 : v_9 = k + 1) : 10 - v_9.toNatClampNeg < n_29 := by
  exact ms_dec (L := 10) (k := k) (by grind) (show ¬ (10 : Int32) ≤ k by grind) (by omega) (by assumption) hn_29
set_option maxHeartbeats 1000000 in
theorem pf_X4_now_5 (num : Int32) (nw : Int32) (u_when : Nat → Int32) (d : Int32) (r_1 : Int32) (n_29 : Nat) (k : Int32) (wa : Nat → Int32) (v_7 : Int32) (v_9 : Int32) (hn0 : 0 ≤ num) (hn1 : num ≤ 10) (hwh : okWh u_when) (hnw0 : 0 ≤ nw) (hnw1 : nw ≤ 39) (w_2 : r_1 = bDay d) (c_4 : ¬ r_1 = 0) (c_5 : nw ≤ d) (hn_29 : 10 - k.toNatClampNeg < n_29 + 1) (h0k : 0 ≤ k) (hwa : okWh wa) (c_6 : ¬ num ≤ k) (ev_7 : v_7 = wa k.toNatClampNeg) (c_8 : v_7 < d) (ev_9 : v_9 = k + 1) : 0 ≤ v_9 := by
  grind [bDay]
set_option maxHeartbeats 1000000 in
theorem pf_X4_now_6 (num : Int32) (nw : Int32) (u_when : Nat → Int32) (d : Int32) (r_1 : Int32) (n_29 : Nat) (k : Int32) (wa : Nat → Int32) (v_7 : Int32) (v_9 : Int32) (hn0 : 0 ≤ num) (hn1 : num ≤ 10) (hwh : okWh u_when) (hnw0 : 0 ≤ nw) (hnw1 : nw ≤ 39) (w_2 : r_1 = bDay d) (c_4 : ¬ r_1 = 0) (c_5 : nw ≤ d) (hn_29 : 10 - k.toNatClampNeg < n_29 + 1) (h0k : 0 ≤ k) (hwa : okWh wa) (c_6 : ¬ num ≤ k) (ev_7 : v_7 = wa k.toNatClampNeg) (c_8 : v_7 < d) (ev_9 : v_9 = k + 1) : okWh wa := by
  first
  | exact hwa
  | exact okWh_upd hwa (by decide) (by decide)
set_option maxHeartbeats 1000000 in
theorem pf_X4_now_7 (num : Int32) (nw : Int32) (u_when : Nat → Int32) (d : Int32) (r_1 : Int32) (n_29 : Nat) (k : Int32) (wa : Nat → Int32) (v_7 : Int32) (hn0 : 0 ≤ num) (hn1 : num ≤ 10) (hwh : okWh u_when) (hnw0 : 0 ≤ nw) (hnw1 : nw ≤ 39) (w_2 : r_1 = bDay d) (c_4 : ¬ r_1 = 0) (c_5 : nw ≤ d) (hn_29 : 10 - k.toNatClampNeg < n_29 + 1) (h0k : 0 ≤ k) (hwa : okWh wa) (c_6 : ¬ num ≤ k) (ev_7 : v_7 = wa k.toNatClampNeg) (c_8 : ¬ v_7 < d) : vp_in k 10 := by
  exact vi_in (M := 10) rfl (by grind [bDay]) (by grind [bDay])
set_option maxHeartbeats 1000000 in
theorem pf_X4_now_8 (num : Int32) (nw : Int32) (u_when : Nat → Int32) (d : Int32) (r_1 : Int32) (n_29 : Nat) (k : Int32) (kc : Int32) (wa : Nat → Int32) (v_7 : Int32) (v_10 : Int32) (v_11 : Int32) (hn0 : 0 ≤ num) (hn1 : num ≤ 10) (hwh : okWh u_when) (hnw0 : 0 ≤ nw) (hnw1 : nw ≤ 39) (w_2 : r_1 = bDay d) (c_4 : ¬ r_1 = 0) (c_5 : nw ≤ d) (hn_29 : 10 - k.toNatClampNeg < n_29 + 1) (h0k : 0 ≤ k) (hwa : okWh wa) (c_6 : ¬ num ≤ k) (ev_7 : v_7 = wa k.toNatClampNeg) (c_8 : ¬ v_7 < d) (ev_10 : v_10 = kc + 1) (ev_11 : v_11 = k + 1) : 10 - v_11.toNatClampNeg < n_29 := by
  exact ms_dec (L := 10) (k := k) (by grind) (show ¬ (10 : Int32) ≤ k by grind) (by omega) (by assumption) hn_29
set_option maxHeartbeats 1000000 in
theorem pf_X4_now_9 (num : Int32) (nw : Int32) (u_when : Nat → Int32) (d : Int32) (r_1 : Int32) (n_29 : Nat) (k : Int32) (kc : Int32) (wa : Nat → Int32) (v_7 : Int32) (v_10 : Int32) (v_11 : Int32) (hn0 : 0 ≤ num) (hn1 : num ≤ 10) (hwh : okWh u_when) (hnw0 : 0 ≤ nw) (hnw1 : nw ≤ 39) (w_2 : r_1 = bDay d) (c_4 : ¬ r_1 = 0) (c_5 : nw ≤ d) (hn_29 : 10 - k.toNatClampNeg < n_29 + 1) (h0k : 0 ≤ k) (hwa : okWh wa) (c_6 : ¬ num ≤ k) (ev_7 : v_7 = wa k.toNatClampNeg) (c_8 : ¬ v_7 < d) (ev_10 : v_10 = kc + 1) (ev_11 : v_11 = k + 1) : 0 ≤ v_11 := by
  grind [bDay]
set_option maxHeartbeats 1000000 in
theorem pf_X4_now_10 (num : Int32) (nw : Int32) (u_when : Nat → Int32) (d : Int32) (r_1 : Int32) (n_29 : Nat) (k : Int32) (kc : Int32) (wa : Nat → Int32) (v_7 : Int32) (v_10 : Int32) (v_11 : Int32) (hn0 : 0 ≤ num) (hn1 : num ≤ 10) (hwh : okWh u_when) (hnw0 : 0 ≤ nw) (hnw1 : nw ≤ 39) (w_2 : r_1 = bDay d) (c_4 : ¬ r_1 = 0) (c_5 : nw ≤ d) (hn_29 : 10 - k.toNatClampNeg < n_29 + 1) (h0k : 0 ≤ k) (hwa : okWh wa) (c_6 : ¬ num ≤ k) (ev_7 : v_7 = wa k.toNatClampNeg) (c_8 : ¬ v_7 < d) (ev_10 : v_10 = kc + 1) (ev_11 : v_11 = k + 1) : okWh (upd wa k.toNatClampNeg (-1)) := by
  first
  | exact hwa
  | exact okWh_upd hwa (by decide) (by decide)
set_option maxHeartbeats 1000000 in
theorem pf_X4_now_11 (num : Int32) (nw : Int32) (u_when : Nat → Int32) (d : Int32) (r_1 : Int32) (hn0 : 0 ≤ num) (hn1 : num ≤ 10) (hwh : okWh u_when) (hnw0 : 0 ≤ nw) (hnw1 : nw ≤ 39) (w_2 : r_1 = bDay d) (c_4 : ¬ r_1 = 0) (c_5 : nw ≤ d) : 0 ≤ (0 : Int32) := by
  grind [bDay]
set_option maxHeartbeats 1000000 in
theorem pf_X4_now_12 (num : Int32) (nw : Int32) (u_when : Nat → Int32) (d : Int32) (r_1 : Int32) (hn0 : 0 ≤ num) (hn1 : num ≤ 10) (hwh : okWh u_when) (hnw0 : 0 ≤ nw) (hnw1 : nw ≤ 39) (w_2 : r_1 = bDay d) (c_4 : ¬ r_1 = 0) (c_5 : nw ≤ d) : okWh u_when := by
  exact hwh
set_option maxHeartbeats 1000000 in
theorem pf_X4_now_13 (num : Int32) (nw : Int32) (u_when : Nat → Int32) (d : Int32) (r_1 : Int32) (hn0 : 0 ≤ num) (hn1 : num ≤ 10) (hwh : okWh u_when) (hnw0 : 0 ≤ nw) (hnw1 : nw ≤ 39) (w_2 : r_1 = bDay d) (c_4 : ¬ r_1 = 0) (c_5 : ¬ nw ≤ d) : okWh u_when := by
  first
  | (grind [bDay])
  | (first
     | exact hwh
     | exact hwa)
set_option maxHeartbeats 1000000 in
theorem pf_X4_now_14 (num : Int32) (nw : Int32) (u_when : Nat → Int32) (d : Int32) (r_1 : Int32) (hn0 : 0 ≤ num) (hn1 : num ≤ 10) (hwh : okWh u_when) (hnw0 : 0 ≤ nw) (hnw1 : nw ≤ 39) (w_2 : r_1 = bDay d) (c_4 : ¬ r_1 = 0) (c_5 : ¬ nw ≤ d) : (0 ≤ nw ∧ nw ≤ 39) := by
  grind [bDay]
set_option maxHeartbeats 1000000 in
theorem pf_X4_now_15 (num : Int32) (nw : Int32) (u_when : Nat → Int32) (d : Int32) (r_1 : Int32) (hn0 : 0 ≤ num) (hn1 : num ≤ 10) (hwh : okWh u_when) (hnw0 : 0 ≤ nw) (hnw1 : nw ≤ 39) (w_2 : r_1 = bDay d) (c_4 : r_1 = 0) : okWh u_when := by
  first
  | (grind [bDay])
  | (first
     | exact hwh
     | exact hwa)
set_option maxHeartbeats 1000000 in
theorem pf_X4_now_16 (num : Int32) (nw : Int32) (u_when : Nat → Int32) (d : Int32) (r_1 : Int32) (hn0 : 0 ≤ num) (hn1 : num ≤ 10) (hwh : okWh u_when) (hnw0 : 0 ≤ nw) (hnw1 : nw ≤ 39) (w_2 : r_1 = bDay d) (c_4 : r_1 = 0) : (0 ≤ nw ∧ nw ≤ 39) := by
  grind [bDay]
set_option maxHeartbeats 4000000 in
set_option maxRecDepth 100000 in
theorem c_X4_now (l : Launch) (D : va_G) (cI cQ : ClassId) (sz : Nat) (y0 : Nat) (m_when : Nat) (m_kind : Nat) (m_floor : Nat) (m_volume : Nat) (m_size : Nat) (m_faces : Nat) (m_ahead : Nat) (m_order : Nat) (m_tried : Nat) (m_chosen : Nat) (m_forms : Nat) (m_warmth : Nat) (m_degrees : Nat) (m_thousandths : Nat) (m_longest : Nat) (num : Int32) (pts : Int32) (nw : Int32) (en : Int32) (gl : Int32) (bw : Int32) (sp : Int32) (be : Int32) (ab : Int64) (bl : Int64) (u_when : Nat → Int32) (d : Int32) (hn0 : 0 ≤ num) (hn1 : num ≤ 10) (hwh : okWh u_when) (hnw0 : 0 ≤ nw) (hnw1 : nw ≤ 39) : CtI l yX4_now wsX4_now 1 20 0 0 [.ref y0, .int d] D [(cI, .int), (cQ, .array .int)] [(y0, .inr (4, [.int num, .int pts, .int nw, .int en, .int gl, .int bw, .int sp, .int be, .ref m_kind, .ref m_floor, .ref m_volume, .ref m_size, .ref m_faces, .ref m_when, .ref m_ahead, .ref m_order, .ref m_tried, .ref m_chosen, .ref m_forms, .ref m_warmth, .ref m_degrees, .ref m_thousandths, .ref m_longest, .long ab, .long bl])), (m_when, .inl (cI, 10, .inl u_when))] sz (fun (r : Int32) (u : Int32 × (Nat → Int32)) => okWh u.2 ∧ (0 ≤ u.1 ∧ u.1 ≤ 39)) (fun (u : Int32 × (Nat → Int32)) => [(y0, .inr (4, [.int num, .int pts, .int u.1, .int en, .int gl, .int bw, .int sp, .int be, .ref m_kind, .ref m_floor, .ref m_volume, .ref m_size, .ref m_faces, .ref m_when, .ref m_ahead, .ref m_order, .ref m_tried, .ref m_chosen, .ref m_forms, .ref m_warmth, .ref m_degrees, .ref m_thousandths, .ref m_longest, .long ab, .long bl])), (m_when, .inl (cI, 10, .inl u.2))]) := by
  refine Met.ofW (cc := cX4_now) (maxL := 4) (ret := (some .int)) (by decide) rfl ?_
  intro p e s m args below meth c s₁ B hml hv
  obtain ⟨rfl, hsz, hP, hK, hD0, hN⟩ := hv
  have hx := B.exec
  have hb := B.bytes
  have hr := B.returns
  have hts := atoms_spec (ws := wsX4_now) B.pre
  have hown : s.vm.findClass RX4 = some m.cls := findClass_of_methodNamed B.named
  have hlocks := B.notSynchronized
  subst hsz
  have hD := hD0.self (sz := s.heap.size)
  generalize hAe : va_A [(y0, .inr (4, [.int num, .int pts, .int nw, .int en, .int gl, .int bw, .int sp, .int be, .ref m_kind, .ref m_floor, .ref m_volume, .ref m_size, .ref m_faces, .ref m_when, .ref m_ahead, .ref m_order, .ref m_tried, .ref m_chosen, .ref m_forms, .ref m_warmth, .ref m_degrees, .ref m_thousandths, .ref m_longest, .long ab, .long bl])), (m_when, .inl (cI, 10, .inl u_when))] s.heap.size = A at hD ⊢
  have hA : ∀ q : Nat, s.heap.size ≤ q → A q := fun q h => by rw [← hAe]; exact Or.inr h
  have hS : va_S A s.heap s.heap [] := va_S.rf
  have hl := lv_entry ([.ref y0, .int d]) (n := 4) (Nat.le_of_ble_eq_true rfl)
  rw [lg_entry_eq]
  generalize (lg_sl ([.ref y0, .int d]) ++ List.replicate (4 - (lg_sl ([.ref y0, .int d])).length) Slot.unset).toArray = ls at hl ⊢
  have hl : lv_has ls 4 [(0, .ref y0), (1, .int d)] := hl
  refine W_gen (fun GW hIn hOut => ?_)
  refine hIn _ _ _ _ _ ?_
  have hP0 := hP
  refine lv_iload_n hx hb dX4_now_0 rfl (lv_at hl 1 rfl) ?_
  refine cc_i (wc := []) (wr := [(y0, .inr (4, [.int num, .int pts, .int nw, .int en, .int gl, .int bw, .int sp, .int be, .ref m_kind, .ref m_floor, .ref m_volume, .ref m_size, .ref m_faces, .ref m_when, .ref m_ahead, .ref m_order, .ref m_tried, .ref m_chosen, .ref m_forms, .ref m_warmth, .ref m_degrees, .ref m_thousandths, .ref m_longest, .long ab, .long bl])), (m_when, .inl (cI, 10, .inl u_when))]) (va_runS (As := [.int d]) (rest := []) ⟨hx, hb, hml, hown, hts⟩ (c_X4_isDay l D cI cQ s.heap.size d ) (va_cwS 1 hts gX4_now_X4_isDay rfl rfl rfl (by decide +kernel) ⟨Nat.le_of_ble_eq_true rfl, Nat.le_of_ble_eq_true rfl⟩) (preS (wc := []) hK hP hD hN [] rfl (by decide)) rfl rfl hl.1 rfl (lv_room (Nat.le_of_ble_eq_true rfl)) dX4_now_1 ⟨Nat.le_of_ble_eq_true rfl, Nat.le_of_ble_eq_true rfl⟩) hP hD hS hA [] [0, 1] rfl rfl (by decide) (by decide) (fun r_1 u H locs w_2 hP hD hS => ?_)
  have hP : va_P D vwCl [(y0, .inr (4, [.int num, .int pts, .int nw, .int en, .int gl, .int bw, .int sp, .int be, .ref m_kind, .ref m_floor, .ref m_volume, .ref m_size, .ref m_faces, .ref m_when, .ref m_ahead, .ref m_order, .ref m_tried, .ref m_chosen, .ref m_forms, .ref m_warmth, .ref m_degrees, .ref m_thousandths, .ref m_longest, .long ab, .long bl])), (m_when, .inl (cI, 10, .inl u_when))] H := hP
  have hD : va_D A [(y0, .inr (4, [.int num, .int pts, .int nw, .int en, .int gl, .int bw, .int sp, .int be, .ref m_kind, .ref m_floor, .ref m_volume, .ref m_size, .ref m_faces, .ref m_when, .ref m_ahead, .ref m_order, .ref m_tried, .ref m_chosen, .ref m_forms, .ref m_warmth, .ref m_degrees, .ref m_thousandths, .ref m_longest, .long ab, .long bl])), (m_when, .inl (cI, 10, .inl u_when))] := hD
  have w_2 : r_1 = bDay d := w_2
  refine lv_if_ne (tgt := 9) hx hb dX4_now_4 (by decide) (fun c_4 => ?_) (fun c_4 => ?_)
  · refine lv_iload_n hx hb dX4_now_9 rfl (lv_at hl 1 rfl) ?_
    refine lv_aload_n hx hb dX4_now_10 rfl (lv_at hl 0 rfl) ?_
    refine va_get (D := D) (ci := 4) (v := .int nw) (C := RX4) (T := TX4) (N := 25) hx hb hts iw_X4_now_4 hown hK hP 0 rfl rfl 2 (by decide) (hts _ wd_X4_now_1) (fun _ h9 => h9) rfl dX4_now_11 ?_
    refine lv_icmp_ge (tgt := 20) hx hb dX4_now_14 (by decide) (fun c_5 => ?_) (fun c_5 => ?_)
    · refine lv_aload_n hx hb dX4_now_20 rfl (lv_at hl 0 rfl) ?_
      refine lv_iload_n hx hb dX4_now_21 rfl (lv_at hl 1 rfl) ?_
      refine va_put (D := D) (ci := 4) (v := .int d) (ty := .int) (C := RX4) (T := TX4) (N := 25) hx hb hts iw_X4_now_4 tyX4 tyX4_ok nmX4 hown hK hP hD hS 0 rfl rfl 2 (by decide) (hts _ wd_X4_now_1) (fun _ h9 => h9) rfl (by decide +kernel) rfl rfl (Nat.le_of_ble_eq_true rfl) dX4_now_22 (fun H locs hP hD hS => ?_)
      have hP : va_P D vwCl [(y0, .inr (4, [.int num, .int pts, .int d, .int en, .int gl, .int bw, .int sp, .int be, .ref m_kind, .ref m_floor, .ref m_volume, .ref m_size, .ref m_faces, .ref m_when, .ref m_ahead, .ref m_order, .ref m_tried, .ref m_chosen, .ref m_forms, .ref m_warmth, .ref m_degrees, .ref m_thousandths, .ref m_longest, .long ab, .long bl])), (m_when, .inl (cI, 10, .inl u_when))] H := hP
      have hD : va_D A [(y0, .inr (4, [.int num, .int pts, .int d, .int en, .int gl, .int bw, .int sp, .int be, .ref m_kind, .ref m_floor, .ref m_volume, .ref m_size, .ref m_faces, .ref m_when, .ref m_ahead, .ref m_order, .ref m_tried, .ref m_chosen, .ref m_forms, .ref m_warmth, .ref m_degrees, .ref m_thousandths, .ref m_longest, .long ab, .long bl])), (m_when, .inl (cI, 10, .inl u_when))] := hD
      refine lv_iconst (v := 0) hx hb dX4_now_25 (by decide) ?_
      refine lv_istore_n (lv' := [(2, .int 0), (0, .ref y0), (1, .int d)]) hx hb dX4_now_26 rfl hl (by decide) rfl (fun ls hl => ?_)
      refine lv_iconst (v := 0) hx hb dX4_now_27 (by decide) ?_
      refine lv_istore_n (lv' := [(3, .int 0), (2, .int 0), (0, .ref y0), (1, .int d)]) hx hb dX4_now_28 rfl hl (by decide) rfl (fun ls hl => ?_)
      have lp_29 : ∀ (n : Nat) (k : Int32) (kc : Int32) (wa : Nat → Int32) (H : Heap) (locs : List Loc) (ls : Array Slot), 10 - k.toNatClampNeg < n → (0 ≤ k) → (okWh wa) → va_P D vwCl [(y0, .inr (4, [.int num, .int pts, .int d, .int en, .int gl, .int bw, .int sp, .int be, .ref m_kind, .ref m_floor, .ref m_volume, .ref m_size, .ref m_faces, .ref m_when, .ref m_ahead, .ref m_order, .ref m_tried, .ref m_chosen, .ref m_forms, .ref m_warmth, .ref m_degrees, .ref m_thousandths, .ref m_longest, .long ab, .long bl])), (m_when, .inl (cI, 10, .inl wa))] H → va_D A [(y0, .inr (4, [.int num, .int pts, .int d, .int en, .int gl, .int bw, .int sp, .int be, .ref m_kind, .ref m_floor, .ref m_volume, .ref m_size, .ref m_faces, .ref m_when, .ref m_ahead, .ref m_order, .ref m_tried, .ref m_chosen, .ref m_forms, .ref m_warmth, .ref m_degrees, .ref m_thousandths, .ref m_longest, .long ab, .long bl])), (m_when, .inl (cI, 10, .inl wa))] → va_S A s.heap H locs → lv_has ls 4 [(0, .ref y0), (1, .int d), (2, .int kc), (3, .int k)] → GW H locs 0 0 (F0 m 29 ls []) := by
        intro n_29
        induction n_29 with
        | zero => intro k kc wa H locs ls hn_29; exact absurd hn_29 (Nat.not_lt_zero _)
        | succ n_29 ih_29 =>
          intro k kc wa H locs ls hn_29 h0k hwa hP hD hS hl
          refine hIn _ _ _ _ _ ?_
          refine lv_iload_n hx hb dX4_now_29 rfl (lv_at hl 3 rfl) ?_
          refine lv_aload_n hx hb dX4_now_30 rfl (lv_at hl 0 rfl) ?_
          refine va_get (D := D) (ci := 4) (v := .int num) (C := RX4) (T := TX4) (N := 25) hx hb hts iw_X4_now_4 hown hK hP 0 rfl rfl 0 (by decide) (hts _ wd_X4_now_2) (fun _ h9 => h9) rfl dX4_now_31 ?_
          refine lv_icmp_ge (tgt := 66) hx hb dX4_now_34 (by decide) (fun c_6 => ?_) (fun c_6 => ?_)
          · refine lv_iload_n hx hb dX4_now_66 rfl (lv_at hl 2 rfl) ?_
            refine W.widen (k := 0) (n := 0) (Nat.le_of_ble_eq_true rfl) (Nat.le_of_ble_eq_true rfl) ?_
            exact fi_i (d, wa) hx hb hr hlocks hK (hP.sub [0, 1] rfl) (hD.sub [0, 1] (by decide) rfl) hS ⟨(pf_X4_now_1 num nw u_when d r_1 n_29 k wa hn0 hn1 hwh hnw0 hnw1 w_2 c_4 c_5 hn_29 h0k hwa c_6), (pf_X4_now_2 num nw u_when d r_1 n_29 k wa hn0 hn1 hwh hnw0 hnw1 w_2 c_4 c_5 hn_29 h0k hwa c_6)⟩ dX4_now_67
          · refine lv_aload_n hx hb dX4_now_37 rfl (lv_at hl 0 rfl) ?_
            refine va_get (D := D) (ci := 4) (v := .ref m_when) (C := RX4) (T := TX4) (N := 25) hx hb hts iw_X4_now_4 hown hK hP 0 rfl rfl 13 (by decide) (hts _ wd_X4_now_3) (fun _ h9 => h9) rfl dX4_now_38 ?_
            refine lv_iload_n hx hb dX4_now_41 rfl (lv_at hl 3 rfl) ?_
            refine va_iald hx hb hK hP 1 0 rfl rfl (pf_X4_now_3 num nw u_when d r_1 n_29 k wa hn0 hn1 hwh hnw0 hnw1 w_2 c_4 c_5 hn_29 h0k hwa c_6) dX4_now_42 ?_
            refine lv_topi (fun v_7 ev_7 => ?_)
            refine lv_aload_n hx hb dX4_now_43 rfl (lv_at hl 0 rfl) ?_
            refine va_get (D := D) (ci := 4) (v := .int d) (C := RX4) (T := TX4) (N := 25) hx hb hts iw_X4_now_4 hown hK hP 0 rfl rfl 2 (by decide) (hts _ wd_X4_now_1) (fun _ h9 => h9) rfl dX4_now_44 ?_
            refine lv_icmp_lt (tgt := 60) hx hb dX4_now_47 (by decide) (fun c_8 => ?_) (fun c_8 => ?_)
            · obtain ⟨v_9, ev_9⟩ : ∃ y : Int32, y = k + 1 := ⟨_, rfl⟩
              refine lv_iinc (v := v_9) (lv' := [(3, .int v_9), (0, .ref y0), (1, .int d), (2, .int kc)]) hx hb dX4_now_60 hl (k := 3) rfl (by rw [ev_9]; rfl) (by decide) rfl (fun ls hl => ?_)
              refine lv_goto (tgt := 29) hx hb dX4_now_63 (by decide) ?_
              exact hOut _ _ _ _ _ (ih_29 v_9 kc wa _ _ _ (pf_X4_now_4 num nw u_when d r_1 n_29 k wa v_7 v_9 hn0 hn1 hwh hnw0 hnw1 w_2 c_4 c_5 hn_29 h0k hwa c_6 ev_7 c_8 ev_9) (pf_X4_now_5 num nw u_when d r_1 n_29 k wa v_7 v_9 hn0 hn1 hwh hnw0 hnw1 w_2 c_4 c_5 hn_29 h0k hwa c_6 ev_7 c_8 ev_9) (pf_X4_now_6 num nw u_when d r_1 n_29 k wa v_7 v_9 hn0 hn1 hwh hnw0 hnw1 w_2 c_4 c_5 hn_29 h0k hwa c_6 ev_7 c_8 ev_9) (hP.sub [0, 1] rfl) (hD.sub [0, 1] (by decide) rfl) hS (lv_sub hl [1, 2, 3, 0] rfl))
            · refine lv_aload_n hx hb dX4_now_50 rfl (lv_at hl 0 rfl) ?_
              refine va_get (D := D) (ci := 4) (v := .ref m_when) (C := RX4) (T := TX4) (N := 25) hx hb hts iw_X4_now_4 hown hK hP 0 rfl rfl 13 (by decide) (hts _ wd_X4_now_3) (fun _ h9 => h9) rfl dX4_now_51 ?_
              refine lv_iload_n hx hb dX4_now_54 rfl (lv_at hl 3 rfl) ?_
              refine lv_iconst (v := (-1)) hx hb dX4_now_55 (by decide) ?_
              refine va_iast hx hb hK hP hD hS 1 0 rfl rfl (pf_X4_now_7 num nw u_when d r_1 n_29 k wa v_7 hn0 hn1 hwh hnw0 hnw1 w_2 c_4 c_5 hn_29 h0k hwa c_6 ev_7 c_8) dX4_now_56 (fun H locs hP hD hS => ?_)
              have hP : va_P D vwCl [(y0, .inr (4, [.int num, .int pts, .int d, .int en, .int gl, .int bw, .int sp, .int be, .ref m_kind, .ref m_floor, .ref m_volume, .ref m_size, .ref m_faces, .ref m_when, .ref m_ahead, .ref m_order, .ref m_tried, .ref m_chosen, .ref m_forms, .ref m_warmth, .ref m_degrees, .ref m_thousandths, .ref m_longest, .long ab, .long bl])), (m_when, .inl (cI, 10, .inl (upd wa k.toNatClampNeg (-1))))] H := hP
              have hD : va_D A [(y0, .inr (4, [.int num, .int pts, .int d, .int en, .int gl, .int bw, .int sp, .int be, .ref m_kind, .ref m_floor, .ref m_volume, .ref m_size, .ref m_faces, .ref m_when, .ref m_ahead, .ref m_order, .ref m_tried, .ref m_chosen, .ref m_forms, .ref m_warmth, .ref m_degrees, .ref m_thousandths, .ref m_longest, .long ab, .long bl])), (m_when, .inl (cI, 10, .inl (upd wa k.toNatClampNeg (-1))))] := hD
              obtain ⟨v_10, ev_10⟩ : ∃ y : Int32, y = kc + 1 := ⟨_, rfl⟩
              refine lv_iinc (v := v_10) (lv' := [(2, .int v_10), (0, .ref y0), (1, .int d), (3, .int k)]) hx hb dX4_now_57 hl (k := 2) rfl (by rw [ev_10]; rfl) (by decide) rfl (fun ls hl => ?_)
              obtain ⟨v_11, ev_11⟩ : ∃ y : Int32, y = k + 1 := ⟨_, rfl⟩
              refine lv_iinc (v := v_11) (lv' := [(3, .int v_11), (2, .int v_10), (0, .ref y0), (1, .int d)]) hx hb dX4_now_60 hl (k := 3) rfl (by rw [ev_11]; rfl) (by decide) rfl (fun ls hl => ?_)
              refine lv_goto (tgt := 29) hx hb dX4_now_63 (by decide) ?_
              exact hOut _ _ _ _ _ (ih_29 v_11 v_10 (upd wa k.toNatClampNeg (-1)) _ _ _ (pf_X4_now_8 num nw u_when d r_1 n_29 k kc wa v_7 v_10 v_11 hn0 hn1 hwh hnw0 hnw1 w_2 c_4 c_5 hn_29 h0k hwa c_6 ev_7 c_8 ev_10 ev_11) (pf_X4_now_9 num nw u_when d r_1 n_29 k kc wa v_7 v_10 v_11 hn0 hn1 hwh hnw0 hnw1 w_2 c_4 c_5 hn_29 h0k hwa c_6 ev_7 c_8 ev_10 ev_11) (pf_X4_now_10 num nw u_when d r_1 n_29 k kc wa v_7 v_10 v_11 hn0 hn1 hwh hnw0 hnw1 w_2 c_4 c_5 hn_29 h0k hwa c_6 ev_7 c_8 ev_10 ev_11) (hP.sub [0, 1] rfl) (hD.sub [0, 1] (by decide) rfl) hS (lv_sub hl [2, 3, 1, 0] rfl))
      exact hOut _ _ _ _ _ (lp_29 (10 - (0 : Int32).toNatClampNeg + 1) 0 0 u_when _ _ _ (Nat.lt_succ_self _) (pf_X4_now_11 num nw u_when d r_1 hn0 hn1 hwh hnw0 hnw1 w_2 c_4 c_5) (pf_X4_now_12 num nw u_when d r_1 hn0 hn1 hwh hnw0 hnw1 w_2 c_4 c_5) (hP.sub [0, 1] rfl) (hD.sub [0, 1] (by decide) rfl) hS (lv_sub hl [2, 3, 1, 0] rfl))
    · refine lv_bipush (v := (-2)) hx hb dX4_now_17 (by decide) ?_
      refine W.widen (k := 0) (n := 0) (Nat.le_of_ble_eq_true rfl) (Nat.le_of_ble_eq_true rfl) ?_
      exact fi_i (nw, u_when) hx hb hr hlocks hK (hP.sub [0, 1] rfl) (hD.sub [0, 1] (by decide) rfl) hS ⟨(pf_X4_now_13 num nw u_when d r_1 hn0 hn1 hwh hnw0 hnw1 w_2 c_4 c_5), (pf_X4_now_14 num nw u_when d r_1 hn0 hn1 hwh hnw0 hnw1 w_2 c_4 c_5)⟩ dX4_now_19
  · refine lv_iconst (v := (-1)) hx hb dX4_now_7 (by decide) ?_
    refine W.widen (k := 0) (n := 0) (Nat.le_of_ble_eq_true rfl) (Nat.le_of_ble_eq_true rfl) ?_
    exact fi_i (nw, u_when) hx hb hr hlocks hK (hP.sub [0, 1] rfl) (hD.sub [0, 1] (by decide) rfl) hS ⟨(pf_X4_now_15 num nw u_when d r_1 hn0 hn1 hwh hnw0 hnw1 w_2 c_4), (pf_X4_now_16 num nw u_when d r_1 hn0 hn1 hwh hnw0 hnw1 w_2 c_4)⟩ dX4_now_8

theorem iw_X4_bound_4 : ∀ w ∈ wsX40, w ∈ wsX4_bound := fun w h => (List.mem_cons_of_mem _ (List.mem_append_right _ h))
theorem wd_X4_bound_1 : (.fieldLink RX4 67 "PourPlanModel" "pieces" "I" : Cond) ∈ wsX4_bound := List.mem_of_getElem? (i := 1) rfl
theorem wd_X4_bound_2 : (.fieldLink RX4 64 "PourPlanModel" "longest" "[I" : Cond) ∈ wsX4_bound := List.mem_of_getElem? (i := 2) rfl
theorem wd_X4_bound_3 : (.fieldLink RX4 40 "PourPlanModel" "ahead" "[I" : Cond) ∈ wsX4_bound := List.mem_of_getElem? (i := 3) rfl
set_option maxHeartbeats 1000000 in
theorem pf_X4_bound_1 (num : Int32) (n_11 : Nat) (k : Int32) (n_34 : Nat) (k1 : Int32) (n_136 : Nat) (k4 : Int32) (hn0 : 0 ≤ num) (hn1 : num ≤ 10) (c_1 : ¬ num = 0) (hn_11 : 10 - k.toNatClampNeg < n_11 + 1) (h0k : 0 ≤ k) (c_2 : num ≤ k) (hn_34 : 10 - k1.toNatClampNeg < n_34 + 1) (h0k1 : 0 ≤ k1) (c_3 : num ≤ k1) (hn_136 : 10 - k4.toNatClampNeg < n_136 + 1) (h0k4 : 0 ≤ k4) (c_4 : ¬ num ≤ k4) : vp_in k4 10 := by
  exact vi_in (M := 10) rfl (by grind) (by grind)
set_option maxHeartbeats 1000000 in
theorem pf_X4_bound_2 (num : Int32) (n_11 : Nat) (k : Int32) (n_34 : Nat) (k1 : Int32) (lb : Nat → Int32) (n_136 : Nat) (k4 : Int32) (km : Int32) (v_6 : Int32) (v_8 : Int32) (hn0 : 0 ≤ num) (hn1 : num ≤ 10) (c_1 : ¬ num = 0) (hn_11 : 10 - k.toNatClampNeg < n_11 + 1) (h0k : 0 ≤ k) (c_2 : num ≤ k) (hn_34 : 10 - k1.toNatClampNeg < n_34 + 1) (h0k1 : 0 ≤ k1) (c_3 : num ≤ k1) (hn_136 : 10 - k4.toNatClampNeg < n_136 + 1) (h0k4 : 0 ≤ k4) (c_4 : ¬ num ≤ k4) (ev_6 : v_6 = lb k4.toNatClampNeg) (c_7 : v_6 ≤ km) (ev_8 : v_8 = k4 + 1) : 10 - v_8.toNatClampNeg < n_136 := by
  exact ms_dec (L := 10) (k := k4) (by grind) (show ¬ (10 : Int32) ≤ k4 by grind) (by omega) (by assumption) hn_136
set_option maxHeartbeats 1000000 in
theorem pf_X4_bound_3 (num : Int32) (n_11 : Nat) (k : Int32) (n_34 : Nat) (k1 : Int32) (lb : Nat → Int32) (n_136 : Nat) (k4 : Int32) (km : Int32) (v_6 : Int32) (v_8 : Int32) (hn0 : 0 ≤ num) (hn1 : num ≤ 10) (c_1 : ¬ num = 0) (hn_11 : 10 - k.toNatClampNeg < n_11 + 1) (h0k : 0 ≤ k) (c_2 : num ≤ k) (hn_34 : 10 - k1.toNatClampNeg < n_34 + 1) (h0k1 : 0 ≤ k1) (c_3 : num ≤ k1) (hn_136 : 10 - k4.toNatClampNeg < n_136 + 1) (h0k4 : 0 ≤ k4) (c_4 : ¬ num ≤ k4) (ev_6 : v_6 = lb k4.toNatClampNeg) (c_7 : v_6 ≤ km) (ev_8 : v_8 = k4 + 1) : 0 ≤ v_8 := by
  grind
set_option maxHeartbeats 1000000 in
theorem pf_X4_bound_4 (num : Int32) (n_11 : Nat) (k : Int32) (n_34 : Nat) (k1 : Int32) (lb : Nat → Int32) (n_136 : Nat) (k4 : Int32) (km : Int32) (v_6 : Int32) (hn0 : 0 ≤ num) (hn1 : num ≤ 10) (c_1 : ¬ num = 0) (hn_11 : 10 - k.toNatClampNeg < n_11 + 1) (h0k : 0 ≤ k) (c_2 : num ≤ k) (hn_34 : 10 - k1.toNatClampNeg < n_34 + 1) (h0k1 : 0 ≤ k1) (c_3 : num ≤ k1) (hn_136 : 10 - k4.toNatClampNeg < n_136 + 1) (h0k4 : 0 ≤ k4) (c_4 : ¬ num ≤ k4) (ev_6 : v_6 = lb k4.toNatClampNeg) (c_7 : ¬ v_6 ≤ km) : vp_in k4 10 := by
  exact vi_in (M := 10) rfl (by grind) (by grind)
set_option maxHeartbeats 1000000 in
theorem pf_X4_bound_5 (num : Int32) (n_11 : Nat) (k : Int32) (n_34 : Nat) (k1 : Int32) (lb : Nat → Int32) (n_136 : Nat) (k4 : Int32) (km : Int32) (v_6 : Int32) (v_9 : Int32) (v_10 : Int32) (hn0 : 0 ≤ num) (hn1 : num ≤ 10) (c_1 : ¬ num = 0) (hn_11 : 10 - k.toNatClampNeg < n_11 + 1) (h0k : 0 ≤ k) (c_2 : num ≤ k) (hn_34 : 10 - k1.toNatClampNeg < n_34 + 1) (h0k1 : 0 ≤ k1) (c_3 : num ≤ k1) (hn_136 : 10 - k4.toNatClampNeg < n_136 + 1) (h0k4 : 0 ≤ k4) (c_4 : ¬ num ≤ k4) (ev_6 : v_6 = lb k4.toNatClampNeg) (c_7 : ¬ v_6 ≤ km) (ev_9 : v_9 = lb k4.toNatClampNeg) (ev_10 : v_10 = k4 + 1) : 10 - v_10.toNatClampNeg < n_136 := by
  exact ms_dec (L := 10) (k := k4) (by grind) (show ¬ (10 : Int32) ≤ k4 by grind) (by omega) (by assumption) hn_136
set_option maxHeartbeats 1000000 in
theorem pf_X4_bound_6 (num : Int32) (n_11 : Nat) (k : Int32) (n_34 : Nat) (k1 : Int32) (lb : Nat → Int32) (n_136 : Nat) (k4 : Int32) (km : Int32) (v_6 : Int32) (v_9 : Int32) (v_10 : Int32) (hn0 : 0 ≤ num) (hn1 : num ≤ 10) (c_1 : ¬ num = 0) (hn_11 : 10 - k.toNatClampNeg < n_11 + 1) (h0k : 0 ≤ k) (c_2 : num ≤ k) (hn_34 : 10 - k1.toNatClampNeg < n_34 + 1) (h0k1 : 0 ≤ k1) (c_3 : num ≤ k1) (hn_136 : 10 - k4.toNatClampNeg < n_136 + 1) (h0k4 : 0 ≤ k4) (c_4 : ¬ num ≤ k4) (ev_6 : v_6 = lb k4.toNatClampNeg) (c_7 : ¬ v_6 ≤ km) (ev_9 : v_9 = lb k4.toNatClampNeg) (ev_10 : v_10 = k4 + 1) : 0 ≤ v_10 := by
  grind
set_option maxHeartbeats 1000000 in
theorem pf_X4_bound_7 (num : Int32) (n_11 : Nat) (k : Int32) (n_34 : Nat) (k1 : Int32) (hn0 : 0 ≤ num) (hn1 : num ≤ 10) (c_1 : ¬ num = 0) (hn_11 : 10 - k.toNatClampNeg < n_11 + 1) (h0k : 0 ≤ k) (c_2 : num ≤ k) (hn_34 : 10 - k1.toNatClampNeg < n_34 + 1) (h0k1 : 0 ≤ k1) (c_3 : num ≤ k1) : 0 ≤ (0 : Int32) := by
  grind
set_option maxHeartbeats 1000000 in
theorem pf_X4_bound_8 (num : Int32) (n_11 : Nat) (k : Int32) (n_34 : Nat) (k1 : Int32) (n_44 : Nat) (k2 : Int32) (v_12 : Int32) (hn0 : 0 ≤ num) (hn1 : num ≤ 10) (c_1 : ¬ num = 0) (hn_11 : 10 - k.toNatClampNeg < n_11 + 1) (h0k : 0 ≤ k) (c_2 : num ≤ k) (hn_34 : 10 - k1.toNatClampNeg < n_34 + 1) (h0k1 : 0 ≤ k1) (c_3 : ¬ num ≤ k1) (hn_44 : 10 - k2.toNatClampNeg < n_44 + 1) (h0k2 : 0 ≤ k2) (c_11 : num ≤ k2) (ev_12 : v_12 = k1 + 1) : 10 - v_12.toNatClampNeg < n_34 := by
  exact ms_dec (L := 10) (k := k1) (by grind) (show ¬ (10 : Int32) ≤ k1 by grind) (by omega) (by assumption) hn_34
set_option maxHeartbeats 1000000 in
theorem pf_X4_bound_9 (num : Int32) (n_11 : Nat) (k : Int32) (n_34 : Nat) (k1 : Int32) (n_44 : Nat) (k2 : Int32) (v_12 : Int32) (hn0 : 0 ≤ num) (hn1 : num ≤ 10) (c_1 : ¬ num = 0) (hn_11 : 10 - k.toNatClampNeg < n_11 + 1) (h0k : 0 ≤ k) (c_2 : num ≤ k) (hn_34 : 10 - k1.toNatClampNeg < n_34 + 1) (h0k1 : 0 ≤ k1) (c_3 : ¬ num ≤ k1) (hn_44 : 10 - k2.toNatClampNeg < n_44 + 1) (h0k2 : 0 ≤ k2) (c_11 : num ≤ k2) (ev_12 : v_12 = k1 + 1) : 0 ≤ v_12 := by
  grind
set_option maxHeartbeats 1000000 in
theorem pf_X4_bound_10 (num : Int32) (n_11 : Nat) (k : Int32) (n_34 : Nat) (k1 : Int32) (n_44 : Nat) (k2 : Int32) (n_54 : Nat) (k3 : Int32) (v_14 : Int32) (hn0 : 0 ≤ num) (hn1 : num ≤ 10) (c_1 : ¬ num = 0) (hn_11 : 10 - k.toNatClampNeg < n_11 + 1) (h0k : 0 ≤ k) (c_2 : num ≤ k) (hn_34 : 10 - k1.toNatClampNeg < n_34 + 1) (h0k1 : 0 ≤ k1) (c_3 : ¬ num ≤ k1) (hn_44 : 10 - k2.toNatClampNeg < n_44 + 1) (h0k2 : 0 ≤ k2) (c_11 : ¬ num ≤ k2) (hn_54 : 10 - k3.toNatClampNeg < n_54 + 1) (h0k3 : 0 ≤ k3) (c_13 : num ≤ k3) (ev_14 : v_14 = k2 + 1) : 10 - v_14.toNatClampNeg < n_44 := by
  exact ms_dec (L := 10) (k := k2) (by grind) (show ¬ (10 : Int32) ≤ k2 by grind) (by omega) (by assumption) hn_44
set_option maxHeartbeats 1000000 in
theorem pf_X4_bound_11 (num : Int32) (n_11 : Nat) (k : Int32) (n_34 : Nat) (k1 : Int32) (n_44 : Nat) (k2 : Int32) (n_54 : Nat) (k3 : Int32) (v_14 : Int32) (hn0 : 0 ≤ num) (hn1 : num ≤ 10) (c_1 : ¬ num = 0) (hn_11 : 10 - k.toNatClampNeg < n_11 + 1) (h0k : 0 ≤ k) (c_2 : num ≤ k) (hn_34 : 10 - k1.toNatClampNeg < n_34 + 1) (h0k1 : 0 ≤ k1) (c_3 : ¬ num ≤ k1) (hn_44 : 10 - k2.toNatClampNeg < n_44 + 1) (h0k2 : 0 ≤ k2) (c_11 : ¬ num ≤ k2) (hn_54 : 10 - k3.toNatClampNeg < n_54 + 1) (h0k3 : 0 ≤ k3) (c_13 : num ≤ k3) (ev_14 : v_14 = k2 + 1) : 0 ≤ v_14 := by
  grind
set_option maxHeartbeats 1000000 in
theorem pf_X4_bound_12 (num : Int32) (n_11 : Nat) (k : Int32) (n_34 : Nat) (k1 : Int32) (n_44 : Nat) (k2 : Int32) (n_54 : Nat) (k3 : Int32) (v_15 : Int32) (v_16 : Int32) (hn0 : 0 ≤ num) (hn1 : num ≤ 10) (c_1 : ¬ num = 0) (hn_11 : 10 - k.toNatClampNeg < n_11 + 1) (h0k : 0 ≤ k) (c_2 : num ≤ k) (hn_34 : 10 - k1.toNatClampNeg < n_34 + 1) (h0k1 : 0 ≤ k1) (c_3 : ¬ num ≤ k1) (hn_44 : 10 - k2.toNatClampNeg < n_44 + 1) (h0k2 : 0 ≤ k2) (c_11 : ¬ num ≤ k2) (hn_54 : 10 - k3.toNatClampNeg < n_54 + 1) (h0k3 : 0 ≤ k3) (c_13 : ¬ num ≤ k3) (ev_15 : v_15 = 10 * k2) (ev_16 : v_16 = v_15 + k3) : vp_in v_16 100 := by
  exact ix_in (a := k2) (b := k3) (by grind) (by grind) (by grind) (by grind) (by assumption) (by assumption)
set_option maxHeartbeats 1000000 in
theorem pf_X4_bound_13 (num : Int32) (u_ahead : Nat → Int32) (n_11 : Nat) (k : Int32) (n_34 : Nat) (k1 : Int32) (n_44 : Nat) (k2 : Int32) (n_54 : Nat) (k3 : Int32) (v_15 : Int32) (v_16 : Int32) (v_17 : Int32) (v_19 : Int32) (hn0 : 0 ≤ num) (hn1 : num ≤ 10) (c_1 : ¬ num = 0) (hn_11 : 10 - k.toNatClampNeg < n_11 + 1) (h0k : 0 ≤ k) (c_2 : num ≤ k) (hn_34 : 10 - k1.toNatClampNeg < n_34 + 1) (h0k1 : 0 ≤ k1) (c_3 : ¬ num ≤ k1) (hn_44 : 10 - k2.toNatClampNeg < n_44 + 1) (h0k2 : 0 ≤ k2) (c_11 : ¬ num ≤ k2) (hn_54 : 10 - k3.toNatClampNeg < n_54 + 1) (h0k3 : 0 ≤ k3) (c_13 : ¬ num ≤ k3) (ev_15 : v_15 = 10 * k2) (ev_16 : v_16 = v_15 + k3) (ev_17 : v_17 = u_ahead v_16.toNatClampNeg) (c_18 : v_17 = (-1)) (ev_19 : v_19 = k3 + 1) : 10 - v_19.toNatClampNeg < n_54 := by
  exact ms_dec (L := 10) (k := k3) (by grind) (show ¬ (10 : Int32) ≤ k3 by grind) (by omega) (by assumption) hn_54
set_option maxHeartbeats 1000000 in
theorem pf_X4_bound_14 (num : Int32) (u_ahead : Nat → Int32) (n_11 : Nat) (k : Int32) (n_34 : Nat) (k1 : Int32) (n_44 : Nat) (k2 : Int32) (n_54 : Nat) (k3 : Int32) (v_15 : Int32) (v_16 : Int32) (v_17 : Int32) (v_19 : Int32) (hn0 : 0 ≤ num) (hn1 : num ≤ 10) (c_1 : ¬ num = 0) (hn_11 : 10 - k.toNatClampNeg < n_11 + 1) (h0k : 0 ≤ k) (c_2 : num ≤ k) (hn_34 : 10 - k1.toNatClampNeg < n_34 + 1) (h0k1 : 0 ≤ k1) (c_3 : ¬ num ≤ k1) (hn_44 : 10 - k2.toNatClampNeg < n_44 + 1) (h0k2 : 0 ≤ k2) (c_11 : ¬ num ≤ k2) (hn_54 : 10 - k3.toNatClampNeg < n_54 + 1) (h0k3 : 0 ≤ k3) (c_13 : ¬ num ≤ k3) (ev_15 : v_15 = 10 * k2) (ev_16 : v_16 = v_15 + k3) (ev_17 : v_17 = u_ahead v_16.toNatClampNeg) (c_18 : v_17 = (-1)) (ev_19 : v_19 = k3 + 1) : 0 ≤ v_19 := by
  grind
set_option maxHeartbeats 1000000 in
theorem pf_X4_bound_15 (num : Int32) (u_ahead : Nat → Int32) (n_11 : Nat) (k : Int32) (n_34 : Nat) (k1 : Int32) (n_44 : Nat) (k2 : Int32) (n_54 : Nat) (k3 : Int32) (v_15 : Int32) (v_16 : Int32) (v_17 : Int32) (hn0 : 0 ≤ num) (hn1 : num ≤ 10) (c_1 : ¬ num = 0) (hn_11 : 10 - k.toNatClampNeg < n_11 + 1) (h0k : 0 ≤ k) (c_2 : num ≤ k) (hn_34 : 10 - k1.toNatClampNeg < n_34 + 1) (h0k1 : 0 ≤ k1) (c_3 : ¬ num ≤ k1) (hn_44 : 10 - k2.toNatClampNeg < n_44 + 1) (h0k2 : 0 ≤ k2) (c_11 : ¬ num ≤ k2) (hn_54 : 10 - k3.toNatClampNeg < n_54 + 1) (h0k3 : 0 ≤ k3) (c_13 : ¬ num ≤ k3) (ev_15 : v_15 = 10 * k2) (ev_16 : v_16 = v_15 + k3) (ev_17 : v_17 = u_ahead v_16.toNatClampNeg) (c_18 : ¬ v_17 = (-1)) : vp_in k2 10 := by
  exact vi_in (M := 10) rfl (by grind) (by grind)
set_option maxHeartbeats 1000000 in
theorem pf_X4_bound_16 (num : Int32) (u_ahead : Nat → Int32) (n_11 : Nat) (k : Int32) (n_34 : Nat) (k1 : Int32) (n_44 : Nat) (k2 : Int32) (n_54 : Nat) (k3 : Int32) (ld : Nat → Int32) (v_15 : Int32) (v_16 : Int32) (v_17 : Int32) (v_20 : Int32) (v_21 : Int32) (hn0 : 0 ≤ num) (hn1 : num ≤ 10) (c_1 : ¬ num = 0) (hn_11 : 10 - k.toNatClampNeg < n_11 + 1) (h0k : 0 ≤ k) (c_2 : num ≤ k) (hn_34 : 10 - k1.toNatClampNeg < n_34 + 1) (h0k1 : 0 ≤ k1) (c_3 : ¬ num ≤ k1) (hn_44 : 10 - k2.toNatClampNeg < n_44 + 1) (h0k2 : 0 ≤ k2) (c_11 : ¬ num ≤ k2) (hn_54 : 10 - k3.toNatClampNeg < n_54 + 1) (h0k3 : 0 ≤ k3) (c_13 : ¬ num ≤ k3) (ev_15 : v_15 = 10 * k2) (ev_16 : v_16 = v_15 + k3) (ev_17 : v_17 = u_ahead v_16.toNatClampNeg) (c_18 : ¬ v_17 = (-1)) (ev_20 : v_20 = ld k2.toNatClampNeg) (ev_21 : v_21 = v_20 + v_17) : vp_in k3 10 := by
  exact vi_in (M := 10) rfl (by grind) (by grind)
set_option maxHeartbeats 1000000 in
theorem pf_X4_bound_17 (num : Int32) (u_ahead : Nat → Int32) (n_11 : Nat) (k : Int32) (n_34 : Nat) (k1 : Int32) (n_44 : Nat) (k2 : Int32) (n_54 : Nat) (k3 : Int32) (ld : Nat → Int32) (v_15 : Int32) (v_16 : Int32) (v_17 : Int32) (v_20 : Int32) (v_21 : Int32) (v_22 : Int32) (v_24 : Int32) (hn0 : 0 ≤ num) (hn1 : num ≤ 10) (c_1 : ¬ num = 0) (hn_11 : 10 - k.toNatClampNeg < n_11 + 1) (h0k : 0 ≤ k) (c_2 : num ≤ k) (hn_34 : 10 - k1.toNatClampNeg < n_34 + 1) (h0k1 : 0 ≤ k1) (c_3 : ¬ num ≤ k1) (hn_44 : 10 - k2.toNatClampNeg < n_44 + 1) (h0k2 : 0 ≤ k2) (c_11 : ¬ num ≤ k2) (hn_54 : 10 - k3.toNatClampNeg < n_54 + 1) (h0k3 : 0 ≤ k3) (c_13 : ¬ num ≤ k3) (ev_15 : v_15 = 10 * k2) (ev_16 : v_16 = v_15 + k3) (ev_17 : v_17 = u_ahead v_16.toNatClampNeg) (c_18 : ¬ v_17 = (-1)) (ev_20 : v_20 = ld k2.toNatClampNeg) (ev_21 : v_21 = v_20 + v_17) (ev_22 : v_22 = ld k3.toNatClampNeg) (c_23 : v_21 ≤ v_22) (ev_24 : v_24 = k3 + 1) : 10 - v_24.toNatClampNeg < n_54 := by
  exact ms_dec (L := 10) (k := k3) (by grind) (show ¬ (10 : Int32) ≤ k3 by grind) (by omega) (by assumption) hn_54
set_option maxHeartbeats 1000000 in
theorem pf_X4_bound_18 (num : Int32) (u_ahead : Nat → Int32) (n_11 : Nat) (k : Int32) (n_34 : Nat) (k1 : Int32) (n_44 : Nat) (k2 : Int32) (n_54 : Nat) (k3 : Int32) (ld : Nat → Int32) (v_15 : Int32) (v_16 : Int32) (v_17 : Int32) (v_20 : Int32) (v_21 : Int32) (v_22 : Int32) (v_24 : Int32) (hn0 : 0 ≤ num) (hn1 : num ≤ 10) (c_1 : ¬ num = 0) (hn_11 : 10 - k.toNatClampNeg < n_11 + 1) (h0k : 0 ≤ k) (c_2 : num ≤ k) (hn_34 : 10 - k1.toNatClampNeg < n_34 + 1) (h0k1 : 0 ≤ k1) (c_3 : ¬ num ≤ k1) (hn_44 : 10 - k2.toNatClampNeg < n_44 + 1) (h0k2 : 0 ≤ k2) (c_11 : ¬ num ≤ k2) (hn_54 : 10 - k3.toNatClampNeg < n_54 + 1) (h0k3 : 0 ≤ k3) (c_13 : ¬ num ≤ k3) (ev_15 : v_15 = 10 * k2) (ev_16 : v_16 = v_15 + k3) (ev_17 : v_17 = u_ahead v_16.toNatClampNeg) (c_18 : ¬ v_17 = (-1)) (ev_20 : v_20 = ld k2.toNatClampNeg) (ev_21 : v_21 = v_20 + v_17) (ev_22 : v_22 = ld k3.toNatClampNeg) (c_23 : v_21 ≤ v_22) (ev_24 : v_24 = k3 + 1) : 0 ≤ v_24 := by
  grind
set_option maxHeartbeats 1000000 in
theorem pf_X4_bound_19 (num : Int32) (u_ahead : Nat → Int32) (n_11 : Nat) (k : Int32) (n_34 : Nat) (k1 : Int32) (n_44 : Nat) (k2 : Int32) (n_54 : Nat) (k3 : Int32) (ld : Nat → Int32) (v_15 : Int32) (v_16 : Int32) (v_17 : Int32) (v_20 : Int32) (v_21 : Int32) (v_22 : Int32) (hn0 : 0 ≤ num) (hn1 : num ≤ 10) (c_1 : ¬ num = 0) (hn_11 : 10 - k.toNatClampNeg < n_11 + 1) (h0k : 0 ≤ k) (c_2 : num ≤ k) (hn_34 : 10 - k1.toNatClampNeg < n_34 + 1) (h0k1 : 0 ≤ k1) (c_3 : ¬ num ≤ k1) (hn_44 : 10 - k2.toNatClampNeg < n_44 + 1) (h0k2 : 0 ≤ k2) (c_11 : ¬ num ≤ k2) (hn_54 : 10 - k3.toNatClampNeg < n_54 + 1) (h0k3 : 0 ≤ k3) (c_13 : ¬ num ≤ k3) (ev_15 : v_15 = 10 * k2) (ev_16 : v_16 = v_15 + k3) (ev_17 : v_17 = u_ahead v_16.toNatClampNeg) (c_18 : ¬ v_17 = (-1)) (ev_20 : v_20 = ld k2.toNatClampNeg) (ev_21 : v_21 = v_20 + v_17) (ev_22 : v_22 = ld k3.toNatClampNeg) (c_23 : ¬ v_21 ≤ v_22) : vp_in k2 10 := by
  exact vi_in (M := 10) rfl (by grind) (by grind)
set_option maxHeartbeats 1000000 in
theorem pf_X4_bound_20 (num : Int32) (u_ahead : Nat → Int32) (n_11 : Nat) (k : Int32) (n_34 : Nat) (k1 : Int32) (n_44 : Nat) (k2 : Int32) (n_54 : Nat) (k3 : Int32) (ld : Nat → Int32) (v_15 : Int32) (v_16 : Int32) (v_17 : Int32) (v_20 : Int32) (v_21 : Int32) (v_22 : Int32) (v_25 : Int32) (v_26 : Int32) (hn0 : 0 ≤ num) (hn1 : num ≤ 10) (c_1 : ¬ num = 0) (hn_11 : 10 - k.toNatClampNeg < n_11 + 1) (h0k : 0 ≤ k) (c_2 : num ≤ k) (hn_34 : 10 - k1.toNatClampNeg < n_34 + 1) (h0k1 : 0 ≤ k1) (c_3 : ¬ num ≤ k1) (hn_44 : 10 - k2.toNatClampNeg < n_44 + 1) (h0k2 : 0 ≤ k2) (c_11 : ¬ num ≤ k2) (hn_54 : 10 - k3.toNatClampNeg < n_54 + 1) (h0k3 : 0 ≤ k3) (c_13 : ¬ num ≤ k3) (ev_15 : v_15 = 10 * k2) (ev_16 : v_16 = v_15 + k3) (ev_17 : v_17 = u_ahead v_16.toNatClampNeg) (c_18 : ¬ v_17 = (-1)) (ev_20 : v_20 = ld k2.toNatClampNeg) (ev_21 : v_21 = v_20 + v_17) (ev_22 : v_22 = ld k3.toNatClampNeg) (c_23 : ¬ v_21 ≤ v_22) (ev_25 : v_25 = ld k2.toNatClampNeg) (ev_26 : v_26 = v_25 + v_17) : vp_in k3 10 := by
  exact vi_in (M := 10) rfl (by grind) (by grind)
set_option maxHeartbeats 1000000 in
theorem pf_X4_bound_21 (num : Int32) (u_ahead : Nat → Int32) (n_11 : Nat) (k : Int32) (n_34 : Nat) (k1 : Int32) (n_44 : Nat) (k2 : Int32) (n_54 : Nat) (k3 : Int32) (ld : Nat → Int32) (v_15 : Int32) (v_16 : Int32) (v_17 : Int32) (v_20 : Int32) (v_21 : Int32) (v_22 : Int32) (v_25 : Int32) (v_26 : Int32) (v_27 : Int32) (hn0 : 0 ≤ num) (hn1 : num ≤ 10) (c_1 : ¬ num = 0) (hn_11 : 10 - k.toNatClampNeg < n_11 + 1) (h0k : 0 ≤ k) (c_2 : num ≤ k) (hn_34 : 10 - k1.toNatClampNeg < n_34 + 1) (h0k1 : 0 ≤ k1) (c_3 : ¬ num ≤ k1) (hn_44 : 10 - k2.toNatClampNeg < n_44 + 1) (h0k2 : 0 ≤ k2) (c_11 : ¬ num ≤ k2) (hn_54 : 10 - k3.toNatClampNeg < n_54 + 1) (h0k3 : 0 ≤ k3) (c_13 : ¬ num ≤ k3) (ev_15 : v_15 = 10 * k2) (ev_16 : v_16 = v_15 + k3) (ev_17 : v_17 = u_ahead v_16.toNatClampNeg) (c_18 : ¬ v_17 = (-1)) (ev_20 : v_20 = ld k2.toNatClampNeg) (ev_21 : v_21 = v_20 + v_17) (ev_22 : v_22 = ld k3.toNatClampNeg) (c_23 : ¬ v_21 ≤ v_22) (ev_25 : v_25 = ld k2.toNatClampNeg) (ev_26 : v_26 = v_25 + v_17) (ev_27 : v_27 = k3 + 1) : 10 - v_27.toNatClampNeg < n_54 := by
  exact ms_dec (L := 10) (k := k3) (by grind) (show ¬ (10 : Int32) ≤ k3 by grind) (by omega) (by assumption) hn_54
set_option maxHeartbeats 1000000 in
theorem pf_X4_bound_22 (num : Int32) (u_ahead : Nat → Int32) (n_11 : Nat) (k : Int32) (n_34 : Nat) (k1 : Int32) (n_44 : Nat) (k2 : Int32) (n_54 : Nat) (k3 : Int32) (ld : Nat → Int32) (v_15 : Int32) (v_16 : Int32) (v_17 : Int32) (v_20 : Int32) (v_21 : Int32) (v_22 : Int32) (v_25 : Int32) (v_26 : Int32) (v_27 : Int32) (hn0 : 0 ≤ num) (hn1 : num ≤ 10) (c_1 : ¬ num = 0) (hn_11 : 10 - k.toNatClampNeg < n_11 + 1) (h0k : 0 ≤ k) (c_2 : num ≤ k) (hn_34 : 10 - k1.toNatClampNeg < n_34 + 1) (h0k1 : 0 ≤ k1) (c_3 : ¬ num ≤ k1) (hn_44 : 10 - k2.toNatClampNeg < n_44 + 1) (h0k2 : 0 ≤ k2) (c_11 : ¬ num ≤ k2) (hn_54 : 10 - k3.toNatClampNeg < n_54 + 1) (h0k3 : 0 ≤ k3) (c_13 : ¬ num ≤ k3) (ev_15 : v_15 = 10 * k2) (ev_16 : v_16 = v_15 + k3) (ev_17 : v_17 = u_ahead v_16.toNatClampNeg) (c_18 : ¬ v_17 = (-1)) (ev_20 : v_20 = ld k2.toNatClampNeg) (ev_21 : v_21 = v_20 + v_17) (ev_22 : v_22 = ld k3.toNatClampNeg) (c_23 : ¬ v_21 ≤ v_22) (ev_25 : v_25 = ld k2.toNatClampNeg) (ev_26 : v_26 = v_25 + v_17) (ev_27 : v_27 = k3 + 1) : 0 ≤ v_27 := by
  grind
set_option maxHeartbeats 1000000 in
theorem pf_X4_bound_23 (num : Int32) (n_11 : Nat) (k : Int32) (n_34 : Nat) (k1 : Int32) (n_44 : Nat) (k2 : Int32) (hn0 : 0 ≤ num) (hn1 : num ≤ 10) (c_1 : ¬ num = 0) (hn_11 : 10 - k.toNatClampNeg < n_11 + 1) (h0k : 0 ≤ k) (c_2 : num ≤ k) (hn_34 : 10 - k1.toNatClampNeg < n_34 + 1) (h0k1 : 0 ≤ k1) (c_3 : ¬ num ≤ k1) (hn_44 : 10 - k2.toNatClampNeg < n_44 + 1) (h0k2 : 0 ≤ k2) (c_11 : ¬ num ≤ k2) : 0 ≤ (0 : Int32) := by
  grind
set_option maxHeartbeats 1000000 in
theorem pf_X4_bound_24 (num : Int32) (n_11 : Nat) (k : Int32) (n_34 : Nat) (k1 : Int32) (hn0 : 0 ≤ num) (hn1 : num ≤ 10) (c_1 : ¬ num = 0) (hn_11 : 10 - k.toNatClampNeg < n_11 + 1) (h0k : 0 ≤ k) (c_2 : num ≤ k) (hn_34 : 10 - k1.toNatClampNeg < n_34 + 1) (h0k1 : 0 ≤ k1) (c_3 : ¬ num ≤ k1) : 0 ≤ (0 : Int32) := by
  grind
set_option maxHeartbeats 1000000 in
theorem pf_X4_bound_25 (num : Int32) (n_11 : Nat) (k : Int32) (hn0 : 0 ≤ num) (hn1 : num ≤ 10) (c_1 : ¬ num = 0) (hn_11 : 10 - k.toNatClampNeg < n_11 + 1) (h0k : 0 ≤ k) (c_2 : num ≤ k) : 0 ≤ (0 : Int32) := by
  grind
set_option maxHeartbeats 1000000 in
theorem pf_X4_bound_26 (num : Int32) (n_11 : Nat) (k : Int32) (hn0 : 0 ≤ num) (hn1 : num ≤ 10) (c_1 : ¬ num = 0) (hn_11 : 10 - k.toNatClampNeg < n_11 + 1) (h0k : 0 ≤ k) (c_2 : ¬ num ≤ k) : vp_in k 10 := by
  exact vi_in (M := 10) rfl (by grind) (by grind)
set_option maxHeartbeats 1000000 in
theorem pf_X4_bound_27 (num : Int32) (n_11 : Nat) (k : Int32) (v_28 : Int32) (hn0 : 0 ≤ num) (hn1 : num ≤ 10) (c_1 : ¬ num = 0) (hn_11 : 10 - k.toNatClampNeg < n_11 + 1) (h0k : 0 ≤ k) (c_2 : ¬ num ≤ k) (ev_28 : v_28 = k + 1) : 10 - v_28.toNatClampNeg < n_11 := by
  exact ms_dec (L := 10) (k := k) (by grind) (show ¬ (10 : Int32) ≤ k by grind) (by omega) (by assumption) hn_11
set_option maxHeartbeats 1000000 in
theorem pf_X4_bound_28 (num : Int32) (n_11 : Nat) (k : Int32) (v_28 : Int32) (hn0 : 0 ≤ num) (hn1 : num ≤ 10) (c_1 : ¬ num = 0) (hn_11 : 10 - k.toNatClampNeg < n_11 + 1) (h0k : 0 ≤ k) (c_2 : ¬ num ≤ k) (ev_28 : v_28 = k + 1) : 0 ≤ v_28 := by
  grind
set_option maxHeartbeats 1000000 in
theorem pf_X4_bound_29 (num : Int32) (hn0 : 0 ≤ num) (hn1 : num ≤ 10) (c_1 : ¬ num = 0) : 0 ≤ (0 : Int32) := by
  grind
set_option maxHeartbeats 4000000 in
set_option maxRecDepth 100000 in
theorem c_X4_bound (l : Launch) (D : va_G) (cI cQ : ClassId) (sz : Nat) (y0 : Nat) (m_ahead : Nat) (m_longest : Nat) (m_kind : Nat) (m_floor : Nat) (m_volume : Nat) (m_size : Nat) (m_faces : Nat) (m_when : Nat) (m_order : Nat) (m_tried : Nat) (m_chosen : Nat) (m_forms : Nat) (m_warmth : Nat) (m_degrees : Nat) (m_thousandths : Nat) (num : Int32) (pts : Int32) (nw : Int32) (en : Int32) (gl : Int32) (bw : Int32) (sp : Int32) (be : Int32) (ab : Int64) (bl : Int64) (u_ahead : Nat → Int32) (u_longest : Nat → Int32) (hn0 : 0 ≤ num) (hn1 : num ≤ 10) : CtI l yX4_bound wsX4_bound 0 0 0 0 [.ref y0] D [(cI, .int), (cQ, .array .int)] [(y0, .inr (4, [.int num, .int pts, .int nw, .int en, .int gl, .int bw, .int sp, .int be, .ref m_kind, .ref m_floor, .ref m_volume, .ref m_size, .ref m_faces, .ref m_when, .ref m_ahead, .ref m_order, .ref m_tried, .ref m_chosen, .ref m_forms, .ref m_warmth, .ref m_degrees, .ref m_thousandths, .ref m_longest, .long ab, .long bl])), (m_ahead, .inl (cI, 100, .inl u_ahead)), (m_longest, .inl (cI, 10, .inl u_longest))] sz (fun (r : Int32) (u : (Nat → Int32)) => True) (fun (u : (Nat → Int32)) => [(y0, .inr (4, [.int num, .int pts, .int nw, .int en, .int gl, .int bw, .int sp, .int be, .ref m_kind, .ref m_floor, .ref m_volume, .ref m_size, .ref m_faces, .ref m_when, .ref m_ahead, .ref m_order, .ref m_tried, .ref m_chosen, .ref m_forms, .ref m_warmth, .ref m_degrees, .ref m_thousandths, .ref m_longest, .long ab, .long bl])), (m_ahead, .inl (cI, 100, .inl u_ahead)), (m_longest, .inl (cI, 10, .inl u))]) := by
  refine Met.ofW (cc := cX4_bound) (maxL := 5) (ret := (some .int)) (by decide) rfl ?_
  intro p e s m args below meth c s₁ B hml hv
  obtain ⟨rfl, hsz, hP, hK, hD0, hN⟩ := hv
  have hx := B.exec
  have hb := B.bytes
  have hr := B.returns
  have hts := atoms_spec (ws := wsX4_bound) B.pre
  have hown : s.vm.findClass RX4 = some m.cls := findClass_of_methodNamed B.named
  have hlocks := B.notSynchronized
  subst hsz
  have hD := hD0.self (sz := s.heap.size)
  generalize hAe : va_A [(y0, .inr (4, [.int num, .int pts, .int nw, .int en, .int gl, .int bw, .int sp, .int be, .ref m_kind, .ref m_floor, .ref m_volume, .ref m_size, .ref m_faces, .ref m_when, .ref m_ahead, .ref m_order, .ref m_tried, .ref m_chosen, .ref m_forms, .ref m_warmth, .ref m_degrees, .ref m_thousandths, .ref m_longest, .long ab, .long bl])), (m_ahead, .inl (cI, 100, .inl u_ahead)), (m_longest, .inl (cI, 10, .inl u_longest))] s.heap.size = A at hD ⊢
  have hA : ∀ q : Nat, s.heap.size ≤ q → A q := fun q h => by rw [← hAe]; exact Or.inr h
  have hS : va_S A s.heap s.heap [] := va_S.rf
  have hl := lv_entry ([.ref y0]) (n := 5) (Nat.le_of_ble_eq_true rfl)
  rw [lg_entry_eq]
  generalize (lg_sl ([.ref y0]) ++ List.replicate (5 - (lg_sl ([.ref y0])).length) Slot.unset).toArray = ls at hl ⊢
  have hl : lv_has ls 5 [(0, .ref y0)] := hl
  refine W_gen (fun GW hIn hOut => ?_)
  refine hIn _ _ _ _ _ ?_
  have hP0 := hP
  refine lv_aload_n hx hb dX4_bound_0 rfl (lv_at hl 0 rfl) ?_
  refine va_get (D := D) (ci := 4) (v := .int num) (C := RX4) (T := TX4) (N := 25) hx hb hts iw_X4_bound_4 hown hK hP 0 rfl rfl 0 (by decide) (hts _ wd_X4_bound_1) (fun _ h9 => h9) rfl dX4_bound_1 ?_
  refine lv_if_ne (tgt := 9) hx hb dX4_bound_4 (by decide) (fun c_1 => ?_) (fun c_1 => ?_)
  · refine lv_iconst (v := 0) hx hb dX4_bound_9 (by decide) ?_
    refine lv_istore_n (lv' := [(1, .int 0), (0, .ref y0)]) hx hb dX4_bound_10 rfl hl (by decide) rfl (fun ls hl => ?_)
    have lp_11 : ∀ (n : Nat) (k : Int32) (la : Nat → Int32) (H : Heap) (locs : List Loc) (ls : Array Slot), 10 - k.toNatClampNeg < n → (0 ≤ k) → va_P D vwCl [(y0, .inr (4, [.int num, .int pts, .int nw, .int en, .int gl, .int bw, .int sp, .int be, .ref m_kind, .ref m_floor, .ref m_volume, .ref m_size, .ref m_faces, .ref m_when, .ref m_ahead, .ref m_order, .ref m_tried, .ref m_chosen, .ref m_forms, .ref m_warmth, .ref m_degrees, .ref m_thousandths, .ref m_longest, .long ab, .long bl])), (m_ahead, .inl (cI, 100, .inl u_ahead)), (m_longest, .inl (cI, 10, .inl la))] H → va_D A [(y0, .inr (4, [.int num, .int pts, .int nw, .int en, .int gl, .int bw, .int sp, .int be, .ref m_kind, .ref m_floor, .ref m_volume, .ref m_size, .ref m_faces, .ref m_when, .ref m_ahead, .ref m_order, .ref m_tried, .ref m_chosen, .ref m_forms, .ref m_warmth, .ref m_degrees, .ref m_thousandths, .ref m_longest, .long ab, .long bl])), (m_ahead, .inl (cI, 100, .inl u_ahead)), (m_longest, .inl (cI, 10, .inl la))] → va_S A s.heap H locs → lv_has ls 5 [(0, .ref y0), (1, .int k)] → GW H locs 0 0 (F0 m 11 ls []) := by
      intro n_11
      induction n_11 with
      | zero => intro k la H locs ls hn_11; exact absurd hn_11 (Nat.not_lt_zero _)
      | succ n_11 ih_11 =>
        intro k la H locs ls hn_11 h0k hP hD hS hl
        refine hIn _ _ _ _ _ ?_
        refine lv_iload_n hx hb dX4_bound_11 rfl (lv_at hl 1 rfl) ?_
        refine lv_aload_n hx hb dX4_bound_12 rfl (lv_at hl 0 rfl) ?_
        refine va_get (D := D) (ci := 4) (v := .int num) (C := RX4) (T := TX4) (N := 25) hx hb hts iw_X4_bound_4 hown hK hP 0 rfl rfl 0 (by decide) (hts _ wd_X4_bound_1) (fun _ h9 => h9) rfl dX4_bound_13 ?_
        refine lv_icmp_ge (tgt := 32) hx hb dX4_bound_16 (by decide) (fun c_2 => ?_) (fun c_2 => ?_)
        · refine lv_iconst (v := 0) hx hb dX4_bound_32 (by decide) ?_
          refine lv_istore_n (lv' := [(1, .int 0), (0, .ref y0)]) hx hb dX4_bound_33 rfl hl (by decide) rfl (fun ls hl => ?_)
          have lp_34 : ∀ (n : Nat) (k1 : Int32) (lb : Nat → Int32) (H : Heap) (locs : List Loc) (ls : Array Slot), 10 - k1.toNatClampNeg < n → (0 ≤ k1) → va_P D vwCl [(y0, .inr (4, [.int num, .int pts, .int nw, .int en, .int gl, .int bw, .int sp, .int be, .ref m_kind, .ref m_floor, .ref m_volume, .ref m_size, .ref m_faces, .ref m_when, .ref m_ahead, .ref m_order, .ref m_tried, .ref m_chosen, .ref m_forms, .ref m_warmth, .ref m_degrees, .ref m_thousandths, .ref m_longest, .long ab, .long bl])), (m_ahead, .inl (cI, 100, .inl u_ahead)), (m_longest, .inl (cI, 10, .inl lb))] H → va_D A [(y0, .inr (4, [.int num, .int pts, .int nw, .int en, .int gl, .int bw, .int sp, .int be, .ref m_kind, .ref m_floor, .ref m_volume, .ref m_size, .ref m_faces, .ref m_when, .ref m_ahead, .ref m_order, .ref m_tried, .ref m_chosen, .ref m_forms, .ref m_warmth, .ref m_degrees, .ref m_thousandths, .ref m_longest, .long ab, .long bl])), (m_ahead, .inl (cI, 100, .inl u_ahead)), (m_longest, .inl (cI, 10, .inl lb))] → va_S A s.heap H locs → lv_has ls 5 [(0, .ref y0), (1, .int k1)] → GW H locs 0 0 (F0 m 34 ls []) := by
            intro n_34
            induction n_34 with
            | zero => intro k1 lb H locs ls hn_34; exact absurd hn_34 (Nat.not_lt_zero _)
            | succ n_34 ih_34 =>
              intro k1 lb H locs ls hn_34 h0k1 hP hD hS hl
              refine hIn _ _ _ _ _ ?_
              refine lv_iload_n hx hb dX4_bound_34 rfl (lv_at hl 1 rfl) ?_
              refine lv_aload_n hx hb dX4_bound_35 rfl (lv_at hl 0 rfl) ?_
              refine va_get (D := D) (ci := 4) (v := .int num) (C := RX4) (T := TX4) (N := 25) hx hb hts iw_X4_bound_4 hown hK hP 0 rfl rfl 0 (by decide) (hts _ wd_X4_bound_1) (fun _ h9 => h9) rfl dX4_bound_36 ?_
              refine lv_icmp_ge (tgt := 132) hx hb dX4_bound_39 (by decide) (fun c_3 => ?_) (fun c_3 => ?_)
              · refine lv_iconst (v := 0) hx hb dX4_bound_132 (by decide) ?_
                refine lv_istore_n (lv' := [(1, .int 0), (0, .ref y0)]) hx hb dX4_bound_133 rfl hl (by decide) rfl (fun ls hl => ?_)
                refine lv_iconst (v := 0) hx hb dX4_bound_134 (by decide) ?_
                refine lv_istore_n (lv' := [(2, .int 0), (1, .int 0), (0, .ref y0)]) hx hb dX4_bound_135 rfl hl (by decide) rfl (fun ls hl => ?_)
                have lp_136 : ∀ (n : Nat) (k4 : Int32) (km : Int32) (H : Heap) (locs : List Loc) (ls : Array Slot), 10 - k4.toNatClampNeg < n → (0 ≤ k4) → va_P D vwCl [(y0, .inr (4, [.int num, .int pts, .int nw, .int en, .int gl, .int bw, .int sp, .int be, .ref m_kind, .ref m_floor, .ref m_volume, .ref m_size, .ref m_faces, .ref m_when, .ref m_ahead, .ref m_order, .ref m_tried, .ref m_chosen, .ref m_forms, .ref m_warmth, .ref m_degrees, .ref m_thousandths, .ref m_longest, .long ab, .long bl])), (m_ahead, .inl (cI, 100, .inl u_ahead)), (m_longest, .inl (cI, 10, .inl lb))] H → va_D A [(y0, .inr (4, [.int num, .int pts, .int nw, .int en, .int gl, .int bw, .int sp, .int be, .ref m_kind, .ref m_floor, .ref m_volume, .ref m_size, .ref m_faces, .ref m_when, .ref m_ahead, .ref m_order, .ref m_tried, .ref m_chosen, .ref m_forms, .ref m_warmth, .ref m_degrees, .ref m_thousandths, .ref m_longest, .long ab, .long bl])), (m_ahead, .inl (cI, 100, .inl u_ahead)), (m_longest, .inl (cI, 10, .inl lb))] → va_S A s.heap H locs → lv_has ls 5 [(0, .ref y0), (1, .int km), (2, .int k4)] → GW H locs 0 0 (F0 m 136 ls []) := by
                  intro n_136
                  induction n_136 with
                  | zero => intro k4 km H locs ls hn_136; exact absurd hn_136 (Nat.not_lt_zero _)
                  | succ n_136 ih_136 =>
                    intro k4 km H locs ls hn_136 h0k4 hP hD hS hl
                    refine hIn _ _ _ _ _ ?_
                    refine lv_iload_n hx hb dX4_bound_136 rfl (lv_at hl 2 rfl) ?_
                    refine lv_aload_n hx hb dX4_bound_137 rfl (lv_at hl 0 rfl) ?_
                    refine va_get (D := D) (ci := 4) (v := .int num) (C := RX4) (T := TX4) (N := 25) hx hb hts iw_X4_bound_4 hown hK hP 0 rfl rfl 0 (by decide) (hts _ wd_X4_bound_1) (fun _ h9 => h9) rfl dX4_bound_138 ?_
                    refine lv_icmp_ge (tgt := 167) hx hb dX4_bound_141 (by decide) (fun c_4 => ?_) (fun c_4 => ?_)
                    · refine lv_iload_n hx hb dX4_bound_167 rfl (lv_at hl 1 rfl) ?_
                      refine lv_iconst (v := 1) hx hb dX4_bound_168 (by decide) ?_
                      refine lv_iadd hx hb dX4_bound_169 ?_
                      refine lv_topi (fun v_5 ev_5 => ?_)
                      refine W.widen (k := 0) (n := 0) (Nat.le_of_ble_eq_true rfl) (Nat.le_of_ble_eq_true rfl) ?_
                      exact fi_i lb hx hb hr hlocks hK (hP.sub [0, 1, 2] rfl) (hD.sub [0, 1, 2] (by decide) rfl) hS trivial dX4_bound_170
                    · refine lv_aload_n hx hb dX4_bound_144 rfl (lv_at hl 0 rfl) ?_
                      refine va_get (D := D) (ci := 4) (v := .ref m_longest) (C := RX4) (T := TX4) (N := 25) hx hb hts iw_X4_bound_4 hown hK hP 0 rfl rfl 22 (by decide) (hts _ wd_X4_bound_2) (fun _ h9 => h9) rfl dX4_bound_145 ?_
                      refine lv_iload_n hx hb dX4_bound_148 rfl (lv_at hl 2 rfl) ?_
                      refine va_iald hx hb hK hP 2 0 rfl rfl (pf_X4_bound_1 num n_11 k n_34 k1 n_136 k4 hn0 hn1 c_1 hn_11 h0k c_2 hn_34 h0k1 c_3 hn_136 h0k4 c_4) dX4_bound_149 ?_
                      refine lv_topi (fun v_6 ev_6 => ?_)
                      refine lv_iload_n hx hb dX4_bound_150 rfl (lv_at hl 1 rfl) ?_
                      refine lv_icmp_le (tgt := 161) hx hb dX4_bound_151 (by decide) (fun c_7 => ?_) (fun c_7 => ?_)
                      · obtain ⟨v_8, ev_8⟩ : ∃ y : Int32, y = k4 + 1 := ⟨_, rfl⟩
                        refine lv_iinc (v := v_8) (lv' := [(2, .int v_8), (0, .ref y0), (1, .int km)]) hx hb dX4_bound_161 hl (k := 2) rfl (by rw [ev_8]; rfl) (by decide) rfl (fun ls hl => ?_)
                        refine lv_goto (tgt := 136) hx hb dX4_bound_164 (by decide) ?_
                        exact hOut _ _ _ _ _ (ih_136 v_8 km _ _ _ (pf_X4_bound_2 num n_11 k n_34 k1 lb n_136 k4 km v_6 v_8 hn0 hn1 c_1 hn_11 h0k c_2 hn_34 h0k1 c_3 hn_136 h0k4 c_4 ev_6 c_7 ev_8) (pf_X4_bound_3 num n_11 k n_34 k1 lb n_136 k4 km v_6 v_8 hn0 hn1 c_1 hn_11 h0k c_2 hn_34 h0k1 c_3 hn_136 h0k4 c_4 ev_6 c_7 ev_8) (hP.sub [0, 1, 2] rfl) (hD.sub [0, 1, 2] (by decide) rfl) hS (lv_sub hl [1, 2, 0] rfl))
                      · refine lv_aload_n hx hb dX4_bound_154 rfl (lv_at hl 0 rfl) ?_
                        refine va_get (D := D) (ci := 4) (v := .ref m_longest) (C := RX4) (T := TX4) (N := 25) hx hb hts iw_X4_bound_4 hown hK hP 0 rfl rfl 22 (by decide) (hts _ wd_X4_bound_2) (fun _ h9 => h9) rfl dX4_bound_155 ?_
                        refine lv_iload_n hx hb dX4_bound_158 rfl (lv_at hl 2 rfl) ?_
                        refine va_iald hx hb hK hP 2 0 rfl rfl (pf_X4_bound_4 num n_11 k n_34 k1 lb n_136 k4 km v_6 hn0 hn1 c_1 hn_11 h0k c_2 hn_34 h0k1 c_3 hn_136 h0k4 c_4 ev_6 c_7) dX4_bound_159 ?_
                        refine lv_topi (fun v_9 ev_9 => ?_)
                        refine lv_istore_n (lv' := [(1, .int v_9), (0, .ref y0), (2, .int k4)]) hx hb dX4_bound_160 rfl hl (by decide) rfl (fun ls hl => ?_)
                        obtain ⟨v_10, ev_10⟩ : ∃ y : Int32, y = k4 + 1 := ⟨_, rfl⟩
                        refine lv_iinc (v := v_10) (lv' := [(2, .int v_10), (1, .int v_9), (0, .ref y0)]) hx hb dX4_bound_161 hl (k := 2) rfl (by rw [ev_10]; rfl) (by decide) rfl (fun ls hl => ?_)
                        refine lv_goto (tgt := 136) hx hb dX4_bound_164 (by decide) ?_
                        exact hOut _ _ _ _ _ (ih_136 v_10 v_9 _ _ _ (pf_X4_bound_5 num n_11 k n_34 k1 lb n_136 k4 km v_6 v_9 v_10 hn0 hn1 c_1 hn_11 h0k c_2 hn_34 h0k1 c_3 hn_136 h0k4 c_4 ev_6 c_7 ev_9 ev_10) (pf_X4_bound_6 num n_11 k n_34 k1 lb n_136 k4 km v_6 v_9 v_10 hn0 hn1 c_1 hn_11 h0k c_2 hn_34 h0k1 c_3 hn_136 h0k4 c_4 ev_6 c_7 ev_9 ev_10) (hP.sub [0, 1, 2] rfl) (hD.sub [0, 1, 2] (by decide) rfl) hS (lv_sub hl [2, 1, 0] rfl))
                exact hOut _ _ _ _ _ (lp_136 (10 - (0 : Int32).toNatClampNeg + 1) 0 0 _ _ _ (Nat.lt_succ_self _) (pf_X4_bound_7 num n_11 k n_34 k1 hn0 hn1 c_1 hn_11 h0k c_2 hn_34 h0k1 c_3) (hP.sub [0, 1, 2] rfl) (hD.sub [0, 1, 2] (by decide) rfl) hS (lv_sub hl [2, 1, 0] rfl))
              · refine lv_iconst (v := 0) hx hb dX4_bound_42 (by decide) ?_
                refine lv_istore_n (lv' := [(2, .int 0), (0, .ref y0), (1, .int k1)]) hx hb dX4_bound_43 rfl hl (by decide) rfl (fun ls hl => ?_)
                have lp_44 : ∀ (n : Nat) (k2 : Int32) (lc : Nat → Int32) (H : Heap) (locs : List Loc) (ls : Array Slot), 10 - k2.toNatClampNeg < n → (0 ≤ k2) → va_P D vwCl [(y0, .inr (4, [.int num, .int pts, .int nw, .int en, .int gl, .int bw, .int sp, .int be, .ref m_kind, .ref m_floor, .ref m_volume, .ref m_size, .ref m_faces, .ref m_when, .ref m_ahead, .ref m_order, .ref m_tried, .ref m_chosen, .ref m_forms, .ref m_warmth, .ref m_degrees, .ref m_thousandths, .ref m_longest, .long ab, .long bl])), (m_ahead, .inl (cI, 100, .inl u_ahead)), (m_longest, .inl (cI, 10, .inl lc))] H → va_D A [(y0, .inr (4, [.int num, .int pts, .int nw, .int en, .int gl, .int bw, .int sp, .int be, .ref m_kind, .ref m_floor, .ref m_volume, .ref m_size, .ref m_faces, .ref m_when, .ref m_ahead, .ref m_order, .ref m_tried, .ref m_chosen, .ref m_forms, .ref m_warmth, .ref m_degrees, .ref m_thousandths, .ref m_longest, .long ab, .long bl])), (m_ahead, .inl (cI, 100, .inl u_ahead)), (m_longest, .inl (cI, 10, .inl lc))] → va_S A s.heap H locs → lv_has ls 5 [(0, .ref y0), (1, .int k1), (2, .int k2)] → GW H locs 0 0 (F0 m 44 ls []) := by
                  intro n_44
                  induction n_44 with
                  | zero => intro k2 lc H locs ls hn_44; exact absurd hn_44 (Nat.not_lt_zero _)
                  | succ n_44 ih_44 =>
                    intro k2 lc H locs ls hn_44 h0k2 hP hD hS hl
                    refine hIn _ _ _ _ _ ?_
                    refine lv_iload_n hx hb dX4_bound_44 rfl (lv_at hl 2 rfl) ?_
                    refine lv_aload_n hx hb dX4_bound_45 rfl (lv_at hl 0 rfl) ?_
                    refine va_get (D := D) (ci := 4) (v := .int num) (C := RX4) (T := TX4) (N := 25) hx hb hts iw_X4_bound_4 hown hK hP 0 rfl rfl 0 (by decide) (hts _ wd_X4_bound_1) (fun _ h9 => h9) rfl dX4_bound_46 ?_
                    refine lv_icmp_ge (tgt := 126) hx hb dX4_bound_49 (by decide) (fun c_11 => ?_) (fun c_11 => ?_)
                    · obtain ⟨v_12, ev_12⟩ : ∃ y : Int32, y = k1 + 1 := ⟨_, rfl⟩
                      refine lv_iinc (v := v_12) (lv' := [(1, .int v_12), (0, .ref y0), (2, .int k2)]) hx hb dX4_bound_126 hl (k := 1) rfl (by rw [ev_12]; rfl) (by decide) rfl (fun ls hl => ?_)
                      refine lv_goto (tgt := 34) hx hb dX4_bound_129 (by decide) ?_
                      exact hOut _ _ _ _ _ (ih_34 v_12 lc _ _ _ (pf_X4_bound_8 num n_11 k n_34 k1 n_44 k2 v_12 hn0 hn1 c_1 hn_11 h0k c_2 hn_34 h0k1 c_3 hn_44 h0k2 c_11 ev_12) (pf_X4_bound_9 num n_11 k n_34 k1 n_44 k2 v_12 hn0 hn1 c_1 hn_11 h0k c_2 hn_34 h0k1 c_3 hn_44 h0k2 c_11 ev_12) (hP.sub [0, 1, 2] rfl) (hD.sub [0, 1, 2] (by decide) rfl) hS (lv_sub hl [1, 0] rfl))
                    · refine lv_iconst (v := 0) hx hb dX4_bound_52 (by decide) ?_
                      refine lv_istore_n (lv' := [(3, .int 0), (0, .ref y0), (1, .int k1), (2, .int k2)]) hx hb dX4_bound_53 rfl hl (by decide) rfl (fun ls hl => ?_)
                      have lp_54 : ∀ (n : Nat) (k3 : Int32) (ld : Nat → Int32) (H : Heap) (locs : List Loc) (ls : Array Slot), 10 - k3.toNatClampNeg < n → (0 ≤ k3) → va_P D vwCl [(y0, .inr (4, [.int num, .int pts, .int nw, .int en, .int gl, .int bw, .int sp, .int be, .ref m_kind, .ref m_floor, .ref m_volume, .ref m_size, .ref m_faces, .ref m_when, .ref m_ahead, .ref m_order, .ref m_tried, .ref m_chosen, .ref m_forms, .ref m_warmth, .ref m_degrees, .ref m_thousandths, .ref m_longest, .long ab, .long bl])), (m_ahead, .inl (cI, 100, .inl u_ahead)), (m_longest, .inl (cI, 10, .inl ld))] H → va_D A [(y0, .inr (4, [.int num, .int pts, .int nw, .int en, .int gl, .int bw, .int sp, .int be, .ref m_kind, .ref m_floor, .ref m_volume, .ref m_size, .ref m_faces, .ref m_when, .ref m_ahead, .ref m_order, .ref m_tried, .ref m_chosen, .ref m_forms, .ref m_warmth, .ref m_degrees, .ref m_thousandths, .ref m_longest, .long ab, .long bl])), (m_ahead, .inl (cI, 100, .inl u_ahead)), (m_longest, .inl (cI, 10, .inl ld))] → va_S A s.heap H locs → lv_has ls 5 [(0, .ref y0), (1, .int k1), (2, .int k2), (3, .int k3)] → GW H locs 0 0 (F0 m 54 ls []) := by
                        intro n_54
                        induction n_54 with
                        | zero => intro k3 ld H locs ls hn_54; exact absurd hn_54 (Nat.not_lt_zero _)
                        | succ n_54 ih_54 =>
                          intro k3 ld H locs ls hn_54 h0k3 hP hD hS hl
                          refine hIn _ _ _ _ _ ?_
                          refine lv_iload_n hx hb dX4_bound_54 rfl (lv_at hl 3 rfl) ?_
                          refine lv_aload_n hx hb dX4_bound_55 rfl (lv_at hl 0 rfl) ?_
                          refine va_get (D := D) (ci := 4) (v := .int num) (C := RX4) (T := TX4) (N := 25) hx hb hts iw_X4_bound_4 hown hK hP 0 rfl rfl 0 (by decide) (hts _ wd_X4_bound_1) (fun _ h9 => h9) rfl dX4_bound_56 ?_
                          refine lv_icmp_ge (tgt := 120) hx hb dX4_bound_59 (by decide) (fun c_13 => ?_) (fun c_13 => ?_)
                          · obtain ⟨v_14, ev_14⟩ : ∃ y : Int32, y = k2 + 1 := ⟨_, rfl⟩
                            refine lv_iinc (v := v_14) (lv' := [(2, .int v_14), (0, .ref y0), (1, .int k1), (3, .int k3)]) hx hb dX4_bound_120 hl (k := 2) rfl (by rw [ev_14]; rfl) (by decide) rfl (fun ls hl => ?_)
                            refine lv_goto (tgt := 44) hx hb dX4_bound_123 (by decide) ?_
                            exact hOut _ _ _ _ _ (ih_44 v_14 ld _ _ _ (pf_X4_bound_10 num n_11 k n_34 k1 n_44 k2 n_54 k3 v_14 hn0 hn1 c_1 hn_11 h0k c_2 hn_34 h0k1 c_3 hn_44 h0k2 c_11 hn_54 h0k3 c_13 ev_14) (pf_X4_bound_11 num n_11 k n_34 k1 n_44 k2 n_54 k3 v_14 hn0 hn1 c_1 hn_11 h0k c_2 hn_34 h0k1 c_3 hn_44 h0k2 c_11 hn_54 h0k3 c_13 ev_14) (hP.sub [0, 1, 2] rfl) (hD.sub [0, 1, 2] (by decide) rfl) hS (lv_sub hl [1, 2, 0] rfl))
                          · refine lv_aload_n hx hb dX4_bound_62 rfl (lv_at hl 0 rfl) ?_
                            refine va_get (D := D) (ci := 4) (v := .ref m_ahead) (C := RX4) (T := TX4) (N := 25) hx hb hts iw_X4_bound_4 hown hK hP 0 rfl rfl 14 (by decide) (hts _ wd_X4_bound_3) (fun _ h9 => h9) rfl dX4_bound_63 ?_
                            refine lv_bipush (v := 10) hx hb dX4_bound_66 (by decide) ?_
                            refine lv_iload_n hx hb dX4_bound_68 rfl (lv_at hl 2 rfl) ?_
                            refine lv_imul hx hb dX4_bound_69 ?_
                            refine lv_topi (fun v_15 ev_15 => ?_)
                            refine lv_iload_n hx hb dX4_bound_70 rfl (lv_at hl 3 rfl) ?_
                            refine lv_iadd hx hb dX4_bound_71 ?_
                            refine lv_topi (fun v_16 ev_16 => ?_)
                            refine va_iald hx hb hK hP 1 0 rfl rfl (pf_X4_bound_12 num n_11 k n_34 k1 n_44 k2 n_54 k3 v_15 v_16 hn0 hn1 c_1 hn_11 h0k c_2 hn_34 h0k1 c_3 hn_44 h0k2 c_11 hn_54 h0k3 c_13 ev_15 ev_16) dX4_bound_72 ?_
                            refine lv_topi (fun v_17 ev_17 => ?_)
                            refine lv_istore (lv' := [(4, .int v_17), (0, .ref y0), (1, .int k1), (2, .int k2), (3, .int k3)]) hx hb dX4_bound_73 hl (by decide) rfl (fun ls hl => ?_)
                            refine lv_iload hx hb dX4_bound_75 (lv_at hl 0 rfl) ?_
                            refine lv_iconst (v := (-1)) hx hb dX4_bound_77 (by decide) ?_
                            refine lv_icmp_eq (tgt := 114) hx hb dX4_bound_78 (by decide) (fun c_18 => ?_) (fun c_18 => ?_)
                            · obtain ⟨v_19, ev_19⟩ : ∃ y : Int32, y = k3 + 1 := ⟨_, rfl⟩
                              refine lv_iinc (v := v_19) (lv' := [(3, .int v_19), (4, .int v_17), (0, .ref y0), (1, .int k1), (2, .int k2)]) hx hb dX4_bound_114 hl (k := 4) rfl (by rw [ev_19]; rfl) (by decide) rfl (fun ls hl => ?_)
                              refine lv_goto (tgt := 54) hx hb dX4_bound_117 (by decide) ?_
                              exact hOut _ _ _ _ _ (ih_54 v_19 ld _ _ _ (pf_X4_bound_13 num u_ahead n_11 k n_34 k1 n_44 k2 n_54 k3 v_15 v_16 v_17 v_19 hn0 hn1 c_1 hn_11 h0k c_2 hn_34 h0k1 c_3 hn_44 h0k2 c_11 hn_54 h0k3 c_13 ev_15 ev_16 ev_17 c_18 ev_19) (pf_X4_bound_14 num u_ahead n_11 k n_34 k1 n_44 k2 n_54 k3 v_15 v_16 v_17 v_19 hn0 hn1 c_1 hn_11 h0k c_2 hn_34 h0k1 c_3 hn_44 h0k2 c_11 hn_54 h0k3 c_13 ev_15 ev_16 ev_17 c_18 ev_19) (hP.sub [0, 1, 2] rfl) (hD.sub [0, 1, 2] (by decide) rfl) hS (lv_sub hl [2, 3, 4, 0] rfl))
                            · refine lv_aload_n hx hb dX4_bound_81 rfl (lv_at hl 1 rfl) ?_
                              refine va_get (D := D) (ci := 4) (v := .ref m_longest) (C := RX4) (T := TX4) (N := 25) hx hb hts iw_X4_bound_4 hown hK hP 0 rfl rfl 22 (by decide) (hts _ wd_X4_bound_2) (fun _ h9 => h9) rfl dX4_bound_82 ?_
                              refine lv_iload_n hx hb dX4_bound_85 rfl (lv_at hl 3 rfl) ?_
                              refine va_iald hx hb hK hP 2 0 rfl rfl (pf_X4_bound_15 num u_ahead n_11 k n_34 k1 n_44 k2 n_54 k3 v_15 v_16 v_17 hn0 hn1 c_1 hn_11 h0k c_2 hn_34 h0k1 c_3 hn_44 h0k2 c_11 hn_54 h0k3 c_13 ev_15 ev_16 ev_17 c_18) dX4_bound_86 ?_
                              refine lv_topi (fun v_20 ev_20 => ?_)
                              refine lv_iload hx hb dX4_bound_87 (lv_at hl 0 rfl) ?_
                              refine lv_iadd hx hb dX4_bound_89 ?_
                              refine lv_topi (fun v_21 ev_21 => ?_)
                              refine lv_aload_n hx hb dX4_bound_90 rfl (lv_at hl 1 rfl) ?_
                              refine va_get (D := D) (ci := 4) (v := .ref m_longest) (C := RX4) (T := TX4) (N := 25) hx hb hts iw_X4_bound_4 hown hK hP 0 rfl rfl 22 (by decide) (hts _ wd_X4_bound_2) (fun _ h9 => h9) rfl dX4_bound_91 ?_
                              refine lv_iload_n hx hb dX4_bound_94 rfl (lv_at hl 4 rfl) ?_
                              refine va_iald hx hb hK hP 2 0 rfl rfl (pf_X4_bound_16 num u_ahead n_11 k n_34 k1 n_44 k2 n_54 k3 ld v_15 v_16 v_17 v_20 v_21 hn0 hn1 c_1 hn_11 h0k c_2 hn_34 h0k1 c_3 hn_44 h0k2 c_11 hn_54 h0k3 c_13 ev_15 ev_16 ev_17 c_18 ev_20 ev_21) dX4_bound_95 ?_
                              refine lv_topi (fun v_22 ev_22 => ?_)
                              refine lv_icmp_le (tgt := 114) hx hb dX4_bound_96 (by decide) (fun c_23 => ?_) (fun c_23 => ?_)
                              · obtain ⟨v_24, ev_24⟩ : ∃ y : Int32, y = k3 + 1 := ⟨_, rfl⟩
                                refine lv_iinc (v := v_24) (lv' := [(3, .int v_24), (4, .int v_17), (0, .ref y0), (1, .int k1), (2, .int k2)]) hx hb dX4_bound_114 hl (k := 4) rfl (by rw [ev_24]; rfl) (by decide) rfl (fun ls hl => ?_)
                                refine lv_goto (tgt := 54) hx hb dX4_bound_117 (by decide) ?_
                                exact hOut _ _ _ _ _ (ih_54 v_24 ld _ _ _ (pf_X4_bound_17 num u_ahead n_11 k n_34 k1 n_44 k2 n_54 k3 ld v_15 v_16 v_17 v_20 v_21 v_22 v_24 hn0 hn1 c_1 hn_11 h0k c_2 hn_34 h0k1 c_3 hn_44 h0k2 c_11 hn_54 h0k3 c_13 ev_15 ev_16 ev_17 c_18 ev_20 ev_21 ev_22 c_23 ev_24) (pf_X4_bound_18 num u_ahead n_11 k n_34 k1 n_44 k2 n_54 k3 ld v_15 v_16 v_17 v_20 v_21 v_22 v_24 hn0 hn1 c_1 hn_11 h0k c_2 hn_34 h0k1 c_3 hn_44 h0k2 c_11 hn_54 h0k3 c_13 ev_15 ev_16 ev_17 c_18 ev_20 ev_21 ev_22 c_23 ev_24) (hP.sub [0, 1, 2] rfl) (hD.sub [0, 1, 2] (by decide) rfl) hS (lv_sub hl [2, 3, 4, 0] rfl))
                              · refine lv_aload_n hx hb dX4_bound_99 rfl (lv_at hl 1 rfl) ?_
                                refine va_get (D := D) (ci := 4) (v := .ref m_longest) (C := RX4) (T := TX4) (N := 25) hx hb hts iw_X4_bound_4 hown hK hP 0 rfl rfl 22 (by decide) (hts _ wd_X4_bound_2) (fun _ h9 => h9) rfl dX4_bound_100 ?_
                                refine lv_iload_n hx hb dX4_bound_103 rfl (lv_at hl 4 rfl) ?_
                                refine lv_aload_n hx hb dX4_bound_104 rfl (lv_at hl 1 rfl) ?_
                                refine va_get (D := D) (ci := 4) (v := .ref m_longest) (C := RX4) (T := TX4) (N := 25) hx hb hts iw_X4_bound_4 hown hK hP 0 rfl rfl 22 (by decide) (hts _ wd_X4_bound_2) (fun _ h9 => h9) rfl dX4_bound_105 ?_
                                refine lv_iload_n hx hb dX4_bound_108 rfl (lv_at hl 3 rfl) ?_
                                refine va_iald hx hb hK hP 2 0 rfl rfl (pf_X4_bound_19 num u_ahead n_11 k n_34 k1 n_44 k2 n_54 k3 ld v_15 v_16 v_17 v_20 v_21 v_22 hn0 hn1 c_1 hn_11 h0k c_2 hn_34 h0k1 c_3 hn_44 h0k2 c_11 hn_54 h0k3 c_13 ev_15 ev_16 ev_17 c_18 ev_20 ev_21 ev_22 c_23) dX4_bound_109 ?_
                                refine lv_topi (fun v_25 ev_25 => ?_)
                                refine lv_iload hx hb dX4_bound_110 (lv_at hl 0 rfl) ?_
                                refine lv_iadd hx hb dX4_bound_112 ?_
                                refine lv_topi (fun v_26 ev_26 => ?_)
                                refine va_iast hx hb hK hP hD hS 2 0 rfl rfl (pf_X4_bound_20 num u_ahead n_11 k n_34 k1 n_44 k2 n_54 k3 ld v_15 v_16 v_17 v_20 v_21 v_22 v_25 v_26 hn0 hn1 c_1 hn_11 h0k c_2 hn_34 h0k1 c_3 hn_44 h0k2 c_11 hn_54 h0k3 c_13 ev_15 ev_16 ev_17 c_18 ev_20 ev_21 ev_22 c_23 ev_25 ev_26) dX4_bound_113 (fun H locs hP hD hS => ?_)
                                have hP : va_P D vwCl [(y0, .inr (4, [.int num, .int pts, .int nw, .int en, .int gl, .int bw, .int sp, .int be, .ref m_kind, .ref m_floor, .ref m_volume, .ref m_size, .ref m_faces, .ref m_when, .ref m_ahead, .ref m_order, .ref m_tried, .ref m_chosen, .ref m_forms, .ref m_warmth, .ref m_degrees, .ref m_thousandths, .ref m_longest, .long ab, .long bl])), (m_ahead, .inl (cI, 100, .inl u_ahead)), (m_longest, .inl (cI, 10, .inl (upd ld k3.toNatClampNeg v_26)))] H := hP
                                have hD : va_D A [(y0, .inr (4, [.int num, .int pts, .int nw, .int en, .int gl, .int bw, .int sp, .int be, .ref m_kind, .ref m_floor, .ref m_volume, .ref m_size, .ref m_faces, .ref m_when, .ref m_ahead, .ref m_order, .ref m_tried, .ref m_chosen, .ref m_forms, .ref m_warmth, .ref m_degrees, .ref m_thousandths, .ref m_longest, .long ab, .long bl])), (m_ahead, .inl (cI, 100, .inl u_ahead)), (m_longest, .inl (cI, 10, .inl (upd ld k3.toNatClampNeg v_26)))] := hD
                                obtain ⟨v_27, ev_27⟩ : ∃ y : Int32, y = k3 + 1 := ⟨_, rfl⟩
                                refine lv_iinc (v := v_27) (lv' := [(3, .int v_27), (4, .int v_17), (0, .ref y0), (1, .int k1), (2, .int k2)]) hx hb dX4_bound_114 hl (k := 4) rfl (by rw [ev_27]; rfl) (by decide) rfl (fun ls hl => ?_)
                                refine lv_goto (tgt := 54) hx hb dX4_bound_117 (by decide) ?_
                                exact hOut _ _ _ _ _ (ih_54 v_27 (upd ld k3.toNatClampNeg v_26) _ _ _ (pf_X4_bound_21 num u_ahead n_11 k n_34 k1 n_44 k2 n_54 k3 ld v_15 v_16 v_17 v_20 v_21 v_22 v_25 v_26 v_27 hn0 hn1 c_1 hn_11 h0k c_2 hn_34 h0k1 c_3 hn_44 h0k2 c_11 hn_54 h0k3 c_13 ev_15 ev_16 ev_17 c_18 ev_20 ev_21 ev_22 c_23 ev_25 ev_26 ev_27) (pf_X4_bound_22 num u_ahead n_11 k n_34 k1 n_44 k2 n_54 k3 ld v_15 v_16 v_17 v_20 v_21 v_22 v_25 v_26 v_27 hn0 hn1 c_1 hn_11 h0k c_2 hn_34 h0k1 c_3 hn_44 h0k2 c_11 hn_54 h0k3 c_13 ev_15 ev_16 ev_17 c_18 ev_20 ev_21 ev_22 c_23 ev_25 ev_26 ev_27) (hP.sub [0, 1, 2] rfl) (hD.sub [0, 1, 2] (by decide) rfl) hS (lv_sub hl [2, 3, 4, 0] rfl))
                      exact hOut _ _ _ _ _ (lp_54 (10 - (0 : Int32).toNatClampNeg + 1) 0 lc _ _ _ (Nat.lt_succ_self _) (pf_X4_bound_23 num n_11 k n_34 k1 n_44 k2 hn0 hn1 c_1 hn_11 h0k c_2 hn_34 h0k1 c_3 hn_44 h0k2 c_11) (hP.sub [0, 1, 2] rfl) (hD.sub [0, 1, 2] (by decide) rfl) hS (lv_sub hl [1, 2, 3, 0] rfl))
                exact hOut _ _ _ _ _ (lp_44 (10 - (0 : Int32).toNatClampNeg + 1) 0 lb _ _ _ (Nat.lt_succ_self _) (pf_X4_bound_24 num n_11 k n_34 k1 hn0 hn1 c_1 hn_11 h0k c_2 hn_34 h0k1 c_3) (hP.sub [0, 1, 2] rfl) (hD.sub [0, 1, 2] (by decide) rfl) hS (lv_sub hl [1, 2, 0] rfl))
          exact hOut _ _ _ _ _ (lp_34 (10 - (0 : Int32).toNatClampNeg + 1) 0 la _ _ _ (Nat.lt_succ_self _) (pf_X4_bound_25 num n_11 k hn0 hn1 c_1 hn_11 h0k c_2) (hP.sub [0, 1, 2] rfl) (hD.sub [0, 1, 2] (by decide) rfl) hS (lv_sub hl [1, 0] rfl))
        · refine lv_aload_n hx hb dX4_bound_19 rfl (lv_at hl 0 rfl) ?_
          refine va_get (D := D) (ci := 4) (v := .ref m_longest) (C := RX4) (T := TX4) (N := 25) hx hb hts iw_X4_bound_4 hown hK hP 0 rfl rfl 22 (by decide) (hts _ wd_X4_bound_2) (fun _ h9 => h9) rfl dX4_bound_20 ?_
          refine lv_iload_n hx hb dX4_bound_23 rfl (lv_at hl 1 rfl) ?_
          refine lv_iconst (v := 0) hx hb dX4_bound_24 (by decide) ?_
          refine va_iast hx hb hK hP hD hS 2 0 rfl rfl (pf_X4_bound_26 num n_11 k hn0 hn1 c_1 hn_11 h0k c_2) dX4_bound_25 (fun H locs hP hD hS => ?_)
          have hP : va_P D vwCl [(y0, .inr (4, [.int num, .int pts, .int nw, .int en, .int gl, .int bw, .int sp, .int be, .ref m_kind, .ref m_floor, .ref m_volume, .ref m_size, .ref m_faces, .ref m_when, .ref m_ahead, .ref m_order, .ref m_tried, .ref m_chosen, .ref m_forms, .ref m_warmth, .ref m_degrees, .ref m_thousandths, .ref m_longest, .long ab, .long bl])), (m_ahead, .inl (cI, 100, .inl u_ahead)), (m_longest, .inl (cI, 10, .inl (upd la k.toNatClampNeg 0)))] H := hP
          have hD : va_D A [(y0, .inr (4, [.int num, .int pts, .int nw, .int en, .int gl, .int bw, .int sp, .int be, .ref m_kind, .ref m_floor, .ref m_volume, .ref m_size, .ref m_faces, .ref m_when, .ref m_ahead, .ref m_order, .ref m_tried, .ref m_chosen, .ref m_forms, .ref m_warmth, .ref m_degrees, .ref m_thousandths, .ref m_longest, .long ab, .long bl])), (m_ahead, .inl (cI, 100, .inl u_ahead)), (m_longest, .inl (cI, 10, .inl (upd la k.toNatClampNeg 0)))] := hD
          obtain ⟨v_28, ev_28⟩ : ∃ y : Int32, y = k + 1 := ⟨_, rfl⟩
          refine lv_iinc (v := v_28) (lv' := [(1, .int v_28), (0, .ref y0)]) hx hb dX4_bound_26 hl (k := 1) rfl (by rw [ev_28]; rfl) (by decide) rfl (fun ls hl => ?_)
          refine lv_goto (tgt := 11) hx hb dX4_bound_29 (by decide) ?_
          exact hOut _ _ _ _ _ (ih_11 v_28 (upd la k.toNatClampNeg 0) _ _ _ (pf_X4_bound_27 num n_11 k v_28 hn0 hn1 c_1 hn_11 h0k c_2 ev_28) (pf_X4_bound_28 num n_11 k v_28 hn0 hn1 c_1 hn_11 h0k c_2 ev_28) (hP.sub [0, 1, 2] rfl) (hD.sub [0, 1, 2] (by decide) rfl) hS (lv_sub hl [1, 0] rfl))
    exact hOut _ _ _ _ _ (lp_11 (10 - (0 : Int32).toNatClampNeg + 1) 0 u_longest _ _ _ (Nat.lt_succ_self _) (pf_X4_bound_29 num hn0 hn1 c_1) (hP.sub [0, 1, 2] rfl) (hD.sub [0, 1, 2] (by decide) rfl) hS (lv_sub hl [1, 0] rfl))
  · refine lv_iconst (v := 0) hx hb dX4_bound_7 (by decide) ?_
    refine W.widen (k := 0) (n := 0) (Nat.le_of_ble_eq_true rfl) (Nat.le_of_ble_eq_true rfl) ?_
    exact fi_i u_longest hx hb hr hlocks hK (hP.sub [0, 1, 2] rfl) (hD.sub [0, 1, 2] (by decide) rfl) hS trivial dX4_bound_8

theorem iw_X4_about_4 : ∀ w ∈ wsX40, w ∈ wsX4_about := fun w h => (List.mem_cons_of_mem _ (List.mem_append_right _ h))
theorem wd_X4_about_1 : (.fieldLink RX4 21 "PourPlanModel" "kind" "[I" : Cond) ∈ wsX4_about := List.mem_of_getElem? (i := 1) rfl
theorem wd_X4_about_2 : (.fieldLink RX4 25 "PourPlanModel" "floor" "[I" : Cond) ∈ wsX4_about := List.mem_of_getElem? (i := 2) rfl
theorem wd_X4_about_3 : (.fieldLink RX4 28 "PourPlanModel" "volume" "[I" : Cond) ∈ wsX4_about := List.mem_of_getElem? (i := 3) rfl
theorem wd_X4_about_4 : (.fieldLink RX4 31 "PourPlanModel" "size" "[I" : Cond) ∈ wsX4_about := List.mem_of_getElem? (i := 4) rfl
theorem wd_X4_about_5 : (.fieldLink RX4 34 "PourPlanModel" "faces" "[I" : Cond) ∈ wsX4_about := List.mem_of_getElem? (i := 5) rfl
theorem wd_X4_about_6 : (.fieldLink RX4 37 "PourPlanModel" "when" "[I" : Cond) ∈ wsX4_about := List.mem_of_getElem? (i := 6) rfl
theorem wd_X4_about_7 : (.fieldLink RX4 43 "PourPlanModel" "order" "[I" : Cond) ∈ wsX4_about := List.mem_of_getElem? (i := 7) rfl
set_option maxHeartbeats 1000000 in
theorem pf_X4_about_1 (num : Int32) (pts : Int32) (u_order : Nat → Int32) (u_when : Nat → Int32) (u_degrees : Nat → Int32) (a : Int32) (w : Int32) (r_1 : Int32) (hn0 : 0 ≤ num) (hn1 : num ≤ 10) (hp0 : 0 ≤ pts) (hp6 : pts ≤ 6) (hdg : okDeg u_degrees pts) (hwh : okWh u_when) (hho : okHas u_order num) (w_2 : r_1 = bPi a num) (c_4 : ¬ r_1 = 0) (c_5 : w = 0) : vp_in a 10 := by
  exact vi_in (M := 10) rfl (by grind [bPi]) (by grind [bPi])
set_option maxHeartbeats 1000000 in
theorem pf_X4_about_2 (num : Int32) (pts : Int32) (u_order : Nat → Int32) (u_when : Nat → Int32) (u_degrees : Nat → Int32) (a : Int32) (w : Int32) (r_1 : Int32) (hn0 : 0 ≤ num) (hn1 : num ≤ 10) (hp0 : 0 ≤ pts) (hp6 : pts ≤ 6) (hdg : okDeg u_degrees pts) (hwh : okWh u_when) (hho : okHas u_order num) (w_2 : r_1 = bPi a num) (c_4 : ¬ r_1 = 0) (c_5 : ¬ w = 0) (c_7 : w = 1) : vp_in a 10 := by
  exact vi_in (M := 10) rfl (by grind [bPi]) (by grind [bPi])
set_option maxHeartbeats 1000000 in
theorem pf_X4_about_3 (num : Int32) (pts : Int32) (u_order : Nat → Int32) (u_when : Nat → Int32) (u_degrees : Nat → Int32) (a : Int32) (w : Int32) (r_1 : Int32) (hn0 : 0 ≤ num) (hn1 : num ≤ 10) (hp0 : 0 ≤ pts) (hp6 : pts ≤ 6) (hdg : okDeg u_degrees pts) (hwh : okWh u_when) (hho : okHas u_order num) (w_2 : r_1 = bPi a num) (c_4 : ¬ r_1 = 0) (c_5 : ¬ w = 0) (c_7 : ¬ w = 1) (c_9 : w = 2) : vp_in a 10 := by
  exact vi_in (M := 10) rfl (by grind [bPi]) (by grind [bPi])
set_option maxHeartbeats 1000000 in
theorem pf_X4_about_4 (num : Int32) (pts : Int32) (u_order : Nat → Int32) (u_when : Nat → Int32) (u_degrees : Nat → Int32) (a : Int32) (w : Int32) (r_1 : Int32) (hn0 : 0 ≤ num) (hn1 : num ≤ 10) (hp0 : 0 ≤ pts) (hp6 : pts ≤ 6) (hdg : okDeg u_degrees pts) (hwh : okWh u_when) (hho : okHas u_order num) (w_2 : r_1 = bPi a num) (c_4 : ¬ r_1 = 0) (c_5 : ¬ w = 0) (c_7 : ¬ w = 1) (c_9 : ¬ w = 2) (c_11 : w = 3) : vp_in a 10 := by
  exact vi_in (M := 10) rfl (by grind [bPi]) (by grind [bPi])
set_option maxHeartbeats 1000000 in
theorem pf_X4_about_5 (num : Int32) (pts : Int32) (u_order : Nat → Int32) (u_when : Nat → Int32) (u_degrees : Nat → Int32) (a : Int32) (w : Int32) (r_1 : Int32) (hn0 : 0 ≤ num) (hn1 : num ≤ 10) (hp0 : 0 ≤ pts) (hp6 : pts ≤ 6) (hdg : okDeg u_degrees pts) (hwh : okWh u_when) (hho : okHas u_order num) (w_2 : r_1 = bPi a num) (c_4 : ¬ r_1 = 0) (c_5 : ¬ w = 0) (c_7 : ¬ w = 1) (c_9 : ¬ w = 2) (c_11 : ¬ w = 3) (c_13 : w = 4) : vp_in a 10 := by
  exact vi_in (M := 10) rfl (by grind [bPi]) (by grind [bPi])
set_option maxHeartbeats 1000000 in
theorem pf_X4_about_6 (num : Int32) (pts : Int32) (u_order : Nat → Int32) (u_when : Nat → Int32) (u_degrees : Nat → Int32) (a : Int32) (w : Int32) (r_1 : Int32) (hn0 : 0 ≤ num) (hn1 : num ≤ 10) (hp0 : 0 ≤ pts) (hp6 : pts ≤ 6) (hdg : okDeg u_degrees pts) (hwh : okWh u_when) (hho : okHas u_order num) (w_2 : r_1 = bPi a num) (c_4 : ¬ r_1 = 0) (c_5 : ¬ w = 0) (c_7 : ¬ w = 1) (c_9 : ¬ w = 2) (c_11 : ¬ w = 3) (c_13 : ¬ w = 4) (c_15 : w = 5) : vp_in a 10 := by
  exact vi_in (M := 10) rfl (by grind [bPi]) (by grind [bPi])
set_option maxHeartbeats 1000000 in
theorem pf_X4_about_7 (num : Int32) (pts : Int32) (u_order : Nat → Int32) (u_when : Nat → Int32) (u_degrees : Nat → Int32) (a : Int32) (w : Int32) (r_1 : Int32) (hn0 : 0 ≤ num) (hn1 : num ≤ 10) (hp0 : 0 ≤ pts) (hp6 : pts ≤ 6) (hdg : okDeg u_degrees pts) (hwh : okWh u_when) (hho : okHas u_order num) (w_2 : r_1 = bPi a num) (c_4 : ¬ r_1 = 0) (c_5 : ¬ w = 0) (c_7 : ¬ w = 1) (c_9 : ¬ w = 2) (c_11 : ¬ w = 3) (c_13 : ¬ w = 4) (c_15 : ¬ w = 5) (c_17 : w = 6) : vp_in a 10 := by
  exact vi_in (M := 10) rfl (by grind [bPi]) (by grind [bPi])
set_option maxHeartbeats 1000000 in
theorem pf_X4_about_8 (num : Int32) (pts : Int32) (u_order : Nat → Int32) (u_when : Nat → Int32) (u_degrees : Nat → Int32) (a : Int32) (w : Int32) (r_1 : Int32) (v_18 : Int32) (hn0 : 0 ≤ num) (hn1 : num ≤ 10) (hp0 : 0 ≤ pts) (hp6 : pts ≤ 6) (hdg : okDeg u_degrees pts) (hwh : okWh u_when) (hho : okHas u_order num) (w_2 : r_1 = bPi a num) (c_4 : ¬ r_1 = 0) (c_5 : ¬ w = 0) (c_7 : ¬ w = 1) (c_9 : ¬ w = 2) (c_11 : ¬ w = 3) (c_13 : ¬ w = 4) (c_15 : ¬ w = 5) (c_17 : w = 6) (ev_18 : v_18 = u_when a.toNatClampNeg) : -1 ≤ v_18 ∧ v_18 ≤ 39 := by
  have h9 := hwh a.toNatClampNeg
  grind
set_option maxHeartbeats 1000000 in
theorem pf_X4_about_9 (num : Int32) (pts : Int32) (u_order : Nat → Int32) (u_when : Nat → Int32) (u_degrees : Nat → Int32) (a : Int32) (w : Int32) (r_1 : Int32) (v_18 : Int32) (hn0 : 0 ≤ num) (hn1 : num ≤ 10) (hp0 : 0 ≤ pts) (hp6 : pts ≤ 6) (hdg : okDeg u_degrees pts) (hwh : okWh u_when) (hho : okHas u_order num) (w_2 : r_1 = bPi a num) (c_4 : ¬ r_1 = 0) (c_5 : ¬ w = 0) (c_7 : ¬ w = 1) (c_9 : ¬ w = 2) (c_11 : ¬ w = 3) (c_13 : ¬ w = 4) (c_15 : ¬ w = 5) (c_17 : w = 6) (ev_18 : v_18 = u_when a.toNatClampNeg) (fx_19 : -1 ≤ v_18 ∧ v_18 ≤ 39) (c_20 : ¬ v_18 = (-1)) : vp_in a 10 := by
  exact vi_in (M := 10) rfl (by grind [bPi]) (by grind [bPi])
set_option maxHeartbeats 1000000 in
theorem pf_X4_about_10 (num : Int32) (pts : Int32) (u_order : Nat → Int32) (u_when : Nat → Int32) (u_degrees : Nat → Int32) (a : Int32) (w : Int32) (r_1 : Int32) (v_18 : Int32) (v_21 : Int32) (hn0 : 0 ≤ num) (hn1 : num ≤ 10) (hp0 : 0 ≤ pts) (hp6 : pts ≤ 6) (hdg : okDeg u_degrees pts) (hwh : okWh u_when) (hho : okHas u_order num) (w_2 : r_1 = bPi a num) (c_4 : ¬ r_1 = 0) (c_5 : ¬ w = 0) (c_7 : ¬ w = 1) (c_9 : ¬ w = 2) (c_11 : ¬ w = 3) (c_13 : ¬ w = 4) (c_15 : ¬ w = 5) (c_17 : w = 6) (ev_18 : v_18 = u_when a.toNatClampNeg) (fx_19 : -1 ≤ v_18 ∧ v_18 ≤ 39) (c_20 : ¬ v_18 = (-1)) (ev_21 : v_21 = u_when a.toNatClampNeg) : -1 ≤ v_21 ∧ v_21 ≤ 39 := by
  have h9 := hwh a.toNatClampNeg
  grind
set_option maxHeartbeats 1000000 in
theorem pf_X4_about_11 (num : Int32) (pts : Int32) (u_order : Nat → Int32) (u_when : Nat → Int32) (u_degrees : Nat → Int32) (a : Int32) (w : Int32) (r_1 : Int32) (v_18 : Int32) (v_21 : Int32) (hn0 : 0 ≤ num) (hn1 : num ≤ 10) (hp0 : 0 ≤ pts) (hp6 : pts ≤ 6) (hdg : okDeg u_degrees pts) (hwh : okWh u_when) (hho : okHas u_order num) (w_2 : r_1 = bPi a num) (c_4 : ¬ r_1 = 0) (c_5 : ¬ w = 0) (c_7 : ¬ w = 1) (c_9 : ¬ w = 2) (c_11 : ¬ w = 3) (c_13 : ¬ w = 4) (c_15 : ¬ w = 5) (c_17 : w = 6) (ev_18 : v_18 = u_when a.toNatClampNeg) (fx_19 : -1 ≤ v_18 ∧ v_18 ≤ 39) (c_20 : ¬ v_18 = (-1)) (ev_21 : v_21 = u_when a.toNatClampNeg) (fx_22 : -1 ≤ v_21 ∧ v_21 ≤ 39) : 0 ≤ pts := by
  grind [bPi]
set_option maxHeartbeats 1000000 in
theorem pf_X4_about_12 (num : Int32) (pts : Int32) (u_order : Nat → Int32) (u_when : Nat → Int32) (u_degrees : Nat → Int32) (a : Int32) (w : Int32) (r_1 : Int32) (v_18 : Int32) (v_21 : Int32) (hn0 : 0 ≤ num) (hn1 : num ≤ 10) (hp0 : 0 ≤ pts) (hp6 : pts ≤ 6) (hdg : okDeg u_degrees pts) (hwh : okWh u_when) (hho : okHas u_order num) (w_2 : r_1 = bPi a num) (c_4 : ¬ r_1 = 0) (c_5 : ¬ w = 0) (c_7 : ¬ w = 1) (c_9 : ¬ w = 2) (c_11 : ¬ w = 3) (c_13 : ¬ w = 4) (c_15 : ¬ w = 5) (c_17 : w = 6) (ev_18 : v_18 = u_when a.toNatClampNeg) (fx_19 : -1 ≤ v_18 ∧ v_18 ≤ 39) (c_20 : ¬ v_18 = (-1)) (ev_21 : v_21 = u_when a.toNatClampNeg) (fx_22 : -1 ≤ v_21 ∧ v_21 ≤ 39) : pts ≤ 6 := by
  grind [bPi]
set_option maxHeartbeats 1000000 in
theorem pf_X4_about_13 (num : Int32) (pts : Int32) (u_order : Nat → Int32) (u_when : Nat → Int32) (u_degrees : Nat → Int32) (a : Int32) (w : Int32) (r_1 : Int32) (v_18 : Int32) (v_21 : Int32) (hn0 : 0 ≤ num) (hn1 : num ≤ 10) (hp0 : 0 ≤ pts) (hp6 : pts ≤ 6) (hdg : okDeg u_degrees pts) (hwh : okWh u_when) (hho : okHas u_order num) (w_2 : r_1 = bPi a num) (c_4 : ¬ r_1 = 0) (c_5 : ¬ w = 0) (c_7 : ¬ w = 1) (c_9 : ¬ w = 2) (c_11 : ¬ w = 3) (c_13 : ¬ w = 4) (c_15 : ¬ w = 5) (c_17 : w = 6) (ev_18 : v_18 = u_when a.toNatClampNeg) (fx_19 : -1 ≤ v_18 ∧ v_18 ≤ 39) (c_20 : ¬ v_18 = (-1)) (ev_21 : v_21 = u_when a.toNatClampNeg) (fx_22 : -1 ≤ v_21 ∧ v_21 ≤ 39) : okDeg u_degrees pts := by
  exact hdg
set_option maxHeartbeats 1000000 in
theorem pf_X4_about_14 (num : Int32) (pts : Int32) (u_order : Nat → Int32) (u_when : Nat → Int32) (u_degrees : Nat → Int32) (a : Int32) (w : Int32) (r_1 : Int32) (v_18 : Int32) (v_21 : Int32) (hn0 : 0 ≤ num) (hn1 : num ≤ 10) (hp0 : 0 ≤ pts) (hp6 : pts ≤ 6) (hdg : okDeg u_degrees pts) (hwh : okWh u_when) (hho : okHas u_order num) (w_2 : r_1 = bPi a num) (c_4 : ¬ r_1 = 0) (c_5 : ¬ w = 0) (c_7 : ¬ w = 1) (c_9 : ¬ w = 2) (c_11 : ¬ w = 3) (c_13 : ¬ w = 4) (c_15 : ¬ w = 5) (c_17 : w = 6) (ev_18 : v_18 = u_when a.toNatClampNeg) (fx_19 : -1 ≤ v_18 ∧ v_18 ≤ 39) (c_20 : ¬ v_18 = (-1)) (ev_21 : v_21 = u_when a.toNatClampNeg) (fx_22 : -1 ≤ v_21 ∧ v_21 ≤ 39) : 0 ≤ v_21 := by
  grind [bPi]
set_option maxHeartbeats 1000000 in
theorem pf_X4_about_15 (num : Int32) (pts : Int32) (u_order : Nat → Int32) (u_when : Nat → Int32) (u_degrees : Nat → Int32) (a : Int32) (w : Int32) (r_1 : Int32) (v_18 : Int32) (v_21 : Int32) (hn0 : 0 ≤ num) (hn1 : num ≤ 10) (hp0 : 0 ≤ pts) (hp6 : pts ≤ 6) (hdg : okDeg u_degrees pts) (hwh : okWh u_when) (hho : okHas u_order num) (w_2 : r_1 = bPi a num) (c_4 : ¬ r_1 = 0) (c_5 : ¬ w = 0) (c_7 : ¬ w = 1) (c_9 : ¬ w = 2) (c_11 : ¬ w = 3) (c_13 : ¬ w = 4) (c_15 : ¬ w = 5) (c_17 : w = 6) (ev_18 : v_18 = u_when a.toNatClampNeg) (fx_19 : -1 ≤ v_18 ∧ v_18 ≤ 39) (c_20 : ¬ v_18 = (-1)) (ev_21 : v_21 = u_when a.toNatClampNeg) (fx_22 : -1 ≤ v_21 ∧ v_21 ≤ 39) : v_21 ≤ 39 := by
  grind [bPi]
set_option maxHeartbeats 1000000 in
theorem pf_X4_about_16 (num : Int32) (pts : Int32) (u_order : Nat → Int32) (u_when : Nat → Int32) (u_degrees : Nat → Int32) (a : Int32) (w : Int32) (r_1 : Int32) (n_125 : Nat) (k : Int32) (hn0 : 0 ≤ num) (hn1 : num ≤ 10) (hp0 : 0 ≤ pts) (hp6 : pts ≤ 6) (hdg : okDeg u_degrees pts) (hwh : okWh u_when) (hho : okHas u_order num) (w_2 : r_1 = bPi a num) (c_4 : ¬ r_1 = 0) (c_5 : ¬ w = 0) (c_7 : ¬ w = 1) (c_9 : ¬ w = 2) (c_11 : ¬ w = 3) (c_13 : ¬ w = 4) (c_15 : ¬ w = 5) (c_17 : ¬ w = 6) (c_26 : w = 7) (hn_125 : 10 - k.toNatClampNeg < n_125 + 1) (h0k : 0 ≤ k) (hal : ∀ j : Nat, j < k.toNatClampNeg → u_order j ≠ a) : vp_in k 10 := by
  have h9 := find_lt hho (k := k) (p := a) (by grind [bPi]) (by grind [bPi]) (by grind) hal
  exact vi_in (M := 10) rfl (by grind) (by grind)
set_option maxHeartbeats 1000000 in
theorem pf_X4_about_17 (num : Int32) (pts : Int32) (u_order : Nat → Int32) (u_when : Nat → Int32) (u_degrees : Nat → Int32) (a : Int32) (w : Int32) (r_1 : Int32) (n_125 : Nat) (k : Int32) (v_27 : Int32) (v_29 : Int32) (hn0 : 0 ≤ num) (hn1 : num ≤ 10) (hp0 : 0 ≤ pts) (hp6 : pts ≤ 6) (hdg : okDeg u_degrees pts) (hwh : okWh u_when) (hho : okHas u_order num) (w_2 : r_1 = bPi a num) (c_4 : ¬ r_1 = 0) (c_5 : ¬ w = 0) (c_7 : ¬ w = 1) (c_9 : ¬ w = 2) (c_11 : ¬ w = 3) (c_13 : ¬ w = 4) (c_15 : ¬ w = 5) (c_17 : ¬ w = 6) (c_26 : w = 7) (hn_125 : 10 - k.toNatClampNeg < n_125 + 1) (h0k : 0 ≤ k) (hal : ∀ j : Nat, j < k.toNatClampNeg → u_order j ≠ a) (ev_27 : v_27 = u_order k.toNatClampNeg) (c_28 : ¬ v_27 = a) (ev_29 : v_29 = k + 1) : 10 - v_29.toNatClampNeg < n_125 := by
  have h9 := find_lt hho (k := k) (p := a) (by grind [bPi]) (by grind [bPi]) (by grind) hal
  exact ms_dec (L := 10) (k := k) (by grind) (show ¬ (10 : Int32) ≤ k by grind) (by omega) (by assumption) hn_125
set_option maxHeartbeats 1000000 in
theorem pf_X4_about_18 (num : Int32) (pts : Int32) (u_order : Nat → Int32) (u_when : Nat → Int32) (u_degrees : Nat → Int32) (a : Int32) (w : Int32) (r_1 : Int32) (n_125 : Nat) (k : Int32) (v_27 : Int32) (v_29 : Int32) (hn0 : 0 ≤ num) (hn1 : num ≤ 10) (hp0 : 0 ≤ pts) (hp6 : pts ≤ 6) (hdg : okDeg u_degrees pts) (hwh : okWh u_when) (hho : okHas u_order num) (w_2 : r_1 = bPi a num) (c_4 : ¬ r_1 = 0) (c_5 : ¬ w = 0) (c_7 : ¬ w = 1) (c_9 : ¬ w = 2) (c_11 : ¬ w = 3) (c_13 : ¬ w = 4) (c_15 : ¬ w = 5) (c_17 : ¬ w = 6) (c_26 : w = 7) (hn_125 : 10 - k.toNatClampNeg < n_125 + 1) (h0k : 0 ≤ k) (hal : ∀ j : Nat, j < k.toNatClampNeg → u_order j ≠ a) (ev_27 : v_27 = u_order k.toNatClampNeg) (c_28 : ¬ v_27 = a) (ev_29 : v_29 = k + 1) : 0 ≤ v_29 := by
  have h9 := find_lt hho (k := k) (p := a) (by grind [bPi]) (by grind [bPi]) (by grind) hal
  grind
set_option maxHeartbeats 1000000 in
theorem pf_X4_about_19 (num : Int32) (pts : Int32) (u_order : Nat → Int32) (u_when : Nat → Int32) (u_degrees : Nat → Int32) (a : Int32) (w : Int32) (r_1 : Int32) (n_125 : Nat) (k : Int32) (v_27 : Int32) (v_29 : Int32) (hn0 : 0 ≤ num) (hn1 : num ≤ 10) (hp0 : 0 ≤ pts) (hp6 : pts ≤ 6) (hdg : okDeg u_degrees pts) (hwh : okWh u_when) (hho : okHas u_order num) (w_2 : r_1 = bPi a num) (c_4 : ¬ r_1 = 0) (c_5 : ¬ w = 0) (c_7 : ¬ w = 1) (c_9 : ¬ w = 2) (c_11 : ¬ w = 3) (c_13 : ¬ w = 4) (c_15 : ¬ w = 5) (c_17 : ¬ w = 6) (c_26 : w = 7) (hn_125 : 10 - k.toNatClampNeg < n_125 + 1) (h0k : 0 ≤ k) (hal : ∀ j : Nat, j < k.toNatClampNeg → u_order j ≠ a) (ev_27 : v_27 = u_order k.toNatClampNeg) (c_28 : ¬ v_27 = a) (ev_29 : v_29 = k + 1) : ∀ j : Nat, j < v_29.toNatClampNeg → u_order j ≠ a := by
  have h9 := find_lt hho (k := k) (p := a) (by grind [bPi]) (by grind [bPi]) (by grind) hal
  exact find_s (k := k) (by grind) (by grind) (by assumption) hal (by grind)
set_option maxHeartbeats 1000000 in
theorem pf_X4_about_20 (num : Int32) (pts : Int32) (u_order : Nat → Int32) (u_when : Nat → Int32) (u_degrees : Nat → Int32) (a : Int32) (w : Int32) (r_1 : Int32) (hn0 : 0 ≤ num) (hn1 : num ≤ 10) (hp0 : 0 ≤ pts) (hp6 : pts ≤ 6) (hdg : okDeg u_degrees pts) (hwh : okWh u_when) (hho : okHas u_order num) (w_2 : r_1 = bPi a num) (c_4 : ¬ r_1 = 0) (c_5 : ¬ w = 0) (c_7 : ¬ w = 1) (c_9 : ¬ w = 2) (c_11 : ¬ w = 3) (c_13 : ¬ w = 4) (c_15 : ¬ w = 5) (c_17 : ¬ w = 6) (c_26 : w = 7) : 0 ≤ (0 : Int32) := by
  grind [bPi]
set_option maxHeartbeats 1000000 in
theorem pf_X4_about_21 (num : Int32) (pts : Int32) (u_order : Nat → Int32) (u_when : Nat → Int32) (u_degrees : Nat → Int32) (a : Int32) (w : Int32) (r_1 : Int32) (hn0 : 0 ≤ num) (hn1 : num ≤ 10) (hp0 : 0 ≤ pts) (hp6 : pts ≤ 6) (hdg : okDeg u_degrees pts) (hwh : okWh u_when) (hho : okHas u_order num) (w_2 : r_1 = bPi a num) (c_4 : ¬ r_1 = 0) (c_5 : ¬ w = 0) (c_7 : ¬ w = 1) (c_9 : ¬ w = 2) (c_11 : ¬ w = 3) (c_13 : ¬ w = 4) (c_15 : ¬ w = 5) (c_17 : ¬ w = 6) (c_26 : w = 7) : ∀ j : Nat, j < (0 : Int32).toNatClampNeg → u_order j ≠ a := by
  intro j hj
  exact absurd hj (by simp)
set_option maxHeartbeats 1000000 in
theorem pf_X4_about_22 (num : Int32) (pts : Int32) (u_order : Nat → Int32) (u_when : Nat → Int32) (u_degrees : Nat → Int32) (a : Int32) (w : Int32) (r_1 : Int32) (hn0 : 0 ≤ num) (hn1 : num ≤ 10) (hp0 : 0 ≤ pts) (hp6 : pts ≤ 6) (hdg : okDeg u_degrees pts) (hwh : okWh u_when) (hho : okHas u_order num) (w_2 : r_1 = bPi a num) (c_4 : ¬ r_1 = 0) (c_5 : ¬ w = 0) (c_7 : ¬ w = 1) (c_9 : ¬ w = 2) (c_11 : ¬ w = 3) (c_13 : ¬ w = 4) (c_15 : ¬ w = 5) (c_17 : ¬ w = 6) (c_26 : ¬ w = 7) : (w).toInt < 0 ∨ 7 < (w).toInt := by
  exact tb_out (M := 7) rfl (by grind)
set_option maxHeartbeats 4000000 in
set_option maxRecDepth 100000 in
theorem c_X4_about (l : Launch) (D : va_G) (cI cQ : ClassId) (sz : Nat) (y0 : Nat) (m_kind : Nat) (m_floor : Nat) (m_volume : Nat) (m_size : Nat) (m_faces : Nat) (m_order : Nat) (m_when : Nat) (m_warmth : Nat) (m_degrees : Nat) (m_thousandths : Nat) (m_ahead : Nat) (m_tried : Nat) (m_chosen : Nat) (m_forms : Nat) (m_longest : Nat) (num : Int32) (pts : Int32) (nw : Int32) (en : Int32) (gl : Int32) (bw : Int32) (sp : Int32) (be : Int32) (ab : Int64) (bl : Int64) (u_kind : Nat → Int32) (u_floor : Nat → Int32) (u_volume : Nat → Int32) (u_size : Nat → Int32) (u_faces : Nat → Int32) (u_order : Nat → Int32) (u_when : Nat → Int32) (u_warmth : Nat → Int32) (u_degrees : Nat → Int32) (u_thousandths : Nat → Int32) (a : Int32) (w : Int32) (hn0 : 0 ≤ num) (hn1 : num ≤ 10) (hp0 : 0 ≤ pts) (hp6 : pts ≤ 6) (hdg : okDeg u_degrees pts) (hwh : okWh u_when) (hho : okHas u_order num) : CtI l yX4_about wsX4_about 3 70 0 0 [.ref y0, .int a, .int w] D [(cI, .int), (cQ, .array .int)] [(y0, .inr (4, [.int num, .int pts, .int nw, .int en, .int gl, .int bw, .int sp, .int be, .ref m_kind, .ref m_floor, .ref m_volume, .ref m_size, .ref m_faces, .ref m_when, .ref m_ahead, .ref m_order, .ref m_tried, .ref m_chosen, .ref m_forms, .ref m_warmth, .ref m_degrees, .ref m_thousandths, .ref m_longest, .long ab, .long bl])), (m_kind, .inl (cI, 10, .inl u_kind)), (m_floor, .inl (cI, 10, .inl u_floor)), (m_volume, .inl (cI, 10, .inl u_volume)), (m_size, .inl (cI, 10, .inl u_size)), (m_faces, .inl (cI, 10, .inl u_faces)), (m_order, .inl (cI, 10, .inl u_order)), (m_when, .inl (cI, 10, .inl u_when)), (m_warmth, .inl (cI, 40, .inl u_warmth)), (m_degrees, .inl (cI, 6, .inl u_degrees)), (m_thousandths, .inl (cI, 6, .inl u_thousandths))] sz (fun (r : Int32) (u : Unit) => True) (fun (u : Unit) => [(y0, .inr (4, [.int num, .int pts, .int nw, .int en, .int gl, .int bw, .int sp, .int be, .ref m_kind, .ref m_floor, .ref m_volume, .ref m_size, .ref m_faces, .ref m_when, .ref m_ahead, .ref m_order, .ref m_tried, .ref m_chosen, .ref m_forms, .ref m_warmth, .ref m_degrees, .ref m_thousandths, .ref m_longest, .long ab, .long bl])), (m_kind, .inl (cI, 10, .inl u_kind)), (m_floor, .inl (cI, 10, .inl u_floor)), (m_volume, .inl (cI, 10, .inl u_volume)), (m_size, .inl (cI, 10, .inl u_size)), (m_faces, .inl (cI, 10, .inl u_faces)), (m_order, .inl (cI, 10, .inl u_order)), (m_when, .inl (cI, 10, .inl u_when)), (m_warmth, .inl (cI, 40, .inl u_warmth)), (m_degrees, .inl (cI, 6, .inl u_degrees)), (m_thousandths, .inl (cI, 6, .inl u_thousandths))]) := by
  refine Met.ofW (cc := cX4_about) (maxL := 4) (ret := (some .int)) (by decide) rfl ?_
  intro p e s m args below meth c s₁ B hml hv
  obtain ⟨rfl, hsz, hP, hK, hD0, hN⟩ := hv
  have hx := B.exec
  have hb := B.bytes
  have hr := B.returns
  have hts := atoms_spec (ws := wsX4_about) B.pre
  have hown : s.vm.findClass RX4 = some m.cls := findClass_of_methodNamed B.named
  have hlocks := B.notSynchronized
  subst hsz
  have hD := hD0.self (sz := s.heap.size)
  generalize hAe : va_A [(y0, .inr (4, [.int num, .int pts, .int nw, .int en, .int gl, .int bw, .int sp, .int be, .ref m_kind, .ref m_floor, .ref m_volume, .ref m_size, .ref m_faces, .ref m_when, .ref m_ahead, .ref m_order, .ref m_tried, .ref m_chosen, .ref m_forms, .ref m_warmth, .ref m_degrees, .ref m_thousandths, .ref m_longest, .long ab, .long bl])), (m_kind, .inl (cI, 10, .inl u_kind)), (m_floor, .inl (cI, 10, .inl u_floor)), (m_volume, .inl (cI, 10, .inl u_volume)), (m_size, .inl (cI, 10, .inl u_size)), (m_faces, .inl (cI, 10, .inl u_faces)), (m_order, .inl (cI, 10, .inl u_order)), (m_when, .inl (cI, 10, .inl u_when)), (m_warmth, .inl (cI, 40, .inl u_warmth)), (m_degrees, .inl (cI, 6, .inl u_degrees)), (m_thousandths, .inl (cI, 6, .inl u_thousandths))] s.heap.size = A at hD ⊢
  have hA : ∀ q : Nat, s.heap.size ≤ q → A q := fun q h => by rw [← hAe]; exact Or.inr h
  have hS : va_S A s.heap s.heap [] := va_S.rf
  have hl := lv_entry ([.ref y0, .int a, .int w]) (n := 4) (Nat.le_of_ble_eq_true rfl)
  rw [lg_entry_eq]
  generalize (lg_sl ([.ref y0, .int a, .int w]) ++ List.replicate (4 - (lg_sl ([.ref y0, .int a, .int w])).length) Slot.unset).toArray = ls at hl ⊢
  have hl : lv_has ls 4 [(0, .ref y0), (1, .int a), (2, .int w)] := hl
  refine W_gen (fun GW hIn hOut => ?_)
  refine hIn _ _ _ _ _ ?_
  have hP0 := hP
  refine lv_aload_n hx hb dX4_about_0 rfl (lv_at hl 0 rfl) ?_
  refine lv_iload_n hx hb dX4_about_1 rfl (lv_at hl 1 rfl) ?_
  refine cc_i (wc := [(y0, .inr (4, [.int num, .int pts, .int nw, .int en, .int gl, .int bw, .int sp, .int be, .ref m_kind, .ref m_floor, .ref m_volume, .ref m_size, .ref m_faces, .ref m_when, .ref m_ahead, .ref m_order, .ref m_tried, .ref m_chosen, .ref m_forms, .ref m_warmth, .ref m_degrees, .ref m_thousandths, .ref m_longest, .long ab, .long bl]))]) (wr := [(m_kind, .inl (cI, 10, .inl u_kind)), (m_floor, .inl (cI, 10, .inl u_floor)), (m_volume, .inl (cI, 10, .inl u_volume)), (m_size, .inl (cI, 10, .inl u_size)), (m_faces, .inl (cI, 10, .inl u_faces)), (m_order, .inl (cI, 10, .inl u_order)), (m_when, .inl (cI, 10, .inl u_when)), (m_warmth, .inl (cI, 40, .inl u_warmth)), (m_degrees, .inl (cI, 6, .inl u_degrees)), (m_thousandths, .inl (cI, 6, .inl u_thousandths))]) (va_runV (As := [.int a]) (rest := []) ⟨hx, hb, hml, hown, hts⟩ (c_X4_isPiece l D cI cQ s.heap.size y0 m_kind m_floor m_volume m_size m_faces m_when m_ahead m_order m_tried m_chosen m_forms m_warmth m_degrees m_thousandths m_longest num pts nw en gl bw sp be ab bl a ) (cwV 1 hts gX4_about_X4_isPiece rfl rfl rfl (by decide +kernel) ⟨Nat.le_of_ble_eq_true rfl, Nat.le_of_ble_eq_true rfl⟩) (preV (wc := [(y0, .inr (4, [.int num, .int pts, .int nw, .int en, .int gl, .int bw, .int sp, .int be, .ref m_kind, .ref m_floor, .ref m_volume, .ref m_size, .ref m_faces, .ref m_when, .ref m_ahead, .ref m_order, .ref m_tried, .ref m_chosen, .ref m_forms, .ref m_warmth, .ref m_degrees, .ref m_thousandths, .ref m_longest, .long ab, .long bl]))]) (ci := 4) (q0 := 0) hK hP hD hN [0] rfl (by decide) rfl rfl) rfl rfl hl.1 rfl (lv_room (Nat.le_of_ble_eq_true rfl)) dX4_about_2 ⟨Nat.le_of_ble_eq_true rfl, Nat.le_of_ble_eq_true rfl⟩) hP hD hS hA [0] [1, 2, 3, 4, 5, 6, 7, 8, 9, 10] rfl rfl (by decide) (by decide) (fun r_1 u H locs w_2 hP hD hS => ?_)
  have hP : va_P D vwCl [(m_kind, .inl (cI, 10, .inl u_kind)), (m_floor, .inl (cI, 10, .inl u_floor)), (m_volume, .inl (cI, 10, .inl u_volume)), (m_size, .inl (cI, 10, .inl u_size)), (m_faces, .inl (cI, 10, .inl u_faces)), (m_order, .inl (cI, 10, .inl u_order)), (m_when, .inl (cI, 10, .inl u_when)), (m_warmth, .inl (cI, 40, .inl u_warmth)), (m_degrees, .inl (cI, 6, .inl u_degrees)), (m_thousandths, .inl (cI, 6, .inl u_thousandths)), (y0, .inr (4, [.int num, .int pts, .int nw, .int en, .int gl, .int bw, .int sp, .int be, .ref m_kind, .ref m_floor, .ref m_volume, .ref m_size, .ref m_faces, .ref m_when, .ref m_ahead, .ref m_order, .ref m_tried, .ref m_chosen, .ref m_forms, .ref m_warmth, .ref m_degrees, .ref m_thousandths, .ref m_longest, .long ab, .long bl]))] H := hP
  have hD : va_D A [(m_kind, .inl (cI, 10, .inl u_kind)), (m_floor, .inl (cI, 10, .inl u_floor)), (m_volume, .inl (cI, 10, .inl u_volume)), (m_size, .inl (cI, 10, .inl u_size)), (m_faces, .inl (cI, 10, .inl u_faces)), (m_order, .inl (cI, 10, .inl u_order)), (m_when, .inl (cI, 10, .inl u_when)), (m_warmth, .inl (cI, 40, .inl u_warmth)), (m_degrees, .inl (cI, 6, .inl u_degrees)), (m_thousandths, .inl (cI, 6, .inl u_thousandths)), (y0, .inr (4, [.int num, .int pts, .int nw, .int en, .int gl, .int bw, .int sp, .int be, .ref m_kind, .ref m_floor, .ref m_volume, .ref m_size, .ref m_faces, .ref m_when, .ref m_ahead, .ref m_order, .ref m_tried, .ref m_chosen, .ref m_forms, .ref m_warmth, .ref m_degrees, .ref m_thousandths, .ref m_longest, .long ab, .long bl]))] := hD
  have w_2 : r_1 = bPi a num := w_2
  refine lv_if_ne (tgt := 10) hx hb dX4_about_5 (by decide) (fun c_4 => ?_) (fun c_4 => ?_)
  · refine lv_iload_n hx hb dX4_about_10 rfl (lv_at hl 2 rfl) ?_
    by_cases c_5 : w = 0
    · refine lv_tableIn (off := 45) (tgt := 56) hx hb dX4_about_11 (by rw [c_5]; decide) (by rw [c_5]; decide) (by rw [c_5]; rfl) (by decide) ?_
      refine lv_aload_n hx hb dX4_about_56 rfl (lv_at hl 0 rfl) ?_
      refine va_get (D := D) (ci := 4) (v := .ref m_kind) (C := RX4) (T := TX4) (N := 25) hx hb hts iw_X4_about_4 hown hK hP 10 rfl rfl 8 (by decide) (hts _ wd_X4_about_1) (fun _ h9 => h9) rfl dX4_about_57 ?_
      refine lv_iload_n hx hb dX4_about_60 rfl (lv_at hl 1 rfl) ?_
      refine va_iald hx hb hK hP 0 0 rfl rfl (pf_X4_about_1 num pts u_order u_when u_degrees a w r_1 hn0 hn1 hp0 hp6 hdg hwh hho w_2 c_4 c_5) dX4_about_61 ?_
      refine lv_topi (fun v_6 ev_6 => ?_)
      refine W.widen (k := 0) (n := 0) (Nat.le_of_ble_eq_true rfl) (Nat.le_of_ble_eq_true rfl) ?_
      exact fi_i () hx hb hr hlocks hK (hP.sub [10, 0, 1, 2, 3, 4, 5, 6, 7, 8, 9] rfl) (hD.sub [10, 0, 1, 2, 3, 4, 5, 6, 7, 8, 9] (by decide) rfl) hS trivial dX4_about_62
    by_cases c_7 : w = 1
    · refine lv_tableIn (off := 52) (tgt := 63) hx hb dX4_about_11 (by rw [c_7]; decide) (by rw [c_7]; decide) (by rw [c_7]; rfl) (by decide) ?_
      refine lv_aload_n hx hb dX4_about_63 rfl (lv_at hl 0 rfl) ?_
      refine va_get (D := D) (ci := 4) (v := .ref m_floor) (C := RX4) (T := TX4) (N := 25) hx hb hts iw_X4_about_4 hown hK hP 10 rfl rfl 9 (by decide) (hts _ wd_X4_about_2) (fun _ h9 => h9) rfl dX4_about_64 ?_
      refine lv_iload_n hx hb dX4_about_67 rfl (lv_at hl 1 rfl) ?_
      refine va_iald hx hb hK hP 1 0 rfl rfl (pf_X4_about_2 num pts u_order u_when u_degrees a w r_1 hn0 hn1 hp0 hp6 hdg hwh hho w_2 c_4 c_5 c_7) dX4_about_68 ?_
      refine lv_topi (fun v_8 ev_8 => ?_)
      refine W.widen (k := 0) (n := 0) (Nat.le_of_ble_eq_true rfl) (Nat.le_of_ble_eq_true rfl) ?_
      exact fi_i () hx hb hr hlocks hK (hP.sub [10, 0, 1, 2, 3, 4, 5, 6, 7, 8, 9] rfl) (hD.sub [10, 0, 1, 2, 3, 4, 5, 6, 7, 8, 9] (by decide) rfl) hS trivial dX4_about_69
    by_cases c_9 : w = 2
    · refine lv_tableIn (off := 59) (tgt := 70) hx hb dX4_about_11 (by rw [c_9]; decide) (by rw [c_9]; decide) (by rw [c_9]; rfl) (by decide) ?_
      refine lv_aload_n hx hb dX4_about_70 rfl (lv_at hl 0 rfl) ?_
      refine va_get (D := D) (ci := 4) (v := .ref m_volume) (C := RX4) (T := TX4) (N := 25) hx hb hts iw_X4_about_4 hown hK hP 10 rfl rfl 10 (by decide) (hts _ wd_X4_about_3) (fun _ h9 => h9) rfl dX4_about_71 ?_
      refine lv_iload_n hx hb dX4_about_74 rfl (lv_at hl 1 rfl) ?_
      refine va_iald hx hb hK hP 2 0 rfl rfl (pf_X4_about_3 num pts u_order u_when u_degrees a w r_1 hn0 hn1 hp0 hp6 hdg hwh hho w_2 c_4 c_5 c_7 c_9) dX4_about_75 ?_
      refine lv_topi (fun v_10 ev_10 => ?_)
      refine W.widen (k := 0) (n := 0) (Nat.le_of_ble_eq_true rfl) (Nat.le_of_ble_eq_true rfl) ?_
      exact fi_i () hx hb hr hlocks hK (hP.sub [10, 0, 1, 2, 3, 4, 5, 6, 7, 8, 9] rfl) (hD.sub [10, 0, 1, 2, 3, 4, 5, 6, 7, 8, 9] (by decide) rfl) hS trivial dX4_about_76
    by_cases c_11 : w = 3
    · refine lv_tableIn (off := 66) (tgt := 77) hx hb dX4_about_11 (by rw [c_11]; decide) (by rw [c_11]; decide) (by rw [c_11]; rfl) (by decide) ?_
      refine lv_aload_n hx hb dX4_about_77 rfl (lv_at hl 0 rfl) ?_
      refine va_get (D := D) (ci := 4) (v := .ref m_size) (C := RX4) (T := TX4) (N := 25) hx hb hts iw_X4_about_4 hown hK hP 10 rfl rfl 11 (by decide) (hts _ wd_X4_about_4) (fun _ h9 => h9) rfl dX4_about_78 ?_
      refine lv_iload_n hx hb dX4_about_81 rfl (lv_at hl 1 rfl) ?_
      refine va_iald hx hb hK hP 3 0 rfl rfl (pf_X4_about_4 num pts u_order u_when u_degrees a w r_1 hn0 hn1 hp0 hp6 hdg hwh hho w_2 c_4 c_5 c_7 c_9 c_11) dX4_about_82 ?_
      refine lv_topi (fun v_12 ev_12 => ?_)
      refine W.widen (k := 0) (n := 0) (Nat.le_of_ble_eq_true rfl) (Nat.le_of_ble_eq_true rfl) ?_
      exact fi_i () hx hb hr hlocks hK (hP.sub [10, 0, 1, 2, 3, 4, 5, 6, 7, 8, 9] rfl) (hD.sub [10, 0, 1, 2, 3, 4, 5, 6, 7, 8, 9] (by decide) rfl) hS trivial dX4_about_83
    by_cases c_13 : w = 4
    · refine lv_tableIn (off := 73) (tgt := 84) hx hb dX4_about_11 (by rw [c_13]; decide) (by rw [c_13]; decide) (by rw [c_13]; rfl) (by decide) ?_
      refine lv_aload_n hx hb dX4_about_84 rfl (lv_at hl 0 rfl) ?_
      refine va_get (D := D) (ci := 4) (v := .ref m_faces) (C := RX4) (T := TX4) (N := 25) hx hb hts iw_X4_about_4 hown hK hP 10 rfl rfl 12 (by decide) (hts _ wd_X4_about_5) (fun _ h9 => h9) rfl dX4_about_85 ?_
      refine lv_iload_n hx hb dX4_about_88 rfl (lv_at hl 1 rfl) ?_
      refine va_iald hx hb hK hP 4 0 rfl rfl (pf_X4_about_5 num pts u_order u_when u_degrees a w r_1 hn0 hn1 hp0 hp6 hdg hwh hho w_2 c_4 c_5 c_7 c_9 c_11 c_13) dX4_about_89 ?_
      refine lv_topi (fun v_14 ev_14 => ?_)
      refine W.widen (k := 0) (n := 0) (Nat.le_of_ble_eq_true rfl) (Nat.le_of_ble_eq_true rfl) ?_
      exact fi_i () hx hb hr hlocks hK (hP.sub [10, 0, 1, 2, 3, 4, 5, 6, 7, 8, 9] rfl) (hD.sub [10, 0, 1, 2, 3, 4, 5, 6, 7, 8, 9] (by decide) rfl) hS trivial dX4_about_90
    by_cases c_15 : w = 5
    · refine lv_tableIn (off := 80) (tgt := 91) hx hb dX4_about_11 (by rw [c_15]; decide) (by rw [c_15]; decide) (by rw [c_15]; rfl) (by decide) ?_
      refine lv_aload_n hx hb dX4_about_91 rfl (lv_at hl 0 rfl) ?_
      refine va_get (D := D) (ci := 4) (v := .ref m_when) (C := RX4) (T := TX4) (N := 25) hx hb hts iw_X4_about_4 hown hK hP 10 rfl rfl 13 (by decide) (hts _ wd_X4_about_6) (fun _ h9 => h9) rfl dX4_about_92 ?_
      refine lv_iload_n hx hb dX4_about_95 rfl (lv_at hl 1 rfl) ?_
      refine va_iald hx hb hK hP 6 0 rfl rfl (pf_X4_about_6 num pts u_order u_when u_degrees a w r_1 hn0 hn1 hp0 hp6 hdg hwh hho w_2 c_4 c_5 c_7 c_9 c_11 c_13 c_15) dX4_about_96 ?_
      refine lv_topi (fun v_16 ev_16 => ?_)
      refine W.widen (k := 0) (n := 0) (Nat.le_of_ble_eq_true rfl) (Nat.le_of_ble_eq_true rfl) ?_
      exact fi_i () hx hb hr hlocks hK (hP.sub [10, 0, 1, 2, 3, 4, 5, 6, 7, 8, 9] rfl) (hD.sub [10, 0, 1, 2, 3, 4, 5, 6, 7, 8, 9] (by decide) rfl) hS trivial dX4_about_97
    by_cases c_17 : w = 6
    · refine lv_tableIn (off := 87) (tgt := 98) hx hb dX4_about_11 (by rw [c_17]; decide) (by rw [c_17]; decide) (by rw [c_17]; rfl) (by decide) ?_
      refine lv_aload_n hx hb dX4_about_98 rfl (lv_at hl 0 rfl) ?_
      refine va_get (D := D) (ci := 4) (v := .ref m_when) (C := RX4) (T := TX4) (N := 25) hx hb hts iw_X4_about_4 hown hK hP 10 rfl rfl 13 (by decide) (hts _ wd_X4_about_6) (fun _ h9 => h9) rfl dX4_about_99 ?_
      refine lv_iload_n hx hb dX4_about_102 rfl (lv_at hl 1 rfl) ?_
      refine va_iald hx hb hK hP 6 0 rfl rfl (pf_X4_about_7 num pts u_order u_when u_degrees a w r_1 hn0 hn1 hp0 hp6 hdg hwh hho w_2 c_4 c_5 c_7 c_9 c_11 c_13 c_15 c_17) dX4_about_103 ?_
      refine lv_topi (fun v_18 ev_18 => ?_)
      have fx_19 : -1 ≤ v_18 ∧ v_18 ≤ 39 := (pf_X4_about_8 num pts u_order u_when u_degrees a w r_1 v_18 hn0 hn1 hp0 hp6 hdg hwh hho w_2 c_4 c_5 c_7 c_9 c_11 c_13 c_15 c_17 ev_18)
      refine lv_iconst (v := (-1)) hx hb dX4_about_104 (by decide) ?_
      refine lv_icmp_ne (tgt := 112) hx hb dX4_about_105 (by decide) (fun c_20 => ?_) (fun c_20 => ?_)
      · refine lv_aload_n hx hb dX4_about_112 rfl (lv_at hl 0 rfl) ?_
        refine lv_aload_n hx hb dX4_about_113 rfl (lv_at hl 0 rfl) ?_
        refine va_get (D := D) (ci := 4) (v := .ref m_when) (C := RX4) (T := TX4) (N := 25) hx hb hts iw_X4_about_4 hown hK hP 10 rfl rfl 13 (by decide) (hts _ wd_X4_about_6) (fun _ h9 => h9) rfl dX4_about_114 ?_
        refine lv_iload_n hx hb dX4_about_117 rfl (lv_at hl 1 rfl) ?_
        refine va_iald hx hb hK hP 6 0 rfl rfl (pf_X4_about_9 num pts u_order u_when u_degrees a w r_1 v_18 hn0 hn1 hp0 hp6 hdg hwh hho w_2 c_4 c_5 c_7 c_9 c_11 c_13 c_15 c_17 ev_18 fx_19 c_20) dX4_about_118 ?_
        refine lv_topi (fun v_21 ev_21 => ?_)
        have fx_22 : -1 ≤ v_21 ∧ v_21 ≤ 39 := (pf_X4_about_10 num pts u_order u_when u_degrees a w r_1 v_18 v_21 hn0 hn1 hp0 hp6 hdg hwh hho w_2 c_4 c_5 c_7 c_9 c_11 c_13 c_15 c_17 ev_18 fx_19 c_20 ev_21)
        refine cc_i (wc := [(y0, .inr (4, [.int num, .int pts, .int nw, .int en, .int gl, .int bw, .int sp, .int be, .ref m_kind, .ref m_floor, .ref m_volume, .ref m_size, .ref m_faces, .ref m_when, .ref m_ahead, .ref m_order, .ref m_tried, .ref m_chosen, .ref m_forms, .ref m_warmth, .ref m_degrees, .ref m_thousandths, .ref m_longest, .long ab, .long bl])), (m_warmth, .inl (cI, 40, .inl u_warmth)), (m_degrees, .inl (cI, 6, .inl u_degrees)), (m_thousandths, .inl (cI, 6, .inl u_thousandths))]) (wr := [(m_kind, .inl (cI, 10, .inl u_kind)), (m_floor, .inl (cI, 10, .inl u_floor)), (m_volume, .inl (cI, 10, .inl u_volume)), (m_size, .inl (cI, 10, .inl u_size)), (m_faces, .inl (cI, 10, .inl u_faces)), (m_order, .inl (cI, 10, .inl u_order)), (m_when, .inl (cI, 10, .inl u_when))]) (va_runV (As := [.int v_21]) (rest := []) ⟨hx, hb, hml, hown, hts⟩ (c_X4_stripped l D cI cQ H.size y0 m_warmth m_degrees m_thousandths m_kind m_floor m_volume m_size m_faces m_when m_ahead m_order m_tried m_chosen m_forms m_longest num pts nw en gl bw sp be ab bl u_warmth u_degrees u_thousandths v_21 (pf_X4_about_11 num pts u_order u_when u_degrees a w r_1 v_18 v_21 hn0 hn1 hp0 hp6 hdg hwh hho w_2 c_4 c_5 c_7 c_9 c_11 c_13 c_15 c_17 ev_18 fx_19 c_20 ev_21 fx_22) (pf_X4_about_12 num pts u_order u_when u_degrees a w r_1 v_18 v_21 hn0 hn1 hp0 hp6 hdg hwh hho w_2 c_4 c_5 c_7 c_9 c_11 c_13 c_15 c_17 ev_18 fx_19 c_20 ev_21 fx_22) (pf_X4_about_13 num pts u_order u_when u_degrees a w r_1 v_18 v_21 hn0 hn1 hp0 hp6 hdg hwh hho w_2 c_4 c_5 c_7 c_9 c_11 c_13 c_15 c_17 ev_18 fx_19 c_20 ev_21 fx_22) (pf_X4_about_14 num pts u_order u_when u_degrees a w r_1 v_18 v_21 hn0 hn1 hp0 hp6 hdg hwh hho w_2 c_4 c_5 c_7 c_9 c_11 c_13 c_15 c_17 ev_18 fx_19 c_20 ev_21 fx_22) (pf_X4_about_15 num pts u_order u_when u_degrees a w r_1 v_18 v_21 hn0 hn1 hp0 hp6 hdg hwh hho w_2 c_4 c_5 c_7 c_9 c_11 c_13 c_15 c_17 ev_18 fx_19 c_20 ev_21 fx_22)) (cwV 1 hts gX4_about_X4_stripped rfl rfl rfl (by decide +kernel) ⟨Nat.le_of_ble_eq_true rfl, Nat.le_of_ble_eq_true rfl⟩) (preV (wc := [(y0, .inr (4, [.int num, .int pts, .int nw, .int en, .int gl, .int bw, .int sp, .int be, .ref m_kind, .ref m_floor, .ref m_volume, .ref m_size, .ref m_faces, .ref m_when, .ref m_ahead, .ref m_order, .ref m_tried, .ref m_chosen, .ref m_forms, .ref m_warmth, .ref m_degrees, .ref m_thousandths, .ref m_longest, .long ab, .long bl])), (m_warmth, .inl (cI, 40, .inl u_warmth)), (m_degrees, .inl (cI, 6, .inl u_degrees)), (m_thousandths, .inl (cI, 6, .inl u_thousandths))]) (ci := 4) (q0 := 10) hK hP hD hN [10, 7, 8, 9] rfl (by decide) rfl rfl) rfl rfl hl.1 rfl (lv_room (Nat.le_of_ble_eq_true rfl)) dX4_about_119 ⟨Nat.le_of_ble_eq_true rfl, Nat.le_of_ble_eq_true rfl⟩) hP hD hS hA [10, 7, 8, 9] [0, 1, 2, 3, 4, 5, 6] rfl rfl (by decide) (by decide) (fun r_23 u H locs w_24 hP hD hS => ?_)
        have hP : va_P D vwCl [(m_kind, .inl (cI, 10, .inl u_kind)), (m_floor, .inl (cI, 10, .inl u_floor)), (m_volume, .inl (cI, 10, .inl u_volume)), (m_size, .inl (cI, 10, .inl u_size)), (m_faces, .inl (cI, 10, .inl u_faces)), (m_order, .inl (cI, 10, .inl u_order)), (m_when, .inl (cI, 10, .inl u_when)), (y0, .inr (4, [.int num, .int pts, .int nw, .int en, .int gl, .int bw, .int sp, .int be, .ref m_kind, .ref m_floor, .ref m_volume, .ref m_size, .ref m_faces, .ref m_when, .ref m_ahead, .ref m_order, .ref m_tried, .ref m_chosen, .ref m_forms, .ref m_warmth, .ref m_degrees, .ref m_thousandths, .ref m_longest, .long ab, .long bl])), (m_warmth, .inl (cI, 40, .inl u_warmth)), (m_degrees, .inl (cI, 6, .inl u_degrees)), (m_thousandths, .inl (cI, 6, .inl u_thousandths))] H := hP
        have hD : va_D A [(m_kind, .inl (cI, 10, .inl u_kind)), (m_floor, .inl (cI, 10, .inl u_floor)), (m_volume, .inl (cI, 10, .inl u_volume)), (m_size, .inl (cI, 10, .inl u_size)), (m_faces, .inl (cI, 10, .inl u_faces)), (m_order, .inl (cI, 10, .inl u_order)), (m_when, .inl (cI, 10, .inl u_when)), (y0, .inr (4, [.int num, .int pts, .int nw, .int en, .int gl, .int bw, .int sp, .int be, .ref m_kind, .ref m_floor, .ref m_volume, .ref m_size, .ref m_faces, .ref m_when, .ref m_ahead, .ref m_order, .ref m_tried, .ref m_chosen, .ref m_forms, .ref m_warmth, .ref m_degrees, .ref m_thousandths, .ref m_longest, .long ab, .long bl])), (m_warmth, .inl (cI, 40, .inl u_warmth)), (m_degrees, .inl (cI, 6, .inl u_degrees)), (m_thousandths, .inl (cI, 6, .inl u_thousandths))] := hD
        have w_24 : r_23 ≤ 40 := w_24
        refine W.widen (k := 0) (n := 0) (Nat.le_of_ble_eq_true rfl) (Nat.le_of_ble_eq_true rfl) ?_
        exact fi_i () hx hb hr hlocks hK (hP.sub [7, 0, 1, 2, 3, 4, 5, 6, 8, 9, 10] rfl) (hD.sub [7, 0, 1, 2, 3, 4, 5, 6, 8, 9, 10] (by decide) rfl) hS trivial dX4_about_122
      · refine lv_iconst (v := (-1)) hx hb dX4_about_108 (by decide) ?_
        refine lv_goto (tgt := 122) hx hb dX4_about_109 (by decide) ?_
        refine W.widen (k := 0) (n := 0) (Nat.le_of_ble_eq_true rfl) (Nat.le_of_ble_eq_true rfl) ?_
        exact fi_i () hx hb hr hlocks hK (hP.sub [10, 0, 1, 2, 3, 4, 5, 6, 7, 8, 9] rfl) (hD.sub [10, 0, 1, 2, 3, 4, 5, 6, 7, 8, 9] (by decide) rfl) hS trivial dX4_about_122
    by_cases c_26 : w = 7
    · refine lv_tableIn (off := 112) (tgt := 123) hx hb dX4_about_11 (by rw [c_26]; decide) (by rw [c_26]; decide) (by rw [c_26]; rfl) (by decide) ?_
      refine lv_iconst (v := 0) hx hb dX4_about_123 (by decide) ?_
      refine lv_istore_n (lv' := [(3, .int 0), (0, .ref y0), (1, .int a), (2, .int w)]) hx hb dX4_about_124 rfl hl (by decide) rfl (fun ls hl => ?_)
      have lp_125 : ∀ (n : Nat) (k : Int32) (H : Heap) (locs : List Loc) (ls : Array Slot), 10 - k.toNatClampNeg < n → (0 ≤ k) → (∀ j : Nat, j < k.toNatClampNeg → u_order j ≠ a) → va_P D vwCl [(y0, .inr (4, [.int num, .int pts, .int nw, .int en, .int gl, .int bw, .int sp, .int be, .ref m_kind, .ref m_floor, .ref m_volume, .ref m_size, .ref m_faces, .ref m_when, .ref m_ahead, .ref m_order, .ref m_tried, .ref m_chosen, .ref m_forms, .ref m_warmth, .ref m_degrees, .ref m_thousandths, .ref m_longest, .long ab, .long bl])), (m_kind, .inl (cI, 10, .inl u_kind)), (m_floor, .inl (cI, 10, .inl u_floor)), (m_volume, .inl (cI, 10, .inl u_volume)), (m_size, .inl (cI, 10, .inl u_size)), (m_faces, .inl (cI, 10, .inl u_faces)), (m_order, .inl (cI, 10, .inl u_order)), (m_when, .inl (cI, 10, .inl u_when)), (m_warmth, .inl (cI, 40, .inl u_warmth)), (m_degrees, .inl (cI, 6, .inl u_degrees)), (m_thousandths, .inl (cI, 6, .inl u_thousandths))] H → va_D A [(y0, .inr (4, [.int num, .int pts, .int nw, .int en, .int gl, .int bw, .int sp, .int be, .ref m_kind, .ref m_floor, .ref m_volume, .ref m_size, .ref m_faces, .ref m_when, .ref m_ahead, .ref m_order, .ref m_tried, .ref m_chosen, .ref m_forms, .ref m_warmth, .ref m_degrees, .ref m_thousandths, .ref m_longest, .long ab, .long bl])), (m_kind, .inl (cI, 10, .inl u_kind)), (m_floor, .inl (cI, 10, .inl u_floor)), (m_volume, .inl (cI, 10, .inl u_volume)), (m_size, .inl (cI, 10, .inl u_size)), (m_faces, .inl (cI, 10, .inl u_faces)), (m_order, .inl (cI, 10, .inl u_order)), (m_when, .inl (cI, 10, .inl u_when)), (m_warmth, .inl (cI, 40, .inl u_warmth)), (m_degrees, .inl (cI, 6, .inl u_degrees)), (m_thousandths, .inl (cI, 6, .inl u_thousandths))] → va_S A s.heap H locs → lv_has ls 4 [(0, .ref y0), (1, .int a), (3, .int k)] → GW H locs 0 0 (F0 m 125 ls []) := by
        intro n_125
        induction n_125 with
        | zero => intro k H locs ls hn_125; exact absurd hn_125 (Nat.not_lt_zero _)
        | succ n_125 ih_125 =>
          intro k H locs ls hn_125 h0k hal hP hD hS hl
          refine hIn _ _ _ _ _ ?_
          refine lv_aload_n hx hb dX4_about_125 rfl (lv_at hl 0 rfl) ?_
          refine va_get (D := D) (ci := 4) (v := .ref m_order) (C := RX4) (T := TX4) (N := 25) hx hb hts iw_X4_about_4 hown hK hP 0 rfl rfl 15 (by decide) (hts _ wd_X4_about_7) (fun _ h9 => h9) rfl dX4_about_126 ?_
          refine lv_iload_n hx hb dX4_about_129 rfl (lv_at hl 2 rfl) ?_
          refine va_iald hx hb hK hP 6 0 rfl rfl (pf_X4_about_16 num pts u_order u_when u_degrees a w r_1 n_125 k hn0 hn1 hp0 hp6 hdg hwh hho w_2 c_4 c_5 c_7 c_9 c_11 c_13 c_15 c_17 c_26 hn_125 h0k hal) dX4_about_130 ?_
          refine lv_topi (fun v_27 ev_27 => ?_)
          refine lv_iload_n hx hb dX4_about_131 rfl (lv_at hl 1 rfl) ?_
          refine lv_icmp_eq (tgt := 141) hx hb dX4_about_132 (by decide) (fun c_28 => ?_) (fun c_28 => ?_)
          · refine lv_iload_n hx hb dX4_about_141 rfl (lv_at hl 2 rfl) ?_
            refine W.widen (k := 0) (n := 0) (Nat.le_of_ble_eq_true rfl) (Nat.le_of_ble_eq_true rfl) ?_
            exact fi_i () hx hb hr hlocks hK (hP.sub [0, 1, 2, 3, 4, 5, 6, 7, 8, 9, 10] rfl) (hD.sub [0, 1, 2, 3, 4, 5, 6, 7, 8, 9, 10] (by decide) rfl) hS trivial dX4_about_142
          · obtain ⟨v_29, ev_29⟩ : ∃ y : Int32, y = k + 1 := ⟨_, rfl⟩
            refine lv_iinc (v := v_29) (lv' := [(3, .int v_29), (0, .ref y0), (1, .int a)]) hx hb dX4_about_135 hl (k := 2) rfl (by rw [ev_29]; rfl) (by decide) rfl (fun ls hl => ?_)
            refine lv_goto (tgt := 125) hx hb dX4_about_138 (by decide) ?_
            exact hOut _ _ _ _ _ (ih_125 v_29 _ _ _ (pf_X4_about_17 num pts u_order u_when u_degrees a w r_1 n_125 k v_27 v_29 hn0 hn1 hp0 hp6 hdg hwh hho w_2 c_4 c_5 c_7 c_9 c_11 c_13 c_15 c_17 c_26 hn_125 h0k hal ev_27 c_28 ev_29) (pf_X4_about_18 num pts u_order u_when u_degrees a w r_1 n_125 k v_27 v_29 hn0 hn1 hp0 hp6 hdg hwh hho w_2 c_4 c_5 c_7 c_9 c_11 c_13 c_15 c_17 c_26 hn_125 h0k hal ev_27 c_28 ev_29) (pf_X4_about_19 num pts u_order u_when u_degrees a w r_1 n_125 k v_27 v_29 hn0 hn1 hp0 hp6 hdg hwh hho w_2 c_4 c_5 c_7 c_9 c_11 c_13 c_15 c_17 c_26 hn_125 h0k hal ev_27 c_28 ev_29) (hP.sub [0, 1, 2, 3, 4, 5, 6, 7, 8, 9, 10] rfl) (hD.sub [0, 1, 2, 3, 4, 5, 6, 7, 8, 9, 10] (by decide) rfl) hS (lv_sub hl [1, 2, 0] rfl))
      exact hOut _ _ _ _ _ (lp_125 (10 - (0 : Int32).toNatClampNeg + 1) 0 _ _ _ (Nat.lt_succ_self _) (pf_X4_about_20 num pts u_order u_when u_degrees a w r_1 hn0 hn1 hp0 hp6 hdg hwh hho w_2 c_4 c_5 c_7 c_9 c_11 c_13 c_15 c_17 c_26) (pf_X4_about_21 num pts u_order u_when u_degrees a w r_1 hn0 hn1 hp0 hp6 hdg hwh hho w_2 c_4 c_5 c_7 c_9 c_11 c_13 c_15 c_17 c_26) (hP.sub [10, 0, 1, 2, 3, 4, 5, 6, 7, 8, 9] rfl) (hD.sub [10, 0, 1, 2, 3, 4, 5, 6, 7, 8, 9] (by decide) rfl) hS (lv_sub hl [1, 2, 0] rfl))
    refine lv_tableOut (tgt := 143) hx hb dX4_about_11 (pf_X4_about_22 num pts u_order u_when u_degrees a w r_1 hn0 hn1 hp0 hp6 hdg hwh hho w_2 c_4 c_5 c_7 c_9 c_11 c_13 c_15 c_17 c_26) (by decide) ?_
    refine lv_iconst (v := (-1)) hx hb dX4_about_143 (by decide) ?_
    refine W.widen (k := 0) (n := 0) (Nat.le_of_ble_eq_true rfl) (Nat.le_of_ble_eq_true rfl) ?_
    exact fi_i () hx hb hr hlocks hK (hP.sub [10, 0, 1, 2, 3, 4, 5, 6, 7, 8, 9] rfl) (hD.sub [10, 0, 1, 2, 3, 4, 5, 6, 7, 8, 9] (by decide) rfl) hS trivial dX4_about_144
  · refine lv_iconst (v := (-1)) hx hb dX4_about_8 (by decide) ?_
    refine W.widen (k := 0) (n := 0) (Nat.le_of_ble_eq_true rfl) (Nat.le_of_ble_eq_true rfl) ?_
    exact fi_i () hx hb hr hlocks hK (hP.sub [10, 0, 1, 2, 3, 4, 5, 6, 7, 8, 9] rfl) (hD.sub [10, 0, 1, 2, 3, 4, 5, 6, 7, 8, 9] (by decide) rfl) hS trivial dX4_about_9

theorem iw_X4_hard_4 : ∀ w ∈ wsX40, w ∈ wsX4_hard := fun w h => (List.mem_cons_of_mem _ (List.mem_append_right _ h))
theorem wd_X4_hard_1 : (.fieldLink RX4 37 "PourPlanModel" "when" "[I" : Cond) ∈ wsX4_hard := List.mem_of_getElem? (i := 1) rfl
set_option maxHeartbeats 1000000 in
theorem pf_X4_hard_1 (num : Int32) (pts : Int32) (u_when : Nat → Int32) (u_degrees : Nat → Int32) (a : Int32) (d : Int32) (r_1 : Int32) (r_5 : Int32) (hn0 : 0 ≤ num) (hn1 : num ≤ 10) (hp0 : 0 ≤ pts) (hp6 : pts ≤ 6) (hdg : okDeg u_degrees pts) (hwh : okWh u_when) (w_2 : r_1 = bPi a num) (c_4 : ¬ r_1 = 0) (w_6 : r_5 = bDay d) (c_8 : ¬ r_5 = 0) : vp_in a 10 := by
  exact vi_in (M := 10) rfl (by grind [bPi, bDay, bSt]) (by grind [bPi, bDay, bSt])
set_option maxHeartbeats 1000000 in
theorem pf_X4_hard_2 (num : Int32) (pts : Int32) (u_when : Nat → Int32) (u_degrees : Nat → Int32) (a : Int32) (d : Int32) (r_1 : Int32) (r_5 : Int32) (r_9 : Int32) (hn0 : 0 ≤ num) (hn1 : num ≤ 10) (hp0 : 0 ≤ pts) (hp6 : pts ≤ 6) (hdg : okDeg u_degrees pts) (hwh : okWh u_when) (w_2 : r_1 = bPi a num) (c_4 : ¬ r_1 = 0) (w_6 : r_5 = bDay d) (c_8 : ¬ r_5 = 0) (w_10 : r_9 = bSt (u_when a.toNatClampNeg) d) (c_12 : ¬ r_9 = 0) : vp_in a 10 := by
  exact vi_in (M := 10) rfl (by grind [bPi, bDay, bSt]) (by grind [bPi, bDay, bSt])
set_option maxHeartbeats 1000000 in
theorem pf_X4_hard_3 (num : Int32) (pts : Int32) (u_when : Nat → Int32) (u_degrees : Nat → Int32) (a : Int32) (d : Int32) (r_1 : Int32) (r_5 : Int32) (r_9 : Int32) (v_13 : Int32) (hn0 : 0 ≤ num) (hn1 : num ≤ 10) (hp0 : 0 ≤ pts) (hp6 : pts ≤ 6) (hdg : okDeg u_degrees pts) (hwh : okWh u_when) (w_2 : r_1 = bPi a num) (c_4 : ¬ r_1 = 0) (w_6 : r_5 = bDay d) (c_8 : ¬ r_5 = 0) (w_10 : r_9 = bSt (u_when a.toNatClampNeg) d) (c_12 : ¬ r_9 = 0) (ev_13 : v_13 = u_when a.toNatClampNeg) : -1 ≤ v_13 ∧ v_13 ≤ 39 := by
  have h9 := hwh a.toNatClampNeg
  grind
set_option maxHeartbeats 1000000 in
theorem pf_X4_hard_4 (num : Int32) (pts : Int32) (u_when : Nat → Int32) (u_degrees : Nat → Int32) (a : Int32) (d : Int32) (r_1 : Int32) (r_5 : Int32) (r_9 : Int32) (v_13 : Int32) (hn0 : 0 ≤ num) (hn1 : num ≤ 10) (hp0 : 0 ≤ pts) (hp6 : pts ≤ 6) (hdg : okDeg u_degrees pts) (hwh : okWh u_when) (w_2 : r_1 = bPi a num) (c_4 : ¬ r_1 = 0) (w_6 : r_5 = bDay d) (c_8 : ¬ r_5 = 0) (w_10 : r_9 = bSt (u_when a.toNatClampNeg) d) (c_12 : ¬ r_9 = 0) (ev_13 : v_13 = u_when a.toNatClampNeg) (fx_14 : -1 ≤ v_13 ∧ v_13 ≤ 39) : 0 ≤ pts := by
  grind [bPi, bDay, bSt]
set_option maxHeartbeats 1000000 in
theorem pf_X4_hard_5 (num : Int32) (pts : Int32) (u_when : Nat → Int32) (u_degrees : Nat → Int32) (a : Int32) (d : Int32) (r_1 : Int32) (r_5 : Int32) (r_9 : Int32) (v_13 : Int32) (hn0 : 0 ≤ num) (hn1 : num ≤ 10) (hp0 : 0 ≤ pts) (hp6 : pts ≤ 6) (hdg : okDeg u_degrees pts) (hwh : okWh u_when) (w_2 : r_1 = bPi a num) (c_4 : ¬ r_1 = 0) (w_6 : r_5 = bDay d) (c_8 : ¬ r_5 = 0) (w_10 : r_9 = bSt (u_when a.toNatClampNeg) d) (c_12 : ¬ r_9 = 0) (ev_13 : v_13 = u_when a.toNatClampNeg) (fx_14 : -1 ≤ v_13 ∧ v_13 ≤ 39) : pts ≤ 6 := by
  grind [bPi, bDay, bSt]
set_option maxHeartbeats 1000000 in
theorem pf_X4_hard_6 (num : Int32) (pts : Int32) (u_when : Nat → Int32) (u_degrees : Nat → Int32) (a : Int32) (d : Int32) (r_1 : Int32) (r_5 : Int32) (r_9 : Int32) (v_13 : Int32) (hn0 : 0 ≤ num) (hn1 : num ≤ 10) (hp0 : 0 ≤ pts) (hp6 : pts ≤ 6) (hdg : okDeg u_degrees pts) (hwh : okWh u_when) (w_2 : r_1 = bPi a num) (c_4 : ¬ r_1 = 0) (w_6 : r_5 = bDay d) (c_8 : ¬ r_5 = 0) (w_10 : r_9 = bSt (u_when a.toNatClampNeg) d) (c_12 : ¬ r_9 = 0) (ev_13 : v_13 = u_when a.toNatClampNeg) (fx_14 : -1 ≤ v_13 ∧ v_13 ≤ 39) : okDeg u_degrees pts := by
  exact hdg
set_option maxHeartbeats 1000000 in
theorem pf_X4_hard_7 (num : Int32) (pts : Int32) (u_when : Nat → Int32) (u_degrees : Nat → Int32) (a : Int32) (d : Int32) (r_1 : Int32) (r_5 : Int32) (r_9 : Int32) (v_13 : Int32) (hn0 : 0 ≤ num) (hn1 : num ≤ 10) (hp0 : 0 ≤ pts) (hp6 : pts ≤ 6) (hdg : okDeg u_degrees pts) (hwh : okWh u_when) (w_2 : r_1 = bPi a num) (c_4 : ¬ r_1 = 0) (w_6 : r_5 = bDay d) (c_8 : ¬ r_5 = 0) (w_10 : r_9 = bSt (u_when a.toNatClampNeg) d) (c_12 : ¬ r_9 = 0) (ev_13 : v_13 = u_when a.toNatClampNeg) (fx_14 : -1 ≤ v_13 ∧ v_13 ≤ 39) : 0 ≤ v_13 := by
  grind [bPi, bDay, bSt]
set_option maxHeartbeats 1000000 in
theorem pf_X4_hard_8 (num : Int32) (pts : Int32) (u_when : Nat → Int32) (u_degrees : Nat → Int32) (a : Int32) (d : Int32) (r_1 : Int32) (r_5 : Int32) (r_9 : Int32) (v_13 : Int32) (hn0 : 0 ≤ num) (hn1 : num ≤ 10) (hp0 : 0 ≤ pts) (hp6 : pts ≤ 6) (hdg : okDeg u_degrees pts) (hwh : okWh u_when) (w_2 : r_1 = bPi a num) (c_4 : ¬ r_1 = 0) (w_6 : r_5 = bDay d) (c_8 : ¬ r_5 = 0) (w_10 : r_9 = bSt (u_when a.toNatClampNeg) d) (c_12 : ¬ r_9 = 0) (ev_13 : v_13 = u_when a.toNatClampNeg) (fx_14 : -1 ≤ v_13 ∧ v_13 ≤ 39) : v_13 ≤ 40 := by
  grind [bPi, bDay, bSt]
set_option maxHeartbeats 1000000 in
theorem pf_X4_hard_9 (num : Int32) (pts : Int32) (u_when : Nat → Int32) (u_degrees : Nat → Int32) (a : Int32) (d : Int32) (r_1 : Int32) (r_5 : Int32) (r_9 : Int32) (v_13 : Int32) (hn0 : 0 ≤ num) (hn1 : num ≤ 10) (hp0 : 0 ≤ pts) (hp6 : pts ≤ 6) (hdg : okDeg u_degrees pts) (hwh : okWh u_when) (w_2 : r_1 = bPi a num) (c_4 : ¬ r_1 = 0) (w_6 : r_5 = bDay d) (c_8 : ¬ r_5 = 0) (w_10 : r_9 = bSt (u_when a.toNatClampNeg) d) (c_12 : ¬ r_9 = 0) (ev_13 : v_13 = u_when a.toNatClampNeg) (fx_14 : -1 ≤ v_13 ∧ v_13 ≤ 39) : d ≤ 40 := by
  grind [bPi, bDay, bSt]
set_option maxHeartbeats 4000000 in
set_option maxRecDepth 100000 in
theorem c_X4_hard (l : Launch) (D : va_G) (cI cQ : ClassId) (sz : Nat) (y0 : Nat) (m_when : Nat) (m_warmth : Nat) (m_degrees : Nat) (m_thousandths : Nat) (m_kind : Nat) (m_floor : Nat) (m_volume : Nat) (m_size : Nat) (m_faces : Nat) (m_ahead : Nat) (m_order : Nat) (m_tried : Nat) (m_chosen : Nat) (m_forms : Nat) (m_longest : Nat) (num : Int32) (pts : Int32) (nw : Int32) (en : Int32) (gl : Int32) (bw : Int32) (sp : Int32) (be : Int32) (ab : Int64) (bl : Int64) (u_when : Nat → Int32) (u_warmth : Nat → Int32) (u_degrees : Nat → Int32) (u_thousandths : Nat → Int32) (a : Int32) (d : Int32) (hn0 : 0 ≤ num) (hn1 : num ≤ 10) (hp0 : 0 ≤ pts) (hp6 : pts ≤ 6) (hdg : okDeg u_degrees pts) (hwh : okWh u_when) : CtI l yX4_hard wsX4_hard 2 48 0 0 [.ref y0, .int a, .int d] D [(cI, .int), (cQ, .array .int)] [(y0, .inr (4, [.int num, .int pts, .int nw, .int en, .int gl, .int bw, .int sp, .int be, .ref m_kind, .ref m_floor, .ref m_volume, .ref m_size, .ref m_faces, .ref m_when, .ref m_ahead, .ref m_order, .ref m_tried, .ref m_chosen, .ref m_forms, .ref m_warmth, .ref m_degrees, .ref m_thousandths, .ref m_longest, .long ab, .long bl])), (m_when, .inl (cI, 10, .inl u_when)), (m_warmth, .inl (cI, 40, .inl u_warmth)), (m_degrees, .inl (cI, 6, .inl u_degrees)), (m_thousandths, .inl (cI, 6, .inl u_thousandths))] sz (fun (r : Int32) (u : Unit) => True) (fun (u : Unit) => [(y0, .inr (4, [.int num, .int pts, .int nw, .int en, .int gl, .int bw, .int sp, .int be, .ref m_kind, .ref m_floor, .ref m_volume, .ref m_size, .ref m_faces, .ref m_when, .ref m_ahead, .ref m_order, .ref m_tried, .ref m_chosen, .ref m_forms, .ref m_warmth, .ref m_degrees, .ref m_thousandths, .ref m_longest, .long ab, .long bl])), (m_when, .inl (cI, 10, .inl u_when)), (m_warmth, .inl (cI, 40, .inl u_warmth)), (m_degrees, .inl (cI, 6, .inl u_degrees)), (m_thousandths, .inl (cI, 6, .inl u_thousandths))]) := by
  refine Met.ofW (cc := cX4_hard) (maxL := 3) (ret := (some .int)) (by decide) rfl ?_
  intro p e s m args below meth c s₁ B hml hv
  obtain ⟨rfl, hsz, hP, hK, hD0, hN⟩ := hv
  have hx := B.exec
  have hb := B.bytes
  have hr := B.returns
  have hts := atoms_spec (ws := wsX4_hard) B.pre
  have hown : s.vm.findClass RX4 = some m.cls := findClass_of_methodNamed B.named
  have hlocks := B.notSynchronized
  subst hsz
  have hD := hD0.self (sz := s.heap.size)
  generalize hAe : va_A [(y0, .inr (4, [.int num, .int pts, .int nw, .int en, .int gl, .int bw, .int sp, .int be, .ref m_kind, .ref m_floor, .ref m_volume, .ref m_size, .ref m_faces, .ref m_when, .ref m_ahead, .ref m_order, .ref m_tried, .ref m_chosen, .ref m_forms, .ref m_warmth, .ref m_degrees, .ref m_thousandths, .ref m_longest, .long ab, .long bl])), (m_when, .inl (cI, 10, .inl u_when)), (m_warmth, .inl (cI, 40, .inl u_warmth)), (m_degrees, .inl (cI, 6, .inl u_degrees)), (m_thousandths, .inl (cI, 6, .inl u_thousandths))] s.heap.size = A at hD ⊢
  have hA : ∀ q : Nat, s.heap.size ≤ q → A q := fun q h => by rw [← hAe]; exact Or.inr h
  have hS : va_S A s.heap s.heap [] := va_S.rf
  have hl := lv_entry ([.ref y0, .int a, .int d]) (n := 3) (Nat.le_of_ble_eq_true rfl)
  rw [lg_entry_eq]
  generalize (lg_sl ([.ref y0, .int a, .int d]) ++ List.replicate (3 - (lg_sl ([.ref y0, .int a, .int d])).length) Slot.unset).toArray = ls at hl ⊢
  have hl : lv_has ls 3 [(0, .ref y0), (1, .int a), (2, .int d)] := hl
  have hP0 := hP
  refine lv_aload_n hx hb dX4_hard_0 rfl (lv_at hl 0 rfl) ?_
  refine lv_iload_n hx hb dX4_hard_1 rfl (lv_at hl 1 rfl) ?_
  refine cc_i (wc := [(y0, .inr (4, [.int num, .int pts, .int nw, .int en, .int gl, .int bw, .int sp, .int be, .ref m_kind, .ref m_floor, .ref m_volume, .ref m_size, .ref m_faces, .ref m_when, .ref m_ahead, .ref m_order, .ref m_tried, .ref m_chosen, .ref m_forms, .ref m_warmth, .ref m_degrees, .ref m_thousandths, .ref m_longest, .long ab, .long bl]))]) (wr := [(m_when, .inl (cI, 10, .inl u_when)), (m_warmth, .inl (cI, 40, .inl u_warmth)), (m_degrees, .inl (cI, 6, .inl u_degrees)), (m_thousandths, .inl (cI, 6, .inl u_thousandths))]) (va_runV (As := [.int a]) (rest := []) ⟨hx, hb, hml, hown, hts⟩ (c_X4_isPiece l D cI cQ s.heap.size y0 m_kind m_floor m_volume m_size m_faces m_when m_ahead m_order m_tried m_chosen m_forms m_warmth m_degrees m_thousandths m_longest num pts nw en gl bw sp be ab bl a ) (cwV 1 hts gX4_hard_X4_isPiece rfl rfl rfl (by decide +kernel) ⟨Nat.le_of_ble_eq_true rfl, Nat.le_of_ble_eq_true rfl⟩) (preV (wc := [(y0, .inr (4, [.int num, .int pts, .int nw, .int en, .int gl, .int bw, .int sp, .int be, .ref m_kind, .ref m_floor, .ref m_volume, .ref m_size, .ref m_faces, .ref m_when, .ref m_ahead, .ref m_order, .ref m_tried, .ref m_chosen, .ref m_forms, .ref m_warmth, .ref m_degrees, .ref m_thousandths, .ref m_longest, .long ab, .long bl]))]) (ci := 4) (q0 := 0) hK hP hD hN [0] rfl (by decide) rfl rfl) rfl rfl hl.1 rfl (lv_room (Nat.le_of_ble_eq_true rfl)) dX4_hard_2 ⟨Nat.le_of_ble_eq_true rfl, Nat.le_of_ble_eq_true rfl⟩) hP hD hS hA [0] [1, 2, 3, 4] rfl rfl (by decide) (by decide) (fun r_1 u H locs w_2 hP hD hS => ?_)
  have hP : va_P D vwCl [(m_when, .inl (cI, 10, .inl u_when)), (m_warmth, .inl (cI, 40, .inl u_warmth)), (m_degrees, .inl (cI, 6, .inl u_degrees)), (m_thousandths, .inl (cI, 6, .inl u_thousandths)), (y0, .inr (4, [.int num, .int pts, .int nw, .int en, .int gl, .int bw, .int sp, .int be, .ref m_kind, .ref m_floor, .ref m_volume, .ref m_size, .ref m_faces, .ref m_when, .ref m_ahead, .ref m_order, .ref m_tried, .ref m_chosen, .ref m_forms, .ref m_warmth, .ref m_degrees, .ref m_thousandths, .ref m_longest, .long ab, .long bl]))] H := hP
  have hD : va_D A [(m_when, .inl (cI, 10, .inl u_when)), (m_warmth, .inl (cI, 40, .inl u_warmth)), (m_degrees, .inl (cI, 6, .inl u_degrees)), (m_thousandths, .inl (cI, 6, .inl u_thousandths)), (y0, .inr (4, [.int num, .int pts, .int nw, .int en, .int gl, .int bw, .int sp, .int be, .ref m_kind, .ref m_floor, .ref m_volume, .ref m_size, .ref m_faces, .ref m_when, .ref m_ahead, .ref m_order, .ref m_tried, .ref m_chosen, .ref m_forms, .ref m_warmth, .ref m_degrees, .ref m_thousandths, .ref m_longest, .long ab, .long bl]))] := hD
  have w_2 : r_1 = bPi a num := w_2
  refine lv_if_eq (tgt := 38) hx hb dX4_hard_5 (by decide) (fun c_4 => ?_) (fun c_4 => ?_)
  · refine lv_iconst (v := (-1)) hx hb dX4_hard_38 (by decide) ?_
    refine W.widen (k := 0) (n := 0) (Nat.le_of_ble_eq_true rfl) (Nat.le_of_ble_eq_true rfl) ?_
    exact fi_i () hx hb hr hlocks hK (hP.sub [4, 0, 1, 2, 3] rfl) (hD.sub [4, 0, 1, 2, 3] (by decide) rfl) hS trivial dX4_hard_39
  · refine lv_iload_n hx hb dX4_hard_8 rfl (lv_at hl 2 rfl) ?_
    refine cc_i (wc := []) (wr := [(m_when, .inl (cI, 10, .inl u_when)), (m_warmth, .inl (cI, 40, .inl u_warmth)), (m_degrees, .inl (cI, 6, .inl u_degrees)), (m_thousandths, .inl (cI, 6, .inl u_thousandths)), (y0, .inr (4, [.int num, .int pts, .int nw, .int en, .int gl, .int bw, .int sp, .int be, .ref m_kind, .ref m_floor, .ref m_volume, .ref m_size, .ref m_faces, .ref m_when, .ref m_ahead, .ref m_order, .ref m_tried, .ref m_chosen, .ref m_forms, .ref m_warmth, .ref m_degrees, .ref m_thousandths, .ref m_longest, .long ab, .long bl]))]) (va_runS (As := [.int d]) (rest := []) ⟨hx, hb, hml, hown, hts⟩ (c_X4_isDay l D cI cQ H.size d ) (va_cwS 1 hts gX4_hard_X4_isDay rfl rfl rfl (by decide +kernel) ⟨Nat.le_of_ble_eq_true rfl, Nat.le_of_ble_eq_true rfl⟩) (preS (wc := []) hK hP hD hN [] rfl (by decide)) rfl rfl hl.1 rfl (lv_room (Nat.le_of_ble_eq_true rfl)) dX4_hard_9 ⟨Nat.le_of_ble_eq_true rfl, Nat.le_of_ble_eq_true rfl⟩) hP hD hS hA [] [0, 1, 2, 3, 4] rfl rfl (by decide) (by decide) (fun r_5 u H locs w_6 hP hD hS => ?_)
    have hP : va_P D vwCl [(m_when, .inl (cI, 10, .inl u_when)), (m_warmth, .inl (cI, 40, .inl u_warmth)), (m_degrees, .inl (cI, 6, .inl u_degrees)), (m_thousandths, .inl (cI, 6, .inl u_thousandths)), (y0, .inr (4, [.int num, .int pts, .int nw, .int en, .int gl, .int bw, .int sp, .int be, .ref m_kind, .ref m_floor, .ref m_volume, .ref m_size, .ref m_faces, .ref m_when, .ref m_ahead, .ref m_order, .ref m_tried, .ref m_chosen, .ref m_forms, .ref m_warmth, .ref m_degrees, .ref m_thousandths, .ref m_longest, .long ab, .long bl]))] H := hP
    have hD : va_D A [(m_when, .inl (cI, 10, .inl u_when)), (m_warmth, .inl (cI, 40, .inl u_warmth)), (m_degrees, .inl (cI, 6, .inl u_degrees)), (m_thousandths, .inl (cI, 6, .inl u_thousandths)), (y0, .inr (4, [.int num, .int pts, .int nw, .int en, .int gl, .int bw, .int sp, .int be, .ref m_kind, .ref m_floor, .ref m_volume, .ref m_size, .ref m_faces, .ref m_when, .ref m_ahead, .ref m_order, .ref m_tried, .ref m_chosen, .ref m_forms, .ref m_warmth, .ref m_degrees, .ref m_thousandths, .ref m_longest, .long ab, .long bl]))] := hD
    have w_6 : r_5 = bDay d := w_6
    refine lv_if_eq (tgt := 38) hx hb dX4_hard_12 (by decide) (fun c_8 => ?_) (fun c_8 => ?_)
    · refine lv_iconst (v := (-1)) hx hb dX4_hard_38 (by decide) ?_
      refine W.widen (k := 0) (n := 0) (Nat.le_of_ble_eq_true rfl) (Nat.le_of_ble_eq_true rfl) ?_
      exact fi_i () hx hb hr hlocks hK (hP.sub [4, 0, 1, 2, 3] rfl) (hD.sub [4, 0, 1, 2, 3] (by decide) rfl) hS trivial dX4_hard_39
    · refine lv_aload_n hx hb dX4_hard_15 rfl (lv_at hl 0 rfl) ?_
      refine lv_iload_n hx hb dX4_hard_16 rfl (lv_at hl 1 rfl) ?_
      refine lv_iload_n hx hb dX4_hard_17 rfl (lv_at hl 2 rfl) ?_
      refine cc_i (wc := [(y0, .inr (4, [.int num, .int pts, .int nw, .int en, .int gl, .int bw, .int sp, .int be, .ref m_kind, .ref m_floor, .ref m_volume, .ref m_size, .ref m_faces, .ref m_when, .ref m_ahead, .ref m_order, .ref m_tried, .ref m_chosen, .ref m_forms, .ref m_warmth, .ref m_degrees, .ref m_thousandths, .ref m_longest, .long ab, .long bl])), (m_when, .inl (cI, 10, .inl u_when))]) (wr := [(m_warmth, .inl (cI, 40, .inl u_warmth)), (m_degrees, .inl (cI, 6, .inl u_degrees)), (m_thousandths, .inl (cI, 6, .inl u_thousandths))]) (va_runV (As := [.int a, .int d]) (rest := []) ⟨hx, hb, hml, hown, hts⟩ (c_X4_isPoured l D cI cQ H.size y0 m_when m_kind m_floor m_volume m_size m_faces m_ahead m_order m_tried m_chosen m_forms m_warmth m_degrees m_thousandths m_longest num pts nw en gl bw sp be ab bl u_when a d (pf_X4_hard_1 num pts u_when u_degrees a d r_1 r_5 hn0 hn1 hp0 hp6 hdg hwh w_2 c_4 w_6 c_8)) (cwV 2 hts gX4_hard_X4_isPoured rfl rfl rfl (by decide +kernel) ⟨Nat.le_of_ble_eq_true rfl, Nat.le_of_ble_eq_true rfl⟩) (preV (wc := [(y0, .inr (4, [.int num, .int pts, .int nw, .int en, .int gl, .int bw, .int sp, .int be, .ref m_kind, .ref m_floor, .ref m_volume, .ref m_size, .ref m_faces, .ref m_when, .ref m_ahead, .ref m_order, .ref m_tried, .ref m_chosen, .ref m_forms, .ref m_warmth, .ref m_degrees, .ref m_thousandths, .ref m_longest, .long ab, .long bl])), (m_when, .inl (cI, 10, .inl u_when))]) (ci := 4) (q0 := 4) hK hP hD hN [4, 0] rfl (by decide) rfl rfl) rfl rfl hl.1 rfl (lv_room (Nat.le_of_ble_eq_true rfl)) dX4_hard_18 ⟨Nat.le_of_ble_eq_true rfl, Nat.le_of_ble_eq_true rfl⟩) hP hD hS hA [4, 0] [1, 2, 3] rfl rfl (by decide) (by decide) (fun r_9 u H locs w_10 hP hD hS => ?_)
      have hP : va_P D vwCl [(m_warmth, .inl (cI, 40, .inl u_warmth)), (m_degrees, .inl (cI, 6, .inl u_degrees)), (m_thousandths, .inl (cI, 6, .inl u_thousandths)), (y0, .inr (4, [.int num, .int pts, .int nw, .int en, .int gl, .int bw, .int sp, .int be, .ref m_kind, .ref m_floor, .ref m_volume, .ref m_size, .ref m_faces, .ref m_when, .ref m_ahead, .ref m_order, .ref m_tried, .ref m_chosen, .ref m_forms, .ref m_warmth, .ref m_degrees, .ref m_thousandths, .ref m_longest, .long ab, .long bl])), (m_when, .inl (cI, 10, .inl u_when))] H := hP
      have hD : va_D A [(m_warmth, .inl (cI, 40, .inl u_warmth)), (m_degrees, .inl (cI, 6, .inl u_degrees)), (m_thousandths, .inl (cI, 6, .inl u_thousandths)), (y0, .inr (4, [.int num, .int pts, .int nw, .int en, .int gl, .int bw, .int sp, .int be, .ref m_kind, .ref m_floor, .ref m_volume, .ref m_size, .ref m_faces, .ref m_when, .ref m_ahead, .ref m_order, .ref m_tried, .ref m_chosen, .ref m_forms, .ref m_warmth, .ref m_degrees, .ref m_thousandths, .ref m_longest, .long ab, .long bl])), (m_when, .inl (cI, 10, .inl u_when))] := hD
      have w_10 : r_9 = bSt (u_when a.toNatClampNeg) d := w_10
      refine lv_if_eq (tgt := 38) hx hb dX4_hard_21 (by decide) (fun c_12 => ?_) (fun c_12 => ?_)
      · refine lv_iconst (v := (-1)) hx hb dX4_hard_38 (by decide) ?_
        refine W.widen (k := 0) (n := 0) (Nat.le_of_ble_eq_true rfl) (Nat.le_of_ble_eq_true rfl) ?_
        exact fi_i () hx hb hr hlocks hK (hP.sub [3, 4, 0, 1, 2] rfl) (hD.sub [3, 4, 0, 1, 2] (by decide) rfl) hS trivial dX4_hard_39
      · refine lv_aload_n hx hb dX4_hard_24 rfl (lv_at hl 0 rfl) ?_
        refine lv_aload_n hx hb dX4_hard_25 rfl (lv_at hl 0 rfl) ?_
        refine va_get (D := D) (ci := 4) (v := .ref m_when) (C := RX4) (T := TX4) (N := 25) hx hb hts iw_X4_hard_4 hown hK hP 3 rfl rfl 13 (by decide) (hts _ wd_X4_hard_1) (fun _ h9 => h9) rfl dX4_hard_26 ?_
        refine lv_iload_n hx hb dX4_hard_29 rfl (lv_at hl 1 rfl) ?_
        refine va_iald hx hb hK hP 4 0 rfl rfl (pf_X4_hard_2 num pts u_when u_degrees a d r_1 r_5 r_9 hn0 hn1 hp0 hp6 hdg hwh w_2 c_4 w_6 c_8 w_10 c_12) dX4_hard_30 ?_
        refine lv_topi (fun v_13 ev_13 => ?_)
        have fx_14 : -1 ≤ v_13 ∧ v_13 ≤ 39 := (pf_X4_hard_3 num pts u_when u_degrees a d r_1 r_5 r_9 v_13 hn0 hn1 hp0 hp6 hdg hwh w_2 c_4 w_6 c_8 w_10 c_12 ev_13)
        refine lv_iload_n hx hb dX4_hard_31 rfl (lv_at hl 2 rfl) ?_
        refine cc_i (wc := [(y0, .inr (4, [.int num, .int pts, .int nw, .int en, .int gl, .int bw, .int sp, .int be, .ref m_kind, .ref m_floor, .ref m_volume, .ref m_size, .ref m_faces, .ref m_when, .ref m_ahead, .ref m_order, .ref m_tried, .ref m_chosen, .ref m_forms, .ref m_warmth, .ref m_degrees, .ref m_thousandths, .ref m_longest, .long ab, .long bl])), (m_warmth, .inl (cI, 40, .inl u_warmth)), (m_degrees, .inl (cI, 6, .inl u_degrees)), (m_thousandths, .inl (cI, 6, .inl u_thousandths))]) (wr := [(m_when, .inl (cI, 10, .inl u_when))]) (va_runV (As := [.int v_13, .int d]) (rest := []) ⟨hx, hb, hml, hown, hts⟩ (c_X4_hardness l D cI cQ H.size y0 m_warmth m_degrees m_thousandths m_kind m_floor m_volume m_size m_faces m_when m_ahead m_order m_tried m_chosen m_forms m_longest num pts nw en gl bw sp be ab bl u_warmth u_degrees u_thousandths v_13 d (pf_X4_hard_4 num pts u_when u_degrees a d r_1 r_5 r_9 v_13 hn0 hn1 hp0 hp6 hdg hwh w_2 c_4 w_6 c_8 w_10 c_12 ev_13 fx_14) (pf_X4_hard_5 num pts u_when u_degrees a d r_1 r_5 r_9 v_13 hn0 hn1 hp0 hp6 hdg hwh w_2 c_4 w_6 c_8 w_10 c_12 ev_13 fx_14) (pf_X4_hard_6 num pts u_when u_degrees a d r_1 r_5 r_9 v_13 hn0 hn1 hp0 hp6 hdg hwh w_2 c_4 w_6 c_8 w_10 c_12 ev_13 fx_14) (pf_X4_hard_7 num pts u_when u_degrees a d r_1 r_5 r_9 v_13 hn0 hn1 hp0 hp6 hdg hwh w_2 c_4 w_6 c_8 w_10 c_12 ev_13 fx_14) (pf_X4_hard_8 num pts u_when u_degrees a d r_1 r_5 r_9 v_13 hn0 hn1 hp0 hp6 hdg hwh w_2 c_4 w_6 c_8 w_10 c_12 ev_13 fx_14) (pf_X4_hard_9 num pts u_when u_degrees a d r_1 r_5 r_9 v_13 hn0 hn1 hp0 hp6 hdg hwh w_2 c_4 w_6 c_8 w_10 c_12 ev_13 fx_14)) (cwV 2 hts gX4_hard_X4_hardness rfl rfl rfl (by decide +kernel) ⟨Nat.le_of_ble_eq_true rfl, Nat.le_of_ble_eq_true rfl⟩) (preV (wc := [(y0, .inr (4, [.int num, .int pts, .int nw, .int en, .int gl, .int bw, .int sp, .int be, .ref m_kind, .ref m_floor, .ref m_volume, .ref m_size, .ref m_faces, .ref m_when, .ref m_ahead, .ref m_order, .ref m_tried, .ref m_chosen, .ref m_forms, .ref m_warmth, .ref m_degrees, .ref m_thousandths, .ref m_longest, .long ab, .long bl])), (m_warmth, .inl (cI, 40, .inl u_warmth)), (m_degrees, .inl (cI, 6, .inl u_degrees)), (m_thousandths, .inl (cI, 6, .inl u_thousandths))]) (ci := 4) (q0 := 3) hK hP hD hN [3, 0, 1, 2] rfl (by decide) rfl rfl) rfl rfl hl.1 rfl (lv_room (Nat.le_of_ble_eq_true rfl)) dX4_hard_32 ⟨Nat.le_of_ble_eq_true rfl, Nat.le_of_ble_eq_true rfl⟩) hP hD hS hA [3, 0, 1, 2] [4] rfl rfl (by decide) (by decide) (fun r_15 u H locs w_16 hP hD hS => ?_)
        have hP : va_P D vwCl [(m_when, .inl (cI, 10, .inl u_when)), (y0, .inr (4, [.int num, .int pts, .int nw, .int en, .int gl, .int bw, .int sp, .int be, .ref m_kind, .ref m_floor, .ref m_volume, .ref m_size, .ref m_faces, .ref m_when, .ref m_ahead, .ref m_order, .ref m_tried, .ref m_chosen, .ref m_forms, .ref m_warmth, .ref m_degrees, .ref m_thousandths, .ref m_longest, .long ab, .long bl])), (m_warmth, .inl (cI, 40, .inl u_warmth)), (m_degrees, .inl (cI, 6, .inl u_degrees)), (m_thousandths, .inl (cI, 6, .inl u_thousandths))] H := hP
        have hD : va_D A [(m_when, .inl (cI, 10, .inl u_when)), (y0, .inr (4, [.int num, .int pts, .int nw, .int en, .int gl, .int bw, .int sp, .int be, .ref m_kind, .ref m_floor, .ref m_volume, .ref m_size, .ref m_faces, .ref m_when, .ref m_ahead, .ref m_order, .ref m_tried, .ref m_chosen, .ref m_forms, .ref m_warmth, .ref m_degrees, .ref m_thousandths, .ref m_longest, .long ab, .long bl])), (m_warmth, .inl (cI, 40, .inl u_warmth)), (m_degrees, .inl (cI, 6, .inl u_degrees)), (m_thousandths, .inl (cI, 6, .inl u_thousandths))] := hD
        have w_16 : r_15 = hrd u_warmth bw u_degrees u_thousandths pts v_13 d := w_16
        refine lv_goto (tgt := 39) hx hb dX4_hard_35 (by decide) ?_
        refine W.widen (k := 0) (n := 0) (Nat.le_of_ble_eq_true rfl) (Nat.le_of_ble_eq_true rfl) ?_
        exact fi_i () hx hb hr hlocks hK (hP.sub [1, 0, 2, 3, 4] rfl) (hD.sub [1, 0, 2, 3, 4] (by decide) rfl) hS trivial dX4_hard_39

set_option maxHeartbeats 1000000 in
theorem pf_X4_why_1 (num : Int32) (pts : Int32) (u_size : Nat → Int32) (u_when : Nat → Int32) (u_degrees : Nat → Int32) (a : Int32) (d : Int32) (r_1 : Int32) (r_5 : Int32) (hn0 : 0 ≤ num) (hn1 : num ≤ 10) (hp0 : 0 ≤ pts) (hp6 : pts ≤ 6) (hdg : okDeg u_degrees pts) (hwh : okWh u_when) (hz : okSz u_size) (w_2 : r_1 = bPi a num) (c_4 : ¬ r_1 = 0) (w_6 : r_5 = bDay d) (c_8 : ¬ r_5 = 0) : 0 ≤ num := by
  grind [bPi, bDay]
set_option maxHeartbeats 1000000 in
theorem pf_X4_why_2 (num : Int32) (pts : Int32) (u_size : Nat → Int32) (u_when : Nat → Int32) (u_degrees : Nat → Int32) (a : Int32) (d : Int32) (r_1 : Int32) (r_5 : Int32) (hn0 : 0 ≤ num) (hn1 : num ≤ 10) (hp0 : 0 ≤ pts) (hp6 : pts ≤ 6) (hdg : okDeg u_degrees pts) (hwh : okWh u_when) (hz : okSz u_size) (w_2 : r_1 = bPi a num) (c_4 : ¬ r_1 = 0) (w_6 : r_5 = bDay d) (c_8 : ¬ r_5 = 0) : num ≤ 10 := by
  grind [bPi, bDay]
set_option maxHeartbeats 1000000 in
theorem pf_X4_why_3 (num : Int32) (pts : Int32) (u_size : Nat → Int32) (u_when : Nat → Int32) (u_degrees : Nat → Int32) (a : Int32) (d : Int32) (r_1 : Int32) (r_5 : Int32) (hn0 : 0 ≤ num) (hn1 : num ≤ 10) (hp0 : 0 ≤ pts) (hp6 : pts ≤ 6) (hdg : okDeg u_degrees pts) (hwh : okWh u_when) (hz : okSz u_size) (w_2 : r_1 = bPi a num) (c_4 : ¬ r_1 = 0) (w_6 : r_5 = bDay d) (c_8 : ¬ r_5 = 0) : 0 ≤ pts := by
  grind [bPi, bDay]
set_option maxHeartbeats 1000000 in
theorem pf_X4_why_4 (num : Int32) (pts : Int32) (u_size : Nat → Int32) (u_when : Nat → Int32) (u_degrees : Nat → Int32) (a : Int32) (d : Int32) (r_1 : Int32) (r_5 : Int32) (hn0 : 0 ≤ num) (hn1 : num ≤ 10) (hp0 : 0 ≤ pts) (hp6 : pts ≤ 6) (hdg : okDeg u_degrees pts) (hwh : okWh u_when) (hz : okSz u_size) (w_2 : r_1 = bPi a num) (c_4 : ¬ r_1 = 0) (w_6 : r_5 = bDay d) (c_8 : ¬ r_5 = 0) : pts ≤ 6 := by
  grind [bPi, bDay]
set_option maxHeartbeats 1000000 in
theorem pf_X4_why_5 (num : Int32) (pts : Int32) (u_size : Nat → Int32) (u_when : Nat → Int32) (u_degrees : Nat → Int32) (a : Int32) (d : Int32) (r_1 : Int32) (r_5 : Int32) (hn0 : 0 ≤ num) (hn1 : num ≤ 10) (hp0 : 0 ≤ pts) (hp6 : pts ≤ 6) (hdg : okDeg u_degrees pts) (hwh : okWh u_when) (hz : okSz u_size) (w_2 : r_1 = bPi a num) (c_4 : ¬ r_1 = 0) (w_6 : r_5 = bDay d) (c_8 : ¬ r_5 = 0) : okDeg u_degrees pts := by
  exact hdg
set_option maxHeartbeats 1000000 in
theorem pf_X4_why_6 (num : Int32) (pts : Int32) (u_size : Nat → Int32) (u_when : Nat → Int32) (u_degrees : Nat → Int32) (a : Int32) (d : Int32) (r_1 : Int32) (r_5 : Int32) (hn0 : 0 ≤ num) (hn1 : num ≤ 10) (hp0 : 0 ≤ pts) (hp6 : pts ≤ 6) (hdg : okDeg u_degrees pts) (hwh : okWh u_when) (hz : okSz u_size) (w_2 : r_1 = bPi a num) (c_4 : ¬ r_1 = 0) (w_6 : r_5 = bDay d) (c_8 : ¬ r_5 = 0) : okWh u_when := by
  exact hwh
set_option maxHeartbeats 1000000 in
theorem pf_X4_why_7 (num : Int32) (pts : Int32) (u_size : Nat → Int32) (u_when : Nat → Int32) (u_degrees : Nat → Int32) (a : Int32) (d : Int32) (r_1 : Int32) (r_5 : Int32) (hn0 : 0 ≤ num) (hn1 : num ≤ 10) (hp0 : 0 ≤ pts) (hp6 : pts ≤ 6) (hdg : okDeg u_degrees pts) (hwh : okWh u_when) (hz : okSz u_size) (w_2 : r_1 = bPi a num) (c_4 : ¬ r_1 = 0) (w_6 : r_5 = bDay d) (c_8 : ¬ r_5 = 0) : okSz u_size := by
  exact hz
set_option maxHeartbeats 1000000 in
theorem pf_X4_why_8 (num : Int32) (pts : Int32) (u_size : Nat → Int32) (u_when : Nat → Int32) (u_degrees : Nat → Int32) (a : Int32) (d : Int32) (r_1 : Int32) (r_5 : Int32) (hn0 : 0 ≤ num) (hn1 : num ≤ 10) (hp0 : 0 ≤ pts) (hp6 : pts ≤ 6) (hdg : okDeg u_degrees pts) (hwh : okWh u_when) (hz : okSz u_size) (w_2 : r_1 = bPi a num) (c_4 : ¬ r_1 = 0) (w_6 : r_5 = bDay d) (c_8 : ¬ r_5 = 0) : 0 ≤ a := by
  grind [bPi, bDay]
set_option maxHeartbeats 1000000 in
theorem pf_X4_why_9 (num : Int32) (pts : Int32) (u_size : Nat → Int32) (u_when : Nat → Int32) (u_degrees : Nat → Int32) (a : Int32) (d : Int32) (r_1 : Int32) (r_5 : Int32) (hn0 : 0 ≤ num) (hn1 : num ≤ 10) (hp0 : 0 ≤ pts) (hp6 : pts ≤ 6) (hdg : okDeg u_degrees pts) (hwh : okWh u_when) (hz : okSz u_size) (w_2 : r_1 = bPi a num) (c_4 : ¬ r_1 = 0) (w_6 : r_5 = bDay d) (c_8 : ¬ r_5 = 0) : a < num := by
  grind [bPi, bDay]
set_option maxHeartbeats 1000000 in
theorem pf_X4_why_10 (num : Int32) (pts : Int32) (u_size : Nat → Int32) (u_when : Nat → Int32) (u_degrees : Nat → Int32) (a : Int32) (d : Int32) (r_1 : Int32) (r_5 : Int32) (hn0 : 0 ≤ num) (hn1 : num ≤ 10) (hp0 : 0 ≤ pts) (hp6 : pts ≤ 6) (hdg : okDeg u_degrees pts) (hwh : okWh u_when) (hz : okSz u_size) (w_2 : r_1 = bPi a num) (c_4 : ¬ r_1 = 0) (w_6 : r_5 = bDay d) (c_8 : ¬ r_5 = 0) : d ≤ 39 := by
  grind [bPi, bDay]
set_option maxHeartbeats 4000000 in
set_option maxRecDepth 100000 in
theorem c_X4_why (l : Launch) (D : va_G) (cI cQ : ClassId) (sz : Nat) (y0 : Nat) (m_kind : Nat) (m_floor : Nat) (m_volume : Nat) (m_size : Nat) (m_faces : Nat) (m_ahead : Nat) (m_forms : Nat) (m_when : Nat) (m_warmth : Nat) (m_degrees : Nat) (m_thousandths : Nat) (m_order : Nat) (m_tried : Nat) (m_chosen : Nat) (m_longest : Nat) (num : Int32) (pts : Int32) (nw : Int32) (en : Int32) (gl : Int32) (bw : Int32) (sp : Int32) (be : Int32) (ab : Int64) (bl : Int64) (u_kind : Nat → Int32) (u_floor : Nat → Int32) (u_volume : Nat → Int32) (u_size : Nat → Int32) (u_faces : Nat → Int32) (u_ahead : Nat → Int32) (u_forms : Nat → Int32) (u_when : Nat → Int32) (u_warmth : Nat → Int32) (u_degrees : Nat → Int32) (u_thousandths : Nat → Int32) (a : Int32) (d : Int32) (hn0 : 0 ≤ num) (hn1 : num ≤ 10) (hp0 : 0 ≤ pts) (hp6 : pts ≤ 6) (hdg : okDeg u_degrees pts) (hwh : okWh u_when) (hz : okSz u_size) : CtI l yX4_why wsX4_why 6 141 0 0 [.ref y0, .int a, .int d] D [(cI, .int), (cQ, .array .int)] [(y0, .inr (4, [.int num, .int pts, .int nw, .int en, .int gl, .int bw, .int sp, .int be, .ref m_kind, .ref m_floor, .ref m_volume, .ref m_size, .ref m_faces, .ref m_when, .ref m_ahead, .ref m_order, .ref m_tried, .ref m_chosen, .ref m_forms, .ref m_warmth, .ref m_degrees, .ref m_thousandths, .ref m_longest, .long ab, .long bl])), (m_kind, .inl (cI, 10, .inl u_kind)), (m_floor, .inl (cI, 10, .inl u_floor)), (m_volume, .inl (cI, 10, .inl u_volume)), (m_size, .inl (cI, 10, .inl u_size)), (m_faces, .inl (cI, 10, .inl u_faces)), (m_ahead, .inl (cI, 100, .inl u_ahead)), (m_forms, .inl (cI, 3, .inl u_forms)), (m_when, .inl (cI, 10, .inl u_when)), (m_warmth, .inl (cI, 40, .inl u_warmth)), (m_degrees, .inl (cI, 6, .inl u_degrees)), (m_thousandths, .inl (cI, 6, .inl u_thousandths))] sz (fun (r : Int32) (u : Unit) => True) (fun (u : Unit) => [(y0, .inr (4, [.int num, .int pts, .int nw, .int en, .int gl, .int bw, .int sp, .int be, .ref m_kind, .ref m_floor, .ref m_volume, .ref m_size, .ref m_faces, .ref m_when, .ref m_ahead, .ref m_order, .ref m_tried, .ref m_chosen, .ref m_forms, .ref m_warmth, .ref m_degrees, .ref m_thousandths, .ref m_longest, .long ab, .long bl])), (m_kind, .inl (cI, 10, .inl u_kind)), (m_floor, .inl (cI, 10, .inl u_floor)), (m_volume, .inl (cI, 10, .inl u_volume)), (m_size, .inl (cI, 10, .inl u_size)), (m_faces, .inl (cI, 10, .inl u_faces)), (m_ahead, .inl (cI, 100, .inl u_ahead)), (m_forms, .inl (cI, 3, .inl u_forms)), (m_when, .inl (cI, 10, .inl u_when)), (m_warmth, .inl (cI, 40, .inl u_warmth)), (m_degrees, .inl (cI, 6, .inl u_degrees)), (m_thousandths, .inl (cI, 6, .inl u_thousandths))]) := by
  refine Met.ofW (cc := cX4_why) (maxL := 3) (ret := (some .int)) (by decide) rfl ?_
  intro p e s m args below meth c s₁ B hml hv
  obtain ⟨rfl, hsz, hP, hK, hD0, hN⟩ := hv
  have hx := B.exec
  have hb := B.bytes
  have hr := B.returns
  have hts := atoms_spec (ws := wsX4_why) B.pre
  have hown : s.vm.findClass RX4 = some m.cls := findClass_of_methodNamed B.named
  have hlocks := B.notSynchronized
  subst hsz
  have hD := hD0.self (sz := s.heap.size)
  generalize hAe : va_A [(y0, .inr (4, [.int num, .int pts, .int nw, .int en, .int gl, .int bw, .int sp, .int be, .ref m_kind, .ref m_floor, .ref m_volume, .ref m_size, .ref m_faces, .ref m_when, .ref m_ahead, .ref m_order, .ref m_tried, .ref m_chosen, .ref m_forms, .ref m_warmth, .ref m_degrees, .ref m_thousandths, .ref m_longest, .long ab, .long bl])), (m_kind, .inl (cI, 10, .inl u_kind)), (m_floor, .inl (cI, 10, .inl u_floor)), (m_volume, .inl (cI, 10, .inl u_volume)), (m_size, .inl (cI, 10, .inl u_size)), (m_faces, .inl (cI, 10, .inl u_faces)), (m_ahead, .inl (cI, 100, .inl u_ahead)), (m_forms, .inl (cI, 3, .inl u_forms)), (m_when, .inl (cI, 10, .inl u_when)), (m_warmth, .inl (cI, 40, .inl u_warmth)), (m_degrees, .inl (cI, 6, .inl u_degrees)), (m_thousandths, .inl (cI, 6, .inl u_thousandths))] s.heap.size = A at hD ⊢
  have hA : ∀ q : Nat, s.heap.size ≤ q → A q := fun q h => by rw [← hAe]; exact Or.inr h
  have hS : va_S A s.heap s.heap [] := va_S.rf
  have hl := lv_entry ([.ref y0, .int a, .int d]) (n := 3) (Nat.le_of_ble_eq_true rfl)
  rw [lg_entry_eq]
  generalize (lg_sl ([.ref y0, .int a, .int d]) ++ List.replicate (3 - (lg_sl ([.ref y0, .int a, .int d])).length) Slot.unset).toArray = ls at hl ⊢
  have hl : lv_has ls 3 [(0, .ref y0), (1, .int a), (2, .int d)] := hl
  have hP0 := hP
  refine lv_aload_n hx hb dX4_why_0 rfl (lv_at hl 0 rfl) ?_
  refine lv_iload_n hx hb dX4_why_1 rfl (lv_at hl 1 rfl) ?_
  refine cc_i (wc := [(y0, .inr (4, [.int num, .int pts, .int nw, .int en, .int gl, .int bw, .int sp, .int be, .ref m_kind, .ref m_floor, .ref m_volume, .ref m_size, .ref m_faces, .ref m_when, .ref m_ahead, .ref m_order, .ref m_tried, .ref m_chosen, .ref m_forms, .ref m_warmth, .ref m_degrees, .ref m_thousandths, .ref m_longest, .long ab, .long bl]))]) (wr := [(m_kind, .inl (cI, 10, .inl u_kind)), (m_floor, .inl (cI, 10, .inl u_floor)), (m_volume, .inl (cI, 10, .inl u_volume)), (m_size, .inl (cI, 10, .inl u_size)), (m_faces, .inl (cI, 10, .inl u_faces)), (m_ahead, .inl (cI, 100, .inl u_ahead)), (m_forms, .inl (cI, 3, .inl u_forms)), (m_when, .inl (cI, 10, .inl u_when)), (m_warmth, .inl (cI, 40, .inl u_warmth)), (m_degrees, .inl (cI, 6, .inl u_degrees)), (m_thousandths, .inl (cI, 6, .inl u_thousandths))]) (va_runV (As := [.int a]) (rest := []) ⟨hx, hb, hml, hown, hts⟩ (c_X4_isPiece l D cI cQ s.heap.size y0 m_kind m_floor m_volume m_size m_faces m_when m_ahead m_order m_tried m_chosen m_forms m_warmth m_degrees m_thousandths m_longest num pts nw en gl bw sp be ab bl a ) (cwV 1 hts gX4_why_X4_isPiece rfl rfl rfl (by decide +kernel) ⟨Nat.le_of_ble_eq_true rfl, Nat.le_of_ble_eq_true rfl⟩) (preV (wc := [(y0, .inr (4, [.int num, .int pts, .int nw, .int en, .int gl, .int bw, .int sp, .int be, .ref m_kind, .ref m_floor, .ref m_volume, .ref m_size, .ref m_faces, .ref m_when, .ref m_ahead, .ref m_order, .ref m_tried, .ref m_chosen, .ref m_forms, .ref m_warmth, .ref m_degrees, .ref m_thousandths, .ref m_longest, .long ab, .long bl]))]) (ci := 4) (q0 := 0) hK hP hD hN [0] rfl (by decide) rfl rfl) rfl rfl hl.1 rfl (lv_room (Nat.le_of_ble_eq_true rfl)) dX4_why_2 ⟨Nat.le_of_ble_eq_true rfl, Nat.le_of_ble_eq_true rfl⟩) hP hD hS hA [0] [1, 2, 3, 4, 5, 6, 7, 8, 9, 10, 11] rfl rfl (by decide) (by decide) (fun r_1 u H locs w_2 hP hD hS => ?_)
  have hP : va_P D vwCl [(m_kind, .inl (cI, 10, .inl u_kind)), (m_floor, .inl (cI, 10, .inl u_floor)), (m_volume, .inl (cI, 10, .inl u_volume)), (m_size, .inl (cI, 10, .inl u_size)), (m_faces, .inl (cI, 10, .inl u_faces)), (m_ahead, .inl (cI, 100, .inl u_ahead)), (m_forms, .inl (cI, 3, .inl u_forms)), (m_when, .inl (cI, 10, .inl u_when)), (m_warmth, .inl (cI, 40, .inl u_warmth)), (m_degrees, .inl (cI, 6, .inl u_degrees)), (m_thousandths, .inl (cI, 6, .inl u_thousandths)), (y0, .inr (4, [.int num, .int pts, .int nw, .int en, .int gl, .int bw, .int sp, .int be, .ref m_kind, .ref m_floor, .ref m_volume, .ref m_size, .ref m_faces, .ref m_when, .ref m_ahead, .ref m_order, .ref m_tried, .ref m_chosen, .ref m_forms, .ref m_warmth, .ref m_degrees, .ref m_thousandths, .ref m_longest, .long ab, .long bl]))] H := hP
  have hD : va_D A [(m_kind, .inl (cI, 10, .inl u_kind)), (m_floor, .inl (cI, 10, .inl u_floor)), (m_volume, .inl (cI, 10, .inl u_volume)), (m_size, .inl (cI, 10, .inl u_size)), (m_faces, .inl (cI, 10, .inl u_faces)), (m_ahead, .inl (cI, 100, .inl u_ahead)), (m_forms, .inl (cI, 3, .inl u_forms)), (m_when, .inl (cI, 10, .inl u_when)), (m_warmth, .inl (cI, 40, .inl u_warmth)), (m_degrees, .inl (cI, 6, .inl u_degrees)), (m_thousandths, .inl (cI, 6, .inl u_thousandths)), (y0, .inr (4, [.int num, .int pts, .int nw, .int en, .int gl, .int bw, .int sp, .int be, .ref m_kind, .ref m_floor, .ref m_volume, .ref m_size, .ref m_faces, .ref m_when, .ref m_ahead, .ref m_order, .ref m_tried, .ref m_chosen, .ref m_forms, .ref m_warmth, .ref m_degrees, .ref m_thousandths, .ref m_longest, .long ab, .long bl]))] := hD
  have w_2 : r_1 = bPi a num := w_2
  refine lv_if_eq (tgt := 24) hx hb dX4_why_5 (by decide) (fun c_4 => ?_) (fun c_4 => ?_)
  · refine lv_iconst (v := (-1)) hx hb dX4_why_24 (by decide) ?_
    refine W.widen (k := 0) (n := 0) (Nat.le_of_ble_eq_true rfl) (Nat.le_of_ble_eq_true rfl) ?_
    exact fi_i () hx hb hr hlocks hK (hP.sub [11, 0, 1, 2, 3, 4, 5, 6, 7, 8, 9, 10] rfl) (hD.sub [11, 0, 1, 2, 3, 4, 5, 6, 7, 8, 9, 10] (by decide) rfl) hS trivial dX4_why_25
  · refine lv_iload_n hx hb dX4_why_8 rfl (lv_at hl 2 rfl) ?_
    refine cc_i (wc := []) (wr := [(m_kind, .inl (cI, 10, .inl u_kind)), (m_floor, .inl (cI, 10, .inl u_floor)), (m_volume, .inl (cI, 10, .inl u_volume)), (m_size, .inl (cI, 10, .inl u_size)), (m_faces, .inl (cI, 10, .inl u_faces)), (m_ahead, .inl (cI, 100, .inl u_ahead)), (m_forms, .inl (cI, 3, .inl u_forms)), (m_when, .inl (cI, 10, .inl u_when)), (m_warmth, .inl (cI, 40, .inl u_warmth)), (m_degrees, .inl (cI, 6, .inl u_degrees)), (m_thousandths, .inl (cI, 6, .inl u_thousandths)), (y0, .inr (4, [.int num, .int pts, .int nw, .int en, .int gl, .int bw, .int sp, .int be, .ref m_kind, .ref m_floor, .ref m_volume, .ref m_size, .ref m_faces, .ref m_when, .ref m_ahead, .ref m_order, .ref m_tried, .ref m_chosen, .ref m_forms, .ref m_warmth, .ref m_degrees, .ref m_thousandths, .ref m_longest, .long ab, .long bl]))]) (va_runS (As := [.int d]) (rest := []) ⟨hx, hb, hml, hown, hts⟩ (c_X4_isDay l D cI cQ H.size d ) (va_cwS 1 hts gX4_why_X4_isDay rfl rfl rfl (by decide +kernel) ⟨Nat.le_of_ble_eq_true rfl, Nat.le_of_ble_eq_true rfl⟩) (preS (wc := []) hK hP hD hN [] rfl (by decide)) rfl rfl hl.1 rfl (lv_room (Nat.le_of_ble_eq_true rfl)) dX4_why_9 ⟨Nat.le_of_ble_eq_true rfl, Nat.le_of_ble_eq_true rfl⟩) hP hD hS hA [] [0, 1, 2, 3, 4, 5, 6, 7, 8, 9, 10, 11] rfl rfl (by decide) (by decide) (fun r_5 u H locs w_6 hP hD hS => ?_)
    have hP : va_P D vwCl [(m_kind, .inl (cI, 10, .inl u_kind)), (m_floor, .inl (cI, 10, .inl u_floor)), (m_volume, .inl (cI, 10, .inl u_volume)), (m_size, .inl (cI, 10, .inl u_size)), (m_faces, .inl (cI, 10, .inl u_faces)), (m_ahead, .inl (cI, 100, .inl u_ahead)), (m_forms, .inl (cI, 3, .inl u_forms)), (m_when, .inl (cI, 10, .inl u_when)), (m_warmth, .inl (cI, 40, .inl u_warmth)), (m_degrees, .inl (cI, 6, .inl u_degrees)), (m_thousandths, .inl (cI, 6, .inl u_thousandths)), (y0, .inr (4, [.int num, .int pts, .int nw, .int en, .int gl, .int bw, .int sp, .int be, .ref m_kind, .ref m_floor, .ref m_volume, .ref m_size, .ref m_faces, .ref m_when, .ref m_ahead, .ref m_order, .ref m_tried, .ref m_chosen, .ref m_forms, .ref m_warmth, .ref m_degrees, .ref m_thousandths, .ref m_longest, .long ab, .long bl]))] H := hP
    have hD : va_D A [(m_kind, .inl (cI, 10, .inl u_kind)), (m_floor, .inl (cI, 10, .inl u_floor)), (m_volume, .inl (cI, 10, .inl u_volume)), (m_size, .inl (cI, 10, .inl u_size)), (m_faces, .inl (cI, 10, .inl u_faces)), (m_ahead, .inl (cI, 100, .inl u_ahead)), (m_forms, .inl (cI, 3, .inl u_forms)), (m_when, .inl (cI, 10, .inl u_when)), (m_warmth, .inl (cI, 40, .inl u_warmth)), (m_degrees, .inl (cI, 6, .inl u_degrees)), (m_thousandths, .inl (cI, 6, .inl u_thousandths)), (y0, .inr (4, [.int num, .int pts, .int nw, .int en, .int gl, .int bw, .int sp, .int be, .ref m_kind, .ref m_floor, .ref m_volume, .ref m_size, .ref m_faces, .ref m_when, .ref m_ahead, .ref m_order, .ref m_tried, .ref m_chosen, .ref m_forms, .ref m_warmth, .ref m_degrees, .ref m_thousandths, .ref m_longest, .long ab, .long bl]))] := hD
    have w_6 : r_5 = bDay d := w_6
    refine lv_if_eq (tgt := 24) hx hb dX4_why_12 (by decide) (fun c_8 => ?_) (fun c_8 => ?_)
    · refine lv_iconst (v := (-1)) hx hb dX4_why_24 (by decide) ?_
      refine W.widen (k := 0) (n := 0) (Nat.le_of_ble_eq_true rfl) (Nat.le_of_ble_eq_true rfl) ?_
      exact fi_i () hx hb hr hlocks hK (hP.sub [11, 0, 1, 2, 3, 4, 5, 6, 7, 8, 9, 10] rfl) (hD.sub [11, 0, 1, 2, 3, 4, 5, 6, 7, 8, 9, 10] (by decide) rfl) hS trivial dX4_why_25
    · refine lv_aload_n hx hb dX4_why_15 rfl (lv_at hl 0 rfl) ?_
      refine lv_iload_n hx hb dX4_why_16 rfl (lv_at hl 1 rfl) ?_
      refine lv_iload_n hx hb dX4_why_17 rfl (lv_at hl 2 rfl) ?_
      refine cc_i (wc := [(y0, .inr (4, [.int num, .int pts, .int nw, .int en, .int gl, .int bw, .int sp, .int be, .ref m_kind, .ref m_floor, .ref m_volume, .ref m_size, .ref m_faces, .ref m_when, .ref m_ahead, .ref m_order, .ref m_tried, .ref m_chosen, .ref m_forms, .ref m_warmth, .ref m_degrees, .ref m_thousandths, .ref m_longest, .long ab, .long bl])), (m_kind, .inl (cI, 10, .inl u_kind)), (m_floor, .inl (cI, 10, .inl u_floor)), (m_volume, .inl (cI, 10, .inl u_volume)), (m_size, .inl (cI, 10, .inl u_size)), (m_faces, .inl (cI, 10, .inl u_faces)), (m_ahead, .inl (cI, 100, .inl u_ahead)), (m_forms, .inl (cI, 3, .inl u_forms)), (m_when, .inl (cI, 10, .inl u_when)), (m_warmth, .inl (cI, 40, .inl u_warmth)), (m_degrees, .inl (cI, 6, .inl u_degrees)), (m_thousandths, .inl (cI, 6, .inl u_thousandths))]) (wr := []) (va_runV (As := [.int a, .int d]) (rest := []) ⟨hx, hb, hml, hown, hts⟩ (c_X4_hinders l D cI cQ H.size y0 m_kind m_floor m_volume m_size m_faces m_ahead m_forms m_when m_warmth m_degrees m_thousandths m_order m_tried m_chosen m_longest num pts nw en gl bw sp be ab bl u_kind u_floor u_volume u_size u_faces u_ahead u_forms u_when u_warmth u_degrees u_thousandths a d (pf_X4_why_1 num pts u_size u_when u_degrees a d r_1 r_5 hn0 hn1 hp0 hp6 hdg hwh hz w_2 c_4 w_6 c_8) (pf_X4_why_2 num pts u_size u_when u_degrees a d r_1 r_5 hn0 hn1 hp0 hp6 hdg hwh hz w_2 c_4 w_6 c_8) (pf_X4_why_3 num pts u_size u_when u_degrees a d r_1 r_5 hn0 hn1 hp0 hp6 hdg hwh hz w_2 c_4 w_6 c_8) (pf_X4_why_4 num pts u_size u_when u_degrees a d r_1 r_5 hn0 hn1 hp0 hp6 hdg hwh hz w_2 c_4 w_6 c_8) (pf_X4_why_5 num pts u_size u_when u_degrees a d r_1 r_5 hn0 hn1 hp0 hp6 hdg hwh hz w_2 c_4 w_6 c_8) (pf_X4_why_6 num pts u_size u_when u_degrees a d r_1 r_5 hn0 hn1 hp0 hp6 hdg hwh hz w_2 c_4 w_6 c_8) (pf_X4_why_7 num pts u_size u_when u_degrees a d r_1 r_5 hn0 hn1 hp0 hp6 hdg hwh hz w_2 c_4 w_6 c_8) (pf_X4_why_8 num pts u_size u_when u_degrees a d r_1 r_5 hn0 hn1 hp0 hp6 hdg hwh hz w_2 c_4 w_6 c_8) (pf_X4_why_9 num pts u_size u_when u_degrees a d r_1 r_5 hn0 hn1 hp0 hp6 hdg hwh hz w_2 c_4 w_6 c_8) (pf_X4_why_10 num pts u_size u_when u_degrees a d r_1 r_5 hn0 hn1 hp0 hp6 hdg hwh hz w_2 c_4 w_6 c_8)) (cwV 2 hts gX4_why_X4_hinders rfl rfl rfl (by decide +kernel) ⟨Nat.le_of_ble_eq_true rfl, Nat.le_of_ble_eq_true rfl⟩) (preV (wc := [(y0, .inr (4, [.int num, .int pts, .int nw, .int en, .int gl, .int bw, .int sp, .int be, .ref m_kind, .ref m_floor, .ref m_volume, .ref m_size, .ref m_faces, .ref m_when, .ref m_ahead, .ref m_order, .ref m_tried, .ref m_chosen, .ref m_forms, .ref m_warmth, .ref m_degrees, .ref m_thousandths, .ref m_longest, .long ab, .long bl])), (m_kind, .inl (cI, 10, .inl u_kind)), (m_floor, .inl (cI, 10, .inl u_floor)), (m_volume, .inl (cI, 10, .inl u_volume)), (m_size, .inl (cI, 10, .inl u_size)), (m_faces, .inl (cI, 10, .inl u_faces)), (m_ahead, .inl (cI, 100, .inl u_ahead)), (m_forms, .inl (cI, 3, .inl u_forms)), (m_when, .inl (cI, 10, .inl u_when)), (m_warmth, .inl (cI, 40, .inl u_warmth)), (m_degrees, .inl (cI, 6, .inl u_degrees)), (m_thousandths, .inl (cI, 6, .inl u_thousandths))]) (ci := 4) (q0 := 11) hK hP hD hN [11, 0, 1, 2, 3, 4, 5, 6, 7, 8, 9, 10] rfl (by decide) rfl rfl) rfl rfl hl.1 rfl (lv_room (Nat.le_of_ble_eq_true rfl)) dX4_why_18 ⟨Nat.le_of_ble_eq_true rfl, Nat.le_of_ble_eq_true rfl⟩) hP hD hS hA [11, 0, 1, 2, 3, 4, 5, 6, 7, 8, 9, 10] [] rfl rfl (by decide) (by decide) (fun r_9 u H locs w_10 hP hD hS => ?_)
      have hP : va_P D vwCl [(y0, .inr (4, [.int num, .int pts, .int nw, .int en, .int gl, .int bw, .int sp, .int be, .ref m_kind, .ref m_floor, .ref m_volume, .ref m_size, .ref m_faces, .ref m_when, .ref m_ahead, .ref m_order, .ref m_tried, .ref m_chosen, .ref m_forms, .ref m_warmth, .ref m_degrees, .ref m_thousandths, .ref m_longest, .long ab, .long bl])), (m_kind, .inl (cI, 10, .inl u_kind)), (m_floor, .inl (cI, 10, .inl u_floor)), (m_volume, .inl (cI, 10, .inl u_volume)), (m_size, .inl (cI, 10, .inl u_size)), (m_faces, .inl (cI, 10, .inl u_faces)), (m_ahead, .inl (cI, 100, .inl u_ahead)), (m_forms, .inl (cI, 3, .inl u_forms)), (m_when, .inl (cI, 10, .inl u_when)), (m_warmth, .inl (cI, 40, .inl u_warmth)), (m_degrees, .inl (cI, 6, .inl u_degrees)), (m_thousandths, .inl (cI, 6, .inl u_thousandths))] H := hP
      have hD : va_D A [(y0, .inr (4, [.int num, .int pts, .int nw, .int en, .int gl, .int bw, .int sp, .int be, .ref m_kind, .ref m_floor, .ref m_volume, .ref m_size, .ref m_faces, .ref m_when, .ref m_ahead, .ref m_order, .ref m_tried, .ref m_chosen, .ref m_forms, .ref m_warmth, .ref m_degrees, .ref m_thousandths, .ref m_longest, .long ab, .long bl])), (m_kind, .inl (cI, 10, .inl u_kind)), (m_floor, .inl (cI, 10, .inl u_floor)), (m_volume, .inl (cI, 10, .inl u_volume)), (m_size, .inl (cI, 10, .inl u_size)), (m_faces, .inl (cI, 10, .inl u_faces)), (m_ahead, .inl (cI, 100, .inl u_ahead)), (m_forms, .inl (cI, 3, .inl u_forms)), (m_when, .inl (cI, 10, .inl u_when)), (m_warmth, .inl (cI, 40, .inl u_warmth)), (m_degrees, .inl (cI, 6, .inl u_degrees)), (m_thousandths, .inl (cI, 6, .inl u_thousandths))] := hD
      refine lv_goto (tgt := 25) hx hb dX4_why_21 (by decide) ?_
      refine W.widen (k := 0) (n := 0) (Nat.le_of_ble_eq_true rfl) (Nat.le_of_ble_eq_true rfl) ?_
      exact fi_i () hx hb hr hlocks hK (hP.sub [0, 1, 2, 3, 4, 5, 6, 7, 8, 9, 10, 11] rfl) (hD.sub [0, 1, 2, 3, 4, 5, 6, 7, 8, 9, 10, 11] (by decide) rfl) hS trivial dX4_why_25

set_option maxHeartbeats 1000000 in
theorem pf_X4_free_1 (num : Int32) (pts : Int32) (u_when : Nat → Int32) (u_degrees : Nat → Int32) (s1 : Int32) (d : Int32) (r_3 : Int32) (hn0 : 0 ≤ num) (hn1 : num ≤ 10) (hp0 : 0 ≤ pts) (hp6 : pts ≤ 6) (hdg : okDeg u_degrees pts) (hwh : okWh u_when) (c_1 : ¬ s1 < 0) (c_2 : ¬ 2 < s1) (w_4 : r_3 = bDay d) (c_6 : ¬ r_3 = 0) : 0 ≤ num := by
  grind [bDay]
set_option maxHeartbeats 1000000 in
theorem pf_X4_free_2 (num : Int32) (pts : Int32) (u_when : Nat → Int32) (u_degrees : Nat → Int32) (s1 : Int32) (d : Int32) (r_3 : Int32) (hn0 : 0 ≤ num) (hn1 : num ≤ 10) (hp0 : 0 ≤ pts) (hp6 : pts ≤ 6) (hdg : okDeg u_degrees pts) (hwh : okWh u_when) (c_1 : ¬ s1 < 0) (c_2 : ¬ 2 < s1) (w_4 : r_3 = bDay d) (c_6 : ¬ r_3 = 0) : num ≤ 10 := by
  grind [bDay]
set_option maxHeartbeats 1000000 in
theorem pf_X4_free_3 (num : Int32) (pts : Int32) (u_when : Nat → Int32) (u_degrees : Nat → Int32) (s1 : Int32) (d : Int32) (r_3 : Int32) (hn0 : 0 ≤ num) (hn1 : num ≤ 10) (hp0 : 0 ≤ pts) (hp6 : pts ≤ 6) (hdg : okDeg u_degrees pts) (hwh : okWh u_when) (c_1 : ¬ s1 < 0) (c_2 : ¬ 2 < s1) (w_4 : r_3 = bDay d) (c_6 : ¬ r_3 = 0) : 0 ≤ pts := by
  grind [bDay]
set_option maxHeartbeats 1000000 in
theorem pf_X4_free_4 (num : Int32) (pts : Int32) (u_when : Nat → Int32) (u_degrees : Nat → Int32) (s1 : Int32) (d : Int32) (r_3 : Int32) (hn0 : 0 ≤ num) (hn1 : num ≤ 10) (hp0 : 0 ≤ pts) (hp6 : pts ≤ 6) (hdg : okDeg u_degrees pts) (hwh : okWh u_when) (c_1 : ¬ s1 < 0) (c_2 : ¬ 2 < s1) (w_4 : r_3 = bDay d) (c_6 : ¬ r_3 = 0) : pts ≤ 6 := by
  grind [bDay]
set_option maxHeartbeats 1000000 in
theorem pf_X4_free_5 (num : Int32) (pts : Int32) (u_when : Nat → Int32) (u_degrees : Nat → Int32) (s1 : Int32) (d : Int32) (r_3 : Int32) (hn0 : 0 ≤ num) (hn1 : num ≤ 10) (hp0 : 0 ≤ pts) (hp6 : pts ≤ 6) (hdg : okDeg u_degrees pts) (hwh : okWh u_when) (c_1 : ¬ s1 < 0) (c_2 : ¬ 2 < s1) (w_4 : r_3 = bDay d) (c_6 : ¬ r_3 = 0) : okDeg u_degrees pts := by
  exact hdg
set_option maxHeartbeats 1000000 in
theorem pf_X4_free_6 (num : Int32) (pts : Int32) (u_when : Nat → Int32) (u_degrees : Nat → Int32) (s1 : Int32) (d : Int32) (r_3 : Int32) (hn0 : 0 ≤ num) (hn1 : num ≤ 10) (hp0 : 0 ≤ pts) (hp6 : pts ≤ 6) (hdg : okDeg u_degrees pts) (hwh : okWh u_when) (c_1 : ¬ s1 < 0) (c_2 : ¬ 2 < s1) (w_4 : r_3 = bDay d) (c_6 : ¬ r_3 = 0) : okWh u_when := by
  exact hwh
set_option maxHeartbeats 1000000 in
theorem pf_X4_free_7 (num : Int32) (pts : Int32) (u_when : Nat → Int32) (u_degrees : Nat → Int32) (s1 : Int32) (d : Int32) (r_3 : Int32) (hn0 : 0 ≤ num) (hn1 : num ≤ 10) (hp0 : 0 ≤ pts) (hp6 : pts ≤ 6) (hdg : okDeg u_degrees pts) (hwh : okWh u_when) (c_1 : ¬ s1 < 0) (c_2 : ¬ 2 < s1) (w_4 : r_3 = bDay d) (c_6 : ¬ r_3 = 0) : vp_in s1 3 := by
  exact vi_in (M := 3) rfl (by grind) (by grind)
set_option maxHeartbeats 4000000 in
set_option maxRecDepth 100000 in
theorem c_X4_free (l : Launch) (D : va_G) (cI cQ : ClassId) (sz : Nat) (y0 : Nat) (m_forms : Nat) (m_size : Nat) (m_faces : Nat) (m_when : Nat) (m_warmth : Nat) (m_degrees : Nat) (m_thousandths : Nat) (m_kind : Nat) (m_floor : Nat) (m_volume : Nat) (m_ahead : Nat) (m_order : Nat) (m_tried : Nat) (m_chosen : Nat) (m_longest : Nat) (num : Int32) (pts : Int32) (nw : Int32) (en : Int32) (gl : Int32) (bw : Int32) (sp : Int32) (be : Int32) (ab : Int64) (bl : Int64) (u_forms : Nat → Int32) (u_size : Nat → Int32) (u_faces : Nat → Int32) (u_when : Nat → Int32) (u_warmth : Nat → Int32) (u_degrees : Nat → Int32) (u_thousandths : Nat → Int32) (s1 : Int32) (d : Int32) (hn0 : 0 ≤ num) (hn1 : num ≤ 10) (hp0 : 0 ≤ pts) (hp6 : pts ≤ 6) (hdg : okDeg u_degrees pts) (hwh : okWh u_when) : CtI l yX4_free wsX4_free 5 117 0 0 [.ref y0, .int s1, .int d] D [(cI, .int), (cQ, .array .int)] [(y0, .inr (4, [.int num, .int pts, .int nw, .int en, .int gl, .int bw, .int sp, .int be, .ref m_kind, .ref m_floor, .ref m_volume, .ref m_size, .ref m_faces, .ref m_when, .ref m_ahead, .ref m_order, .ref m_tried, .ref m_chosen, .ref m_forms, .ref m_warmth, .ref m_degrees, .ref m_thousandths, .ref m_longest, .long ab, .long bl])), (m_forms, .inl (cI, 3, .inl u_forms)), (m_size, .inl (cI, 10, .inl u_size)), (m_faces, .inl (cI, 10, .inl u_faces)), (m_when, .inl (cI, 10, .inl u_when)), (m_warmth, .inl (cI, 40, .inl u_warmth)), (m_degrees, .inl (cI, 6, .inl u_degrees)), (m_thousandths, .inl (cI, 6, .inl u_thousandths))] sz (fun (r : Int32) (u : Unit) => True) (fun (u : Unit) => [(y0, .inr (4, [.int num, .int pts, .int nw, .int en, .int gl, .int bw, .int sp, .int be, .ref m_kind, .ref m_floor, .ref m_volume, .ref m_size, .ref m_faces, .ref m_when, .ref m_ahead, .ref m_order, .ref m_tried, .ref m_chosen, .ref m_forms, .ref m_warmth, .ref m_degrees, .ref m_thousandths, .ref m_longest, .long ab, .long bl])), (m_forms, .inl (cI, 3, .inl u_forms)), (m_size, .inl (cI, 10, .inl u_size)), (m_faces, .inl (cI, 10, .inl u_faces)), (m_when, .inl (cI, 10, .inl u_when)), (m_warmth, .inl (cI, 40, .inl u_warmth)), (m_degrees, .inl (cI, 6, .inl u_degrees)), (m_thousandths, .inl (cI, 6, .inl u_thousandths))]) := by
  refine Met.ofW (cc := cX4_free) (maxL := 3) (ret := (some .int)) (by decide) rfl ?_
  intro p e s m args below meth c s₁ B hml hv
  obtain ⟨rfl, hsz, hP, hK, hD0, hN⟩ := hv
  have hx := B.exec
  have hb := B.bytes
  have hr := B.returns
  have hts := atoms_spec (ws := wsX4_free) B.pre
  have hown : s.vm.findClass RX4 = some m.cls := findClass_of_methodNamed B.named
  have hlocks := B.notSynchronized
  subst hsz
  have hD := hD0.self (sz := s.heap.size)
  generalize hAe : va_A [(y0, .inr (4, [.int num, .int pts, .int nw, .int en, .int gl, .int bw, .int sp, .int be, .ref m_kind, .ref m_floor, .ref m_volume, .ref m_size, .ref m_faces, .ref m_when, .ref m_ahead, .ref m_order, .ref m_tried, .ref m_chosen, .ref m_forms, .ref m_warmth, .ref m_degrees, .ref m_thousandths, .ref m_longest, .long ab, .long bl])), (m_forms, .inl (cI, 3, .inl u_forms)), (m_size, .inl (cI, 10, .inl u_size)), (m_faces, .inl (cI, 10, .inl u_faces)), (m_when, .inl (cI, 10, .inl u_when)), (m_warmth, .inl (cI, 40, .inl u_warmth)), (m_degrees, .inl (cI, 6, .inl u_degrees)), (m_thousandths, .inl (cI, 6, .inl u_thousandths))] s.heap.size = A at hD ⊢
  have hA : ∀ q : Nat, s.heap.size ≤ q → A q := fun q h => by rw [← hAe]; exact Or.inr h
  have hS : va_S A s.heap s.heap [] := va_S.rf
  have hl := lv_entry ([.ref y0, .int s1, .int d]) (n := 3) (Nat.le_of_ble_eq_true rfl)
  rw [lg_entry_eq]
  generalize (lg_sl ([.ref y0, .int s1, .int d]) ++ List.replicate (3 - (lg_sl ([.ref y0, .int s1, .int d])).length) Slot.unset).toArray = ls at hl ⊢
  have hl : lv_has ls 3 [(0, .ref y0), (1, .int s1), (2, .int d)] := hl
  have hP0 := hP
  refine lv_iload_n hx hb dX4_free_0 rfl (lv_at hl 1 rfl) ?_
  refine lv_if_lt (tgt := 26) hx hb dX4_free_1 (by decide) (fun c_1 => ?_) (fun c_1 => ?_)
  · refine lv_iconst (v := (-1)) hx hb dX4_free_26 (by decide) ?_
    refine W.widen (k := 0) (n := 0) (Nat.le_of_ble_eq_true rfl) (Nat.le_of_ble_eq_true rfl) ?_
    exact fi_i () hx hb hr hlocks hK (hP.sub [0, 1, 2, 3, 4, 5, 6, 7] rfl) (hD.sub [0, 1, 2, 3, 4, 5, 6, 7] (by decide) rfl) hS trivial dX4_free_27
  · refine lv_iload_n hx hb dX4_free_4 rfl (lv_at hl 1 rfl) ?_
    refine lv_iconst (v := 2) hx hb dX4_free_5 (by decide) ?_
    refine lv_icmp_gt (tgt := 26) hx hb dX4_free_6 (by decide) (fun c_2 => ?_) (fun c_2 => ?_)
    · refine lv_iconst (v := (-1)) hx hb dX4_free_26 (by decide) ?_
      refine W.widen (k := 0) (n := 0) (Nat.le_of_ble_eq_true rfl) (Nat.le_of_ble_eq_true rfl) ?_
      exact fi_i () hx hb hr hlocks hK (hP.sub [0, 1, 2, 3, 4, 5, 6, 7] rfl) (hD.sub [0, 1, 2, 3, 4, 5, 6, 7] (by decide) rfl) hS trivial dX4_free_27
    · refine lv_iload_n hx hb dX4_free_9 rfl (lv_at hl 2 rfl) ?_
      refine cc_i (wc := []) (wr := [(y0, .inr (4, [.int num, .int pts, .int nw, .int en, .int gl, .int bw, .int sp, .int be, .ref m_kind, .ref m_floor, .ref m_volume, .ref m_size, .ref m_faces, .ref m_when, .ref m_ahead, .ref m_order, .ref m_tried, .ref m_chosen, .ref m_forms, .ref m_warmth, .ref m_degrees, .ref m_thousandths, .ref m_longest, .long ab, .long bl])), (m_forms, .inl (cI, 3, .inl u_forms)), (m_size, .inl (cI, 10, .inl u_size)), (m_faces, .inl (cI, 10, .inl u_faces)), (m_when, .inl (cI, 10, .inl u_when)), (m_warmth, .inl (cI, 40, .inl u_warmth)), (m_degrees, .inl (cI, 6, .inl u_degrees)), (m_thousandths, .inl (cI, 6, .inl u_thousandths))]) (va_runS (As := [.int d]) (rest := []) ⟨hx, hb, hml, hown, hts⟩ (c_X4_isDay l D cI cQ s.heap.size d ) (va_cwS 1 hts gX4_free_X4_isDay rfl rfl rfl (by decide +kernel) ⟨Nat.le_of_ble_eq_true rfl, Nat.le_of_ble_eq_true rfl⟩) (preS (wc := []) hK hP hD hN [] rfl (by decide)) rfl rfl hl.1 rfl (lv_room (Nat.le_of_ble_eq_true rfl)) dX4_free_10 ⟨Nat.le_of_ble_eq_true rfl, Nat.le_of_ble_eq_true rfl⟩) hP hD hS hA [] [0, 1, 2, 3, 4, 5, 6, 7] rfl rfl (by decide) (by decide) (fun r_3 u H locs w_4 hP hD hS => ?_)
      have hP : va_P D vwCl [(y0, .inr (4, [.int num, .int pts, .int nw, .int en, .int gl, .int bw, .int sp, .int be, .ref m_kind, .ref m_floor, .ref m_volume, .ref m_size, .ref m_faces, .ref m_when, .ref m_ahead, .ref m_order, .ref m_tried, .ref m_chosen, .ref m_forms, .ref m_warmth, .ref m_degrees, .ref m_thousandths, .ref m_longest, .long ab, .long bl])), (m_forms, .inl (cI, 3, .inl u_forms)), (m_size, .inl (cI, 10, .inl u_size)), (m_faces, .inl (cI, 10, .inl u_faces)), (m_when, .inl (cI, 10, .inl u_when)), (m_warmth, .inl (cI, 40, .inl u_warmth)), (m_degrees, .inl (cI, 6, .inl u_degrees)), (m_thousandths, .inl (cI, 6, .inl u_thousandths))] H := hP
      have hD : va_D A [(y0, .inr (4, [.int num, .int pts, .int nw, .int en, .int gl, .int bw, .int sp, .int be, .ref m_kind, .ref m_floor, .ref m_volume, .ref m_size, .ref m_faces, .ref m_when, .ref m_ahead, .ref m_order, .ref m_tried, .ref m_chosen, .ref m_forms, .ref m_warmth, .ref m_degrees, .ref m_thousandths, .ref m_longest, .long ab, .long bl])), (m_forms, .inl (cI, 3, .inl u_forms)), (m_size, .inl (cI, 10, .inl u_size)), (m_faces, .inl (cI, 10, .inl u_faces)), (m_when, .inl (cI, 10, .inl u_when)), (m_warmth, .inl (cI, 40, .inl u_warmth)), (m_degrees, .inl (cI, 6, .inl u_degrees)), (m_thousandths, .inl (cI, 6, .inl u_thousandths))] := hD
      have w_4 : r_3 = bDay d := w_4
      refine lv_if_eq (tgt := 26) hx hb dX4_free_13 (by decide) (fun c_6 => ?_) (fun c_6 => ?_)
      · refine lv_iconst (v := (-1)) hx hb dX4_free_26 (by decide) ?_
        refine W.widen (k := 0) (n := 0) (Nat.le_of_ble_eq_true rfl) (Nat.le_of_ble_eq_true rfl) ?_
        exact fi_i () hx hb hr hlocks hK (hP.sub [0, 1, 2, 3, 4, 5, 6, 7] rfl) (hD.sub [0, 1, 2, 3, 4, 5, 6, 7] (by decide) rfl) hS trivial dX4_free_27
      · refine lv_aload_n hx hb dX4_free_16 rfl (lv_at hl 0 rfl) ?_
        refine lv_iload_n hx hb dX4_free_17 rfl (lv_at hl 1 rfl) ?_
        refine lv_iload_n hx hb dX4_free_18 rfl (lv_at hl 2 rfl) ?_
        refine lv_iconst (v := (-1)) hx hb dX4_free_19 (by decide) ?_
        refine cc_i (wc := [(y0, .inr (4, [.int num, .int pts, .int nw, .int en, .int gl, .int bw, .int sp, .int be, .ref m_kind, .ref m_floor, .ref m_volume, .ref m_size, .ref m_faces, .ref m_when, .ref m_ahead, .ref m_order, .ref m_tried, .ref m_chosen, .ref m_forms, .ref m_warmth, .ref m_degrees, .ref m_thousandths, .ref m_longest, .long ab, .long bl])), (m_forms, .inl (cI, 3, .inl u_forms)), (m_size, .inl (cI, 10, .inl u_size)), (m_faces, .inl (cI, 10, .inl u_faces)), (m_when, .inl (cI, 10, .inl u_when)), (m_warmth, .inl (cI, 40, .inl u_warmth)), (m_degrees, .inl (cI, 6, .inl u_degrees)), (m_thousandths, .inl (cI, 6, .inl u_thousandths))]) (wr := []) (va_runV (As := [.int s1, .int d, .int (-1)]) (rest := []) ⟨hx, hb, hml, hown, hts⟩ (c_X4_freeOf l D cI cQ H.size y0 m_forms m_size m_faces m_when m_warmth m_degrees m_thousandths m_kind m_floor m_volume m_ahead m_order m_tried m_chosen m_longest num pts nw en gl bw sp be ab bl u_forms u_size u_faces u_when u_warmth u_degrees u_thousandths s1 d (-1) (pf_X4_free_1 num pts u_when u_degrees s1 d r_3 hn0 hn1 hp0 hp6 hdg hwh c_1 c_2 w_4 c_6) (pf_X4_free_2 num pts u_when u_degrees s1 d r_3 hn0 hn1 hp0 hp6 hdg hwh c_1 c_2 w_4 c_6) (pf_X4_free_3 num pts u_when u_degrees s1 d r_3 hn0 hn1 hp0 hp6 hdg hwh c_1 c_2 w_4 c_6) (pf_X4_free_4 num pts u_when u_degrees s1 d r_3 hn0 hn1 hp0 hp6 hdg hwh c_1 c_2 w_4 c_6) (pf_X4_free_5 num pts u_when u_degrees s1 d r_3 hn0 hn1 hp0 hp6 hdg hwh c_1 c_2 w_4 c_6) (pf_X4_free_6 num pts u_when u_degrees s1 d r_3 hn0 hn1 hp0 hp6 hdg hwh c_1 c_2 w_4 c_6) (pf_X4_free_7 num pts u_when u_degrees s1 d r_3 hn0 hn1 hp0 hp6 hdg hwh c_1 c_2 w_4 c_6)) (cwV 3 hts gX4_free_X4_freeOf rfl rfl rfl (by decide +kernel) ⟨Nat.le_of_ble_eq_true rfl, Nat.le_of_ble_eq_true rfl⟩) (preV (wc := [(y0, .inr (4, [.int num, .int pts, .int nw, .int en, .int gl, .int bw, .int sp, .int be, .ref m_kind, .ref m_floor, .ref m_volume, .ref m_size, .ref m_faces, .ref m_when, .ref m_ahead, .ref m_order, .ref m_tried, .ref m_chosen, .ref m_forms, .ref m_warmth, .ref m_degrees, .ref m_thousandths, .ref m_longest, .long ab, .long bl])), (m_forms, .inl (cI, 3, .inl u_forms)), (m_size, .inl (cI, 10, .inl u_size)), (m_faces, .inl (cI, 10, .inl u_faces)), (m_when, .inl (cI, 10, .inl u_when)), (m_warmth, .inl (cI, 40, .inl u_warmth)), (m_degrees, .inl (cI, 6, .inl u_degrees)), (m_thousandths, .inl (cI, 6, .inl u_thousandths))]) (ci := 4) (q0 := 0) hK hP hD hN [0, 1, 2, 3, 4, 5, 6, 7] rfl (by decide) rfl rfl) rfl rfl hl.1 rfl (lv_room (Nat.le_of_ble_eq_true rfl)) dX4_free_20 ⟨Nat.le_of_ble_eq_true rfl, Nat.le_of_ble_eq_true rfl⟩) hP hD hS hA [0, 1, 2, 3, 4, 5, 6, 7] [] rfl rfl (by decide) (by decide) (fun r_7 u H locs w_8 hP hD hS => ?_)
        have hP : va_P D vwCl [(y0, .inr (4, [.int num, .int pts, .int nw, .int en, .int gl, .int bw, .int sp, .int be, .ref m_kind, .ref m_floor, .ref m_volume, .ref m_size, .ref m_faces, .ref m_when, .ref m_ahead, .ref m_order, .ref m_tried, .ref m_chosen, .ref m_forms, .ref m_warmth, .ref m_degrees, .ref m_thousandths, .ref m_longest, .long ab, .long bl])), (m_forms, .inl (cI, 3, .inl u_forms)), (m_size, .inl (cI, 10, .inl u_size)), (m_faces, .inl (cI, 10, .inl u_faces)), (m_when, .inl (cI, 10, .inl u_when)), (m_warmth, .inl (cI, 40, .inl u_warmth)), (m_degrees, .inl (cI, 6, .inl u_degrees)), (m_thousandths, .inl (cI, 6, .inl u_thousandths))] H := hP
        have hD : va_D A [(y0, .inr (4, [.int num, .int pts, .int nw, .int en, .int gl, .int bw, .int sp, .int be, .ref m_kind, .ref m_floor, .ref m_volume, .ref m_size, .ref m_faces, .ref m_when, .ref m_ahead, .ref m_order, .ref m_tried, .ref m_chosen, .ref m_forms, .ref m_warmth, .ref m_degrees, .ref m_thousandths, .ref m_longest, .long ab, .long bl])), (m_forms, .inl (cI, 3, .inl u_forms)), (m_size, .inl (cI, 10, .inl u_size)), (m_faces, .inl (cI, 10, .inl u_faces)), (m_when, .inl (cI, 10, .inl u_when)), (m_warmth, .inl (cI, 40, .inl u_warmth)), (m_degrees, .inl (cI, 6, .inl u_degrees)), (m_thousandths, .inl (cI, 6, .inl u_thousandths))] := hD
        refine lv_goto (tgt := 27) hx hb dX4_free_23 (by decide) ?_
        refine W.widen (k := 0) (n := 0) (Nat.le_of_ble_eq_true rfl) (Nat.le_of_ble_eq_true rfl) ?_
        exact fi_i () hx hb hr hlocks hK (hP.sub [0, 1, 2, 3, 4, 5, 6, 7] rfl) (hD.sub [0, 1, 2, 3, 4, 5, 6, 7] (by decide) rfl) hS trivial dX4_free_27

set_option maxHeartbeats 1000000 in
theorem pf_X4_poured_1 (num : Int32) (d : Int32) (r_1 : Int32) (hn0 : 0 ≤ num) (hn1 : num ≤ 10) (w_2 : r_1 = bDay d) (c_4 : ¬ r_1 = 0) : 0 ≤ num := by
  grind
set_option maxHeartbeats 1000000 in
theorem pf_X4_poured_2 (num : Int32) (d : Int32) (r_1 : Int32) (hn0 : 0 ≤ num) (hn1 : num ≤ 10) (w_2 : r_1 = bDay d) (c_4 : ¬ r_1 = 0) : num ≤ 10 := by
  grind
set_option maxHeartbeats 4000000 in
set_option maxRecDepth 100000 in
theorem c_X4_poured (l : Launch) (D : va_G) (cI cQ : ClassId) (sz : Nat) (y0 : Nat) (m_volume : Nat) (m_when : Nat) (m_kind : Nat) (m_floor : Nat) (m_size : Nat) (m_faces : Nat) (m_ahead : Nat) (m_order : Nat) (m_tried : Nat) (m_chosen : Nat) (m_forms : Nat) (m_warmth : Nat) (m_degrees : Nat) (m_thousandths : Nat) (m_longest : Nat) (num : Int32) (pts : Int32) (nw : Int32) (en : Int32) (gl : Int32) (bw : Int32) (sp : Int32) (be : Int32) (ab : Int64) (bl : Int64) (u_volume : Nat → Int32) (u_when : Nat → Int32) (d : Int32) (hn0 : 0 ≤ num) (hn1 : num ≤ 10) : CtI l yX4_poured wsX4_poured 1 24 0 0 [.ref y0, .int d] D [(cI, .int), (cQ, .array .int)] [(y0, .inr (4, [.int num, .int pts, .int nw, .int en, .int gl, .int bw, .int sp, .int be, .ref m_kind, .ref m_floor, .ref m_volume, .ref m_size, .ref m_faces, .ref m_when, .ref m_ahead, .ref m_order, .ref m_tried, .ref m_chosen, .ref m_forms, .ref m_warmth, .ref m_degrees, .ref m_thousandths, .ref m_longest, .long ab, .long bl])), (m_volume, .inl (cI, 10, .inl u_volume)), (m_when, .inl (cI, 10, .inl u_when))] sz (fun (r : Int32) (u : Unit) => True) (fun (u : Unit) => [(y0, .inr (4, [.int num, .int pts, .int nw, .int en, .int gl, .int bw, .int sp, .int be, .ref m_kind, .ref m_floor, .ref m_volume, .ref m_size, .ref m_faces, .ref m_when, .ref m_ahead, .ref m_order, .ref m_tried, .ref m_chosen, .ref m_forms, .ref m_warmth, .ref m_degrees, .ref m_thousandths, .ref m_longest, .long ab, .long bl])), (m_volume, .inl (cI, 10, .inl u_volume)), (m_when, .inl (cI, 10, .inl u_when))]) := by
  refine Met.ofW (cc := cX4_poured) (maxL := 2) (ret := (some .int)) (by decide) rfl ?_
  intro p e s m args below meth c s₁ B hml hv
  obtain ⟨rfl, hsz, hP, hK, hD0, hN⟩ := hv
  have hx := B.exec
  have hb := B.bytes
  have hr := B.returns
  have hts := atoms_spec (ws := wsX4_poured) B.pre
  have hown : s.vm.findClass RX4 = some m.cls := findClass_of_methodNamed B.named
  have hlocks := B.notSynchronized
  subst hsz
  have hD := hD0.self (sz := s.heap.size)
  generalize hAe : va_A [(y0, .inr (4, [.int num, .int pts, .int nw, .int en, .int gl, .int bw, .int sp, .int be, .ref m_kind, .ref m_floor, .ref m_volume, .ref m_size, .ref m_faces, .ref m_when, .ref m_ahead, .ref m_order, .ref m_tried, .ref m_chosen, .ref m_forms, .ref m_warmth, .ref m_degrees, .ref m_thousandths, .ref m_longest, .long ab, .long bl])), (m_volume, .inl (cI, 10, .inl u_volume)), (m_when, .inl (cI, 10, .inl u_when))] s.heap.size = A at hD ⊢
  have hA : ∀ q : Nat, s.heap.size ≤ q → A q := fun q h => by rw [← hAe]; exact Or.inr h
  have hS : va_S A s.heap s.heap [] := va_S.rf
  have hl := lv_entry ([.ref y0, .int d]) (n := 2) (Nat.le_of_ble_eq_true rfl)
  rw [lg_entry_eq]
  generalize (lg_sl ([.ref y0, .int d]) ++ List.replicate (2 - (lg_sl ([.ref y0, .int d])).length) Slot.unset).toArray = ls at hl ⊢
  have hl : lv_has ls 2 [(0, .ref y0), (1, .int d)] := hl
  have hP0 := hP
  refine lv_iload_n hx hb dX4_poured_0 rfl (lv_at hl 1 rfl) ?_
  refine cc_i (wc := []) (wr := [(y0, .inr (4, [.int num, .int pts, .int nw, .int en, .int gl, .int bw, .int sp, .int be, .ref m_kind, .ref m_floor, .ref m_volume, .ref m_size, .ref m_faces, .ref m_when, .ref m_ahead, .ref m_order, .ref m_tried, .ref m_chosen, .ref m_forms, .ref m_warmth, .ref m_degrees, .ref m_thousandths, .ref m_longest, .long ab, .long bl])), (m_volume, .inl (cI, 10, .inl u_volume)), (m_when, .inl (cI, 10, .inl u_when))]) (va_runS (As := [.int d]) (rest := []) ⟨hx, hb, hml, hown, hts⟩ (c_X4_isDay l D cI cQ s.heap.size d ) (va_cwS 1 hts gX4_poured_X4_isDay rfl rfl rfl (by decide +kernel) ⟨Nat.le_of_ble_eq_true rfl, Nat.le_of_ble_eq_true rfl⟩) (preS (wc := []) hK hP hD hN [] rfl (by decide)) rfl rfl hl.1 rfl (lv_room (Nat.le_of_ble_eq_true rfl)) dX4_poured_1 ⟨Nat.le_of_ble_eq_true rfl, Nat.le_of_ble_eq_true rfl⟩) hP hD hS hA [] [0, 1, 2] rfl rfl (by decide) (by decide) (fun r_1 u H locs w_2 hP hD hS => ?_)
  have hP : va_P D vwCl [(y0, .inr (4, [.int num, .int pts, .int nw, .int en, .int gl, .int bw, .int sp, .int be, .ref m_kind, .ref m_floor, .ref m_volume, .ref m_size, .ref m_faces, .ref m_when, .ref m_ahead, .ref m_order, .ref m_tried, .ref m_chosen, .ref m_forms, .ref m_warmth, .ref m_degrees, .ref m_thousandths, .ref m_longest, .long ab, .long bl])), (m_volume, .inl (cI, 10, .inl u_volume)), (m_when, .inl (cI, 10, .inl u_when))] H := hP
  have hD : va_D A [(y0, .inr (4, [.int num, .int pts, .int nw, .int en, .int gl, .int bw, .int sp, .int be, .ref m_kind, .ref m_floor, .ref m_volume, .ref m_size, .ref m_faces, .ref m_when, .ref m_ahead, .ref m_order, .ref m_tried, .ref m_chosen, .ref m_forms, .ref m_warmth, .ref m_degrees, .ref m_thousandths, .ref m_longest, .long ab, .long bl])), (m_volume, .inl (cI, 10, .inl u_volume)), (m_when, .inl (cI, 10, .inl u_when))] := hD
  have w_2 : r_1 = bDay d := w_2
  refine lv_if_eq (tgt := 16) hx hb dX4_poured_4 (by decide) (fun c_4 => ?_) (fun c_4 => ?_)
  · refine lv_iconst (v := (-1)) hx hb dX4_poured_16 (by decide) ?_
    refine W.widen (k := 0) (n := 0) (Nat.le_of_ble_eq_true rfl) (Nat.le_of_ble_eq_true rfl) ?_
    exact fi_i () hx hb hr hlocks hK (hP.sub [0, 1, 2] rfl) (hD.sub [0, 1, 2] (by decide) rfl) hS trivial dX4_poured_17
  · refine lv_aload_n hx hb dX4_poured_7 rfl (lv_at hl 0 rfl) ?_
    refine lv_iload_n hx hb dX4_poured_8 rfl (lv_at hl 1 rfl) ?_
    refine lv_iconst (v := (-1)) hx hb dX4_poured_9 (by decide) ?_
    refine cc_i (wc := [(y0, .inr (4, [.int num, .int pts, .int nw, .int en, .int gl, .int bw, .int sp, .int be, .ref m_kind, .ref m_floor, .ref m_volume, .ref m_size, .ref m_faces, .ref m_when, .ref m_ahead, .ref m_order, .ref m_tried, .ref m_chosen, .ref m_forms, .ref m_warmth, .ref m_degrees, .ref m_thousandths, .ref m_longest, .long ab, .long bl])), (m_volume, .inl (cI, 10, .inl u_volume)), (m_when, .inl (cI, 10, .inl u_when))]) (wr := []) (va_runV (As := [.int d, .int (-1)]) (rest := []) ⟨hx, hb, hml, hown, hts⟩ (c_X4_volumes l D cI cQ H.size y0 m_volume m_when m_kind m_floor m_size m_faces m_ahead m_order m_tried m_chosen m_forms m_warmth m_degrees m_thousandths m_longest num pts nw en gl bw sp be ab bl u_volume u_when d (-1) (pf_X4_poured_1 num d r_1 hn0 hn1 w_2 c_4) (pf_X4_poured_2 num d r_1 hn0 hn1 w_2 c_4)) (cwV 2 hts gX4_poured_X4_volumes rfl rfl rfl (by decide +kernel) ⟨Nat.le_of_ble_eq_true rfl, Nat.le_of_ble_eq_true rfl⟩) (preV (wc := [(y0, .inr (4, [.int num, .int pts, .int nw, .int en, .int gl, .int bw, .int sp, .int be, .ref m_kind, .ref m_floor, .ref m_volume, .ref m_size, .ref m_faces, .ref m_when, .ref m_ahead, .ref m_order, .ref m_tried, .ref m_chosen, .ref m_forms, .ref m_warmth, .ref m_degrees, .ref m_thousandths, .ref m_longest, .long ab, .long bl])), (m_volume, .inl (cI, 10, .inl u_volume)), (m_when, .inl (cI, 10, .inl u_when))]) (ci := 4) (q0 := 0) hK hP hD hN [0, 1, 2] rfl (by decide) rfl rfl) rfl rfl hl.1 rfl (lv_room (Nat.le_of_ble_eq_true rfl)) dX4_poured_10 ⟨Nat.le_of_ble_eq_true rfl, Nat.le_of_ble_eq_true rfl⟩) hP hD hS hA [0, 1, 2] [] rfl rfl (by decide) (by decide) (fun r_5 u H locs w_6 hP hD hS => ?_)
    have hP : va_P D vwCl [(y0, .inr (4, [.int num, .int pts, .int nw, .int en, .int gl, .int bw, .int sp, .int be, .ref m_kind, .ref m_floor, .ref m_volume, .ref m_size, .ref m_faces, .ref m_when, .ref m_ahead, .ref m_order, .ref m_tried, .ref m_chosen, .ref m_forms, .ref m_warmth, .ref m_degrees, .ref m_thousandths, .ref m_longest, .long ab, .long bl])), (m_volume, .inl (cI, 10, .inl u_volume)), (m_when, .inl (cI, 10, .inl u_when))] H := hP
    have hD : va_D A [(y0, .inr (4, [.int num, .int pts, .int nw, .int en, .int gl, .int bw, .int sp, .int be, .ref m_kind, .ref m_floor, .ref m_volume, .ref m_size, .ref m_faces, .ref m_when, .ref m_ahead, .ref m_order, .ref m_tried, .ref m_chosen, .ref m_forms, .ref m_warmth, .ref m_degrees, .ref m_thousandths, .ref m_longest, .long ab, .long bl])), (m_volume, .inl (cI, 10, .inl u_volume)), (m_when, .inl (cI, 10, .inl u_when))] := hD
    refine lv_goto (tgt := 17) hx hb dX4_poured_13 (by decide) ?_
    refine W.widen (k := 0) (n := 0) (Nat.le_of_ble_eq_true rfl) (Nat.le_of_ble_eq_true rfl) ?_
    exact fi_i () hx hb hr hlocks hK (hP.sub [0, 1, 2] rfl) (hD.sub [0, 1, 2] (by decide) rfl) hS trivial dX4_poured_17

theorem iw_X4_count_4 : ∀ w ∈ wsX40, w ∈ wsX4_count := fun w h => (List.mem_cons_of_mem _ (List.mem_append_right _ h))
theorem wd_X4_count_1 : (.fieldLink RX4 67 "PourPlanModel" "pieces" "I" : Cond) ∈ wsX4_count := List.mem_of_getElem? (i := 1) rfl
theorem wd_X4_count_2 : (.fieldLink RX4 37 "PourPlanModel" "when" "[I" : Cond) ∈ wsX4_count := List.mem_of_getElem? (i := 2) rfl
theorem wd_X4_count_3 : (.fieldLink RX4 118 "PourPlanModel" "now" "I" : Cond) ∈ wsX4_count := List.mem_of_getElem? (i := 3) rfl
theorem wd_X4_count_4 : (.fieldLink RX4 88 "PourPlanModel" "points" "I" : Cond) ∈ wsX4_count := List.mem_of_getElem? (i := 4) rfl
theorem wd_X4_count_5 : (.fieldLink RX4 9 "PourPlanModel" "gang" "I" : Cond) ∈ wsX4_count := List.mem_of_getElem? (i := 5) rfl
theorem wd_X4_count_6 : (.fieldLink RX4 85 "PourPlanModel" "base" "I" : Cond) ∈ wsX4_count := List.mem_of_getElem? (i := 6) rfl
theorem wd_X4_count_7 : (.fieldLink RX4 128 "PourPlanModel" "end" "I" : Cond) ∈ wsX4_count := List.mem_of_getElem? (i := 7) rfl
set_option maxHeartbeats 1000000 in
theorem pf_X4_count_1 (num : Int32) (w : Int32) (n_53 : Nat) (k : Int32) (hn0 : 0 ≤ num) (hn1 : num ≤ 10) (c_1 : ¬ w = 0) (c_2 : w = 1) (hn_53 : 10 - k.toNatClampNeg < n_53 + 1) (h0k : 0 ≤ k) (c_3 : ¬ num ≤ k) : vp_in k 10 := by
  exact vi_in (M := 10) rfl (by grind) (by grind)
set_option maxHeartbeats 1000000 in
theorem pf_X4_count_2 (num : Int32) (u_when : Nat → Int32) (w : Int32) (n_53 : Nat) (k : Int32) (v_4 : Int32) (v_6 : Int32) (hn0 : 0 ≤ num) (hn1 : num ≤ 10) (c_1 : ¬ w = 0) (c_2 : w = 1) (hn_53 : 10 - k.toNatClampNeg < n_53 + 1) (h0k : 0 ≤ k) (c_3 : ¬ num ≤ k) (ev_4 : v_4 = u_when k.toNatClampNeg) (c_5 : v_4 = (-1)) (ev_6 : v_6 = k + 1) : 10 - v_6.toNatClampNeg < n_53 := by
  exact ms_dec (L := 10) (k := k) (by grind) (show ¬ (10 : Int32) ≤ k by grind) (by omega) (by assumption) hn_53
set_option maxHeartbeats 1000000 in
theorem pf_X4_count_3 (num : Int32) (u_when : Nat → Int32) (w : Int32) (n_53 : Nat) (k : Int32) (v_4 : Int32) (v_6 : Int32) (hn0 : 0 ≤ num) (hn1 : num ≤ 10) (c_1 : ¬ w = 0) (c_2 : w = 1) (hn_53 : 10 - k.toNatClampNeg < n_53 + 1) (h0k : 0 ≤ k) (c_3 : ¬ num ≤ k) (ev_4 : v_4 = u_when k.toNatClampNeg) (c_5 : v_4 = (-1)) (ev_6 : v_6 = k + 1) : 0 ≤ v_6 := by
  grind
set_option maxHeartbeats 1000000 in
theorem pf_X4_count_4 (num : Int32) (u_when : Nat → Int32) (w : Int32) (n_53 : Nat) (k : Int32) (kc : Int32) (v_4 : Int32) (v_7 : Int32) (v_8 : Int32) (hn0 : 0 ≤ num) (hn1 : num ≤ 10) (c_1 : ¬ w = 0) (c_2 : w = 1) (hn_53 : 10 - k.toNatClampNeg < n_53 + 1) (h0k : 0 ≤ k) (c_3 : ¬ num ≤ k) (ev_4 : v_4 = u_when k.toNatClampNeg) (c_5 : ¬ v_4 = (-1)) (ev_7 : v_7 = kc + 1) (ev_8 : v_8 = k + 1) : 10 - v_8.toNatClampNeg < n_53 := by
  exact ms_dec (L := 10) (k := k) (by grind) (show ¬ (10 : Int32) ≤ k by grind) (by omega) (by assumption) hn_53
set_option maxHeartbeats 1000000 in
theorem pf_X4_count_5 (num : Int32) (u_when : Nat → Int32) (w : Int32) (n_53 : Nat) (k : Int32) (kc : Int32) (v_4 : Int32) (v_7 : Int32) (v_8 : Int32) (hn0 : 0 ≤ num) (hn1 : num ≤ 10) (c_1 : ¬ w = 0) (c_2 : w = 1) (hn_53 : 10 - k.toNatClampNeg < n_53 + 1) (h0k : 0 ≤ k) (c_3 : ¬ num ≤ k) (ev_4 : v_4 = u_when k.toNatClampNeg) (c_5 : ¬ v_4 = (-1)) (ev_7 : v_7 = kc + 1) (ev_8 : v_8 = k + 1) : 0 ≤ v_8 := by
  grind
set_option maxHeartbeats 1000000 in
theorem pf_X4_count_6 (num : Int32) (w : Int32) (hn0 : 0 ≤ num) (hn1 : num ≤ 10) (c_1 : ¬ w = 0) (c_2 : w = 1) : 0 ≤ (0 : Int32) := by
  grind
set_option maxHeartbeats 1000000 in
theorem pf_X4_count_7 (num : Int32) (w : Int32) (hn0 : 0 ≤ num) (hn1 : num ≤ 10) (c_1 : ¬ w = 0) (c_2 : ¬ w = 1) (c_9 : ¬ w = 2) (c_10 : ¬ w = 3) (c_11 : ¬ w = 4) (c_12 : ¬ w = 5) (c_13 : ¬ w = 6) : (w).toInt < 0 ∨ 6 < (w).toInt := by
  exact tb_out (M := 6) rfl (by grind)
set_option maxHeartbeats 4000000 in
set_option maxRecDepth 100000 in
theorem c_X4_count (l : Launch) (D : va_G) (cI cQ : ClassId) (sz : Nat) (y0 : Nat) (m_when : Nat) (m_kind : Nat) (m_floor : Nat) (m_volume : Nat) (m_size : Nat) (m_faces : Nat) (m_ahead : Nat) (m_order : Nat) (m_tried : Nat) (m_chosen : Nat) (m_forms : Nat) (m_warmth : Nat) (m_degrees : Nat) (m_thousandths : Nat) (m_longest : Nat) (num : Int32) (pts : Int32) (nw : Int32) (en : Int32) (gl : Int32) (bw : Int32) (sp : Int32) (be : Int32) (ab : Int64) (bl : Int64) (u_when : Nat → Int32) (w : Int32) (hn0 : 0 ≤ num) (hn1 : num ≤ 10) : CtI l yX4_count wsX4_count 0 0 0 0 [.ref y0, .int w] D [(cI, .int), (cQ, .array .int)] [(y0, .inr (4, [.int num, .int pts, .int nw, .int en, .int gl, .int bw, .int sp, .int be, .ref m_kind, .ref m_floor, .ref m_volume, .ref m_size, .ref m_faces, .ref m_when, .ref m_ahead, .ref m_order, .ref m_tried, .ref m_chosen, .ref m_forms, .ref m_warmth, .ref m_degrees, .ref m_thousandths, .ref m_longest, .long ab, .long bl])), (m_when, .inl (cI, 10, .inl u_when))] sz (fun (r : Int32) (u : Unit) => True) (fun (u : Unit) => [(y0, .inr (4, [.int num, .int pts, .int nw, .int en, .int gl, .int bw, .int sp, .int be, .ref m_kind, .ref m_floor, .ref m_volume, .ref m_size, .ref m_faces, .ref m_when, .ref m_ahead, .ref m_order, .ref m_tried, .ref m_chosen, .ref m_forms, .ref m_warmth, .ref m_degrees, .ref m_thousandths, .ref m_longest, .long ab, .long bl])), (m_when, .inl (cI, 10, .inl u_when))]) := by
  refine Met.ofW (cc := cX4_count) (maxL := 4) (ret := (some .int)) (by decide) rfl ?_
  intro p e s m args below meth c s₁ B hml hv
  obtain ⟨rfl, hsz, hP, hK, hD0, hN⟩ := hv
  have hx := B.exec
  have hb := B.bytes
  have hr := B.returns
  have hts := atoms_spec (ws := wsX4_count) B.pre
  have hown : s.vm.findClass RX4 = some m.cls := findClass_of_methodNamed B.named
  have hlocks := B.notSynchronized
  subst hsz
  have hD := hD0.self (sz := s.heap.size)
  generalize hAe : va_A [(y0, .inr (4, [.int num, .int pts, .int nw, .int en, .int gl, .int bw, .int sp, .int be, .ref m_kind, .ref m_floor, .ref m_volume, .ref m_size, .ref m_faces, .ref m_when, .ref m_ahead, .ref m_order, .ref m_tried, .ref m_chosen, .ref m_forms, .ref m_warmth, .ref m_degrees, .ref m_thousandths, .ref m_longest, .long ab, .long bl])), (m_when, .inl (cI, 10, .inl u_when))] s.heap.size = A at hD ⊢
  have hA : ∀ q : Nat, s.heap.size ≤ q → A q := fun q h => by rw [← hAe]; exact Or.inr h
  have hS : va_S A s.heap s.heap [] := va_S.rf
  have hl := lv_entry ([.ref y0, .int w]) (n := 4) (Nat.le_of_ble_eq_true rfl)
  rw [lg_entry_eq]
  generalize (lg_sl ([.ref y0, .int w]) ++ List.replicate (4 - (lg_sl ([.ref y0, .int w])).length) Slot.unset).toArray = ls at hl ⊢
  have hl : lv_has ls 4 [(0, .ref y0), (1, .int w)] := hl
  refine W_gen (fun GW hIn hOut => ?_)
  refine hIn _ _ _ _ _ ?_
  have hP0 := hP
  refine lv_iload_n hx hb dX4_count_0 rfl (lv_at hl 1 rfl) ?_
  by_cases c_1 : w = 0
  · refine lv_tableIn (off := 43) (tgt := 44) hx hb dX4_count_1 (by rw [c_1]; decide) (by rw [c_1]; decide) (by rw [c_1]; rfl) (by decide) ?_
    refine lv_aload_n hx hb dX4_count_44 rfl (lv_at hl 0 rfl) ?_
    refine va_get (D := D) (ci := 4) (v := .int num) (C := RX4) (T := TX4) (N := 25) hx hb hts iw_X4_count_4 hown hK hP 0 rfl rfl 0 (by decide) (hts _ wd_X4_count_1) (fun _ h9 => h9) rfl dX4_count_45 ?_
    refine W.widen (k := 0) (n := 0) (Nat.le_of_ble_eq_true rfl) (Nat.le_of_ble_eq_true rfl) ?_
    exact fi_i () hx hb hr hlocks hK (hP.sub [0, 1] rfl) (hD.sub [0, 1] (by decide) rfl) hS trivial dX4_count_48
  by_cases c_2 : w = 1
  · refine lv_tableIn (off := 48) (tgt := 49) hx hb dX4_count_1 (by rw [c_2]; decide) (by rw [c_2]; decide) (by rw [c_2]; rfl) (by decide) ?_
    refine lv_iconst (v := 0) hx hb dX4_count_49 (by decide) ?_
    refine lv_istore_n (lv' := [(2, .int 0), (0, .ref y0), (1, .int w)]) hx hb dX4_count_50 rfl hl (by decide) rfl (fun ls hl => ?_)
    refine lv_iconst (v := 0) hx hb dX4_count_51 (by decide) ?_
    refine lv_istore_n (lv' := [(3, .int 0), (2, .int 0), (0, .ref y0), (1, .int w)]) hx hb dX4_count_52 rfl hl (by decide) rfl (fun ls hl => ?_)
    have lp_53 : ∀ (n : Nat) (k : Int32) (kc : Int32) (H : Heap) (locs : List Loc) (ls : Array Slot), 10 - k.toNatClampNeg < n → (0 ≤ k) → va_P D vwCl [(y0, .inr (4, [.int num, .int pts, .int nw, .int en, .int gl, .int bw, .int sp, .int be, .ref m_kind, .ref m_floor, .ref m_volume, .ref m_size, .ref m_faces, .ref m_when, .ref m_ahead, .ref m_order, .ref m_tried, .ref m_chosen, .ref m_forms, .ref m_warmth, .ref m_degrees, .ref m_thousandths, .ref m_longest, .long ab, .long bl])), (m_when, .inl (cI, 10, .inl u_when))] H → va_D A [(y0, .inr (4, [.int num, .int pts, .int nw, .int en, .int gl, .int bw, .int sp, .int be, .ref m_kind, .ref m_floor, .ref m_volume, .ref m_size, .ref m_faces, .ref m_when, .ref m_ahead, .ref m_order, .ref m_tried, .ref m_chosen, .ref m_forms, .ref m_warmth, .ref m_degrees, .ref m_thousandths, .ref m_longest, .long ab, .long bl])), (m_when, .inl (cI, 10, .inl u_when))] → va_S A s.heap H locs → lv_has ls 4 [(0, .ref y0), (2, .int kc), (3, .int k)] → GW H locs 0 0 (F0 m 53 ls []) := by
      intro n_53
      induction n_53 with
      | zero => intro k kc H locs ls hn_53; exact absurd hn_53 (Nat.not_lt_zero _)
      | succ n_53 ih_53 =>
        intro k kc H locs ls hn_53 h0k hP hD hS hl
        refine hIn _ _ _ _ _ ?_
        refine lv_iload_n hx hb dX4_count_53 rfl (lv_at hl 2 rfl) ?_
        refine lv_aload_n hx hb dX4_count_54 rfl (lv_at hl 0 rfl) ?_
        refine va_get (D := D) (ci := 4) (v := .int num) (C := RX4) (T := TX4) (N := 25) hx hb hts iw_X4_count_4 hown hK hP 0 rfl rfl 0 (by decide) (hts _ wd_X4_count_1) (fun _ h9 => h9) rfl dX4_count_55 ?_
        refine lv_icmp_ge (tgt := 80) hx hb dX4_count_58 (by decide) (fun c_3 => ?_) (fun c_3 => ?_)
        · refine lv_iload_n hx hb dX4_count_80 rfl (lv_at hl 1 rfl) ?_
          refine W.widen (k := 0) (n := 0) (Nat.le_of_ble_eq_true rfl) (Nat.le_of_ble_eq_true rfl) ?_
          exact fi_i () hx hb hr hlocks hK (hP.sub [0, 1] rfl) (hD.sub [0, 1] (by decide) rfl) hS trivial dX4_count_81
        · refine lv_aload_n hx hb dX4_count_61 rfl (lv_at hl 0 rfl) ?_
          refine va_get (D := D) (ci := 4) (v := .ref m_when) (C := RX4) (T := TX4) (N := 25) hx hb hts iw_X4_count_4 hown hK hP 0 rfl rfl 13 (by decide) (hts _ wd_X4_count_2) (fun _ h9 => h9) rfl dX4_count_62 ?_
          refine lv_iload_n hx hb dX4_count_65 rfl (lv_at hl 2 rfl) ?_
          refine va_iald hx hb hK hP 1 0 rfl rfl (pf_X4_count_1 num w n_53 k hn0 hn1 c_1 c_2 hn_53 h0k c_3) dX4_count_66 ?_
          refine lv_topi (fun v_4 ev_4 => ?_)
          refine lv_iconst (v := (-1)) hx hb dX4_count_67 (by decide) ?_
          refine lv_icmp_eq (tgt := 74) hx hb dX4_count_68 (by decide) (fun c_5 => ?_) (fun c_5 => ?_)
          · obtain ⟨v_6, ev_6⟩ : ∃ y : Int32, y = k + 1 := ⟨_, rfl⟩
            refine lv_iinc (v := v_6) (lv' := [(3, .int v_6), (0, .ref y0), (2, .int kc)]) hx hb dX4_count_74 hl (k := 2) rfl (by rw [ev_6]; rfl) (by decide) rfl (fun ls hl => ?_)
            refine lv_goto (tgt := 53) hx hb dX4_count_77 (by decide) ?_
            exact hOut _ _ _ _ _ (ih_53 v_6 kc _ _ _ (pf_X4_count_2 num u_when w n_53 k v_4 v_6 hn0 hn1 c_1 c_2 hn_53 h0k c_3 ev_4 c_5 ev_6) (pf_X4_count_3 num u_when w n_53 k v_4 v_6 hn0 hn1 c_1 c_2 hn_53 h0k c_3 ev_4 c_5 ev_6) (hP.sub [0, 1] rfl) (hD.sub [0, 1] (by decide) rfl) hS (lv_sub hl [1, 2, 0] rfl))
          · obtain ⟨v_7, ev_7⟩ : ∃ y : Int32, y = kc + 1 := ⟨_, rfl⟩
            refine lv_iinc (v := v_7) (lv' := [(2, .int v_7), (0, .ref y0), (3, .int k)]) hx hb dX4_count_71 hl (k := 1) rfl (by rw [ev_7]; rfl) (by decide) rfl (fun ls hl => ?_)
            obtain ⟨v_8, ev_8⟩ : ∃ y : Int32, y = k + 1 := ⟨_, rfl⟩
            refine lv_iinc (v := v_8) (lv' := [(3, .int v_8), (2, .int v_7), (0, .ref y0)]) hx hb dX4_count_74 hl (k := 2) rfl (by rw [ev_8]; rfl) (by decide) rfl (fun ls hl => ?_)
            refine lv_goto (tgt := 53) hx hb dX4_count_77 (by decide) ?_
            exact hOut _ _ _ _ _ (ih_53 v_8 v_7 _ _ _ (pf_X4_count_4 num u_when w n_53 k kc v_4 v_7 v_8 hn0 hn1 c_1 c_2 hn_53 h0k c_3 ev_4 c_5 ev_7 ev_8) (pf_X4_count_5 num u_when w n_53 k kc v_4 v_7 v_8 hn0 hn1 c_1 c_2 hn_53 h0k c_3 ev_4 c_5 ev_7 ev_8) (hP.sub [0, 1] rfl) (hD.sub [0, 1] (by decide) rfl) hS (lv_sub hl [2, 1, 0] rfl))
    exact hOut _ _ _ _ _ (lp_53 (10 - (0 : Int32).toNatClampNeg + 1) 0 0 _ _ _ (Nat.lt_succ_self _) (pf_X4_count_6 num w hn0 hn1 c_1 c_2) (hP.sub [0, 1] rfl) (hD.sub [0, 1] (by decide) rfl) hS (lv_sub hl [2, 1, 0] rfl))
  by_cases c_9 : w = 2
  · refine lv_tableIn (off := 81) (tgt := 82) hx hb dX4_count_1 (by rw [c_9]; decide) (by rw [c_9]; decide) (by rw [c_9]; rfl) (by decide) ?_
    refine lv_aload_n hx hb dX4_count_82 rfl (lv_at hl 0 rfl) ?_
    refine va_get (D := D) (ci := 4) (v := .int nw) (C := RX4) (T := TX4) (N := 25) hx hb hts iw_X4_count_4 hown hK hP 0 rfl rfl 2 (by decide) (hts _ wd_X4_count_3) (fun _ h9 => h9) rfl dX4_count_83 ?_
    refine W.widen (k := 0) (n := 0) (Nat.le_of_ble_eq_true rfl) (Nat.le_of_ble_eq_true rfl) ?_
    exact fi_i () hx hb hr hlocks hK (hP.sub [0, 1] rfl) (hD.sub [0, 1] (by decide) rfl) hS trivial dX4_count_86
  by_cases c_10 : w = 3
  · refine lv_tableIn (off := 86) (tgt := 87) hx hb dX4_count_1 (by rw [c_10]; decide) (by rw [c_10]; decide) (by rw [c_10]; rfl) (by decide) ?_
    refine lv_aload_n hx hb dX4_count_87 rfl (lv_at hl 0 rfl) ?_
    refine va_get (D := D) (ci := 4) (v := .int pts) (C := RX4) (T := TX4) (N := 25) hx hb hts iw_X4_count_4 hown hK hP 0 rfl rfl 1 (by decide) (hts _ wd_X4_count_4) (fun _ h9 => h9) rfl dX4_count_88 ?_
    refine W.widen (k := 0) (n := 0) (Nat.le_of_ble_eq_true rfl) (Nat.le_of_ble_eq_true rfl) ?_
    exact fi_i () hx hb hr hlocks hK (hP.sub [0, 1] rfl) (hD.sub [0, 1] (by decide) rfl) hS trivial dX4_count_91
  by_cases c_11 : w = 4
  · refine lv_tableIn (off := 91) (tgt := 92) hx hb dX4_count_1 (by rw [c_11]; decide) (by rw [c_11]; decide) (by rw [c_11]; rfl) (by decide) ?_
    refine lv_aload_n hx hb dX4_count_92 rfl (lv_at hl 0 rfl) ?_
    refine va_get (D := D) (ci := 4) (v := .int gl) (C := RX4) (T := TX4) (N := 25) hx hb hts iw_X4_count_4 hown hK hP 0 rfl rfl 4 (by decide) (hts _ wd_X4_count_5) (fun _ h9 => h9) rfl dX4_count_93 ?_
    refine W.widen (k := 0) (n := 0) (Nat.le_of_ble_eq_true rfl) (Nat.le_of_ble_eq_true rfl) ?_
    exact fi_i () hx hb hr hlocks hK (hP.sub [0, 1] rfl) (hD.sub [0, 1] (by decide) rfl) hS trivial dX4_count_96
  by_cases c_12 : w = 5
  · refine lv_tableIn (off := 96) (tgt := 97) hx hb dX4_count_1 (by rw [c_12]; decide) (by rw [c_12]; decide) (by rw [c_12]; rfl) (by decide) ?_
    refine lv_aload_n hx hb dX4_count_97 rfl (lv_at hl 0 rfl) ?_
    refine va_get (D := D) (ci := 4) (v := .int bw) (C := RX4) (T := TX4) (N := 25) hx hb hts iw_X4_count_4 hown hK hP 0 rfl rfl 5 (by decide) (hts _ wd_X4_count_6) (fun _ h9 => h9) rfl dX4_count_98 ?_
    refine W.widen (k := 0) (n := 0) (Nat.le_of_ble_eq_true rfl) (Nat.le_of_ble_eq_true rfl) ?_
    exact fi_i () hx hb hr hlocks hK (hP.sub [0, 1] rfl) (hD.sub [0, 1] (by decide) rfl) hS trivial dX4_count_101
  by_cases c_13 : w = 6
  · refine lv_tableIn (off := 101) (tgt := 102) hx hb dX4_count_1 (by rw [c_13]; decide) (by rw [c_13]; decide) (by rw [c_13]; rfl) (by decide) ?_
    refine lv_aload_n hx hb dX4_count_102 rfl (lv_at hl 0 rfl) ?_
    refine va_get (D := D) (ci := 4) (v := .int en) (C := RX4) (T := TX4) (N := 25) hx hb hts iw_X4_count_4 hown hK hP 0 rfl rfl 3 (by decide) (hts _ wd_X4_count_7) (fun _ h9 => h9) rfl dX4_count_103 ?_
    refine W.widen (k := 0) (n := 0) (Nat.le_of_ble_eq_true rfl) (Nat.le_of_ble_eq_true rfl) ?_
    exact fi_i () hx hb hr hlocks hK (hP.sub [0, 1] rfl) (hD.sub [0, 1] (by decide) rfl) hS trivial dX4_count_106
  refine lv_tableOut (tgt := 107) hx hb dX4_count_1 (pf_X4_count_7 num w hn0 hn1 c_1 c_2 c_9 c_10 c_11 c_12 c_13) (by decide) ?_
  refine lv_iconst (v := (-1)) hx hb dX4_count_107 (by decide) ?_
  refine W.widen (k := 0) (n := 0) (Nat.le_of_ble_eq_true rfl) (Nat.le_of_ble_eq_true rfl) ?_
  exact fi_i () hx hb hr hlocks hK (hP.sub [0, 1] rfl) (hD.sub [0, 1] (by decide) rfl) hS trivial dX4_count_108
