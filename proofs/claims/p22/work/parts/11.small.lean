set_option maxHeartbeats 1000000 in
theorem pf_X3_isIn_1 (v : Int32) (lo : Int32) (hi : Int32) (c_1 : v < lo) : (0 : Int32) = bIn v lo hi := by
  grind [bIn]
set_option maxHeartbeats 1000000 in
theorem pf_X3_isIn_2 (v : Int32) (lo : Int32) (hi : Int32) (c_1 : ¬ v < lo) (c_2 : hi < v) : (0 : Int32) = bIn v lo hi := by
  grind [bIn]
set_option maxHeartbeats 1000000 in
theorem pf_X3_isIn_3 (v : Int32) (lo : Int32) (hi : Int32) (c_1 : ¬ v < lo) (c_2 : ¬ hi < v) : (1 : Int32) = bIn v lo hi := by
  grind [bIn]
set_option maxHeartbeats 4000000 in
set_option maxRecDepth 100000 in
theorem c_X3_isIn (l : Launch) (D : va_G) (cI cQ : ClassId) (sz : Nat) (v : Int32) (lo : Int32) (hi : Int32) : CtI l yX3_isIn wsX3_isIn 0 0 0 0 [.int v, .int lo, .int hi] D [(cI, .int), (cQ, .array .int)] [] sz (fun (r : Int32) (u : Unit) => r = bIn v lo hi) (fun (u : Unit) => []) := by
  refine Met.ofW (cc := cX3_isIn) (maxL := 3) (ret := (some .boolean)) (by decide) rfl ?_
  intro p e s m args below meth c s₁ B hml hv
  obtain ⟨rfl, hsz, hP, hK, hD0, hN⟩ := hv
  have hx := B.exec
  have hb := B.bytes
  have hr := B.returns
  have hts := atoms_spec (ws := wsX3_isIn) B.pre
  have hown : s.vm.findClass RX3 = some m.cls := findClass_of_methodNamed B.named
  have hlocks := B.notSynchronized
  subst hsz
  have hD := hD0.self (sz := s.heap.size)
  generalize hAe : va_A [] s.heap.size = A at hD ⊢
  have hA : ∀ q : Nat, s.heap.size ≤ q → A q := fun q h => by rw [← hAe]; exact Or.inr h
  have hS : va_S A s.heap s.heap [] := va_S.rf
  have hl := lv_entry ([.int v, .int lo, .int hi]) (n := 3) (Nat.le_of_ble_eq_true rfl)
  rw [lg_entry_eq]
  generalize (lg_sl ([.int v, .int lo, .int hi]) ++ List.replicate (3 - (lg_sl ([.int v, .int lo, .int hi])).length) Slot.unset).toArray = ls at hl ⊢
  have hl : lv_has ls 3 [(0, .int v), (1, .int lo), (2, .int hi)] := hl
  have hP0 := hP
  refine lv_iload_n hx hb dX3_isIn_0 rfl (lv_at hl 0 rfl) ?_
  refine lv_iload_n hx hb dX3_isIn_1 rfl (lv_at hl 1 rfl) ?_
  refine lv_icmp_lt (tgt := 14) hx hb dX3_isIn_2 (by decide) (fun c_1 => ?_) (fun c_1 => ?_)
  · refine lv_iconst (v := 0) hx hb dX3_isIn_14 (by decide) ?_
    refine W.widen (k := 0) (n := 0) (Nat.le_of_ble_eq_true rfl) (Nat.le_of_ble_eq_true rfl) ?_
    exact fi_z () hx hb hr rfl hlocks hK (hP.sub [] rfl) (hD.sub [] (by decide) rfl) hS (pf_X3_isIn_1 v lo hi c_1) dX3_isIn_15
  · refine lv_iload_n hx hb dX3_isIn_5 rfl (lv_at hl 0 rfl) ?_
    refine lv_iload_n hx hb dX3_isIn_6 rfl (lv_at hl 2 rfl) ?_
    refine lv_icmp_gt (tgt := 14) hx hb dX3_isIn_7 (by decide) (fun c_2 => ?_) (fun c_2 => ?_)
    · refine lv_iconst (v := 0) hx hb dX3_isIn_14 (by decide) ?_
      refine W.widen (k := 0) (n := 0) (Nat.le_of_ble_eq_true rfl) (Nat.le_of_ble_eq_true rfl) ?_
      exact fi_z () hx hb hr rfl hlocks hK (hP.sub [] rfl) (hD.sub [] (by decide) rfl) hS (pf_X3_isIn_2 v lo hi c_1 c_2) dX3_isIn_15
    · refine lv_iconst (v := 1) hx hb dX3_isIn_10 (by decide) ?_
      refine lv_goto (tgt := 15) hx hb dX3_isIn_11 (by decide) ?_
      refine W.widen (k := 0) (n := 0) (Nat.le_of_ble_eq_true rfl) (Nat.le_of_ble_eq_true rfl) ?_
      exact fi_z () hx hb hr rfl hlocks hK (hP.sub [] rfl) (hD.sub [] (by decide) rfl) hS (pf_X3_isIn_3 v lo hi c_1 c_2) dX3_isIn_15

set_option maxHeartbeats 1000000 in
theorem pf_X3_isDay_1 (v : Int32) (r_1 : Int32) (w_2 : r_1 = bIn v (0 : Int32) (39 : Int32)) : r_1 = bIn v 0 39 := by
  grind [bIn]
set_option maxHeartbeats 1000000 in
theorem pf_X3_isDay_2 (v : Int32) (r_1 : Int32) (w_2 : r_1 = bIn v (0 : Int32) (39 : Int32)) : narrow .boolean (.int r_1) = .int r_1 := by
  exact nar_b (by subst_vars; exact bIn_01 _ _ _)
set_option maxHeartbeats 4000000 in
set_option maxRecDepth 100000 in
theorem c_X3_isDay (l : Launch) (D : va_G) (cI cQ : ClassId) (sz : Nat) (v : Int32) : CtI l yX3_isDay wsX3_isDay 1 22 0 0 [.int v] D [(cI, .int), (cQ, .array .int)] [] sz (fun (r : Int32) (u : Unit) => r = bIn v 0 39) (fun (u : Unit) => []) := by
  refine Met.ofW (cc := cX3_isDay) (maxL := 1) (ret := (some .boolean)) (by decide) rfl ?_
  intro p e s m args below meth c s₁ B hml hv
  obtain ⟨rfl, hsz, hP, hK, hD0, hN⟩ := hv
  have hx := B.exec
  have hb := B.bytes
  have hr := B.returns
  have hts := atoms_spec (ws := wsX3_isDay) B.pre
  have hown : s.vm.findClass RX3 = some m.cls := findClass_of_methodNamed B.named
  have hlocks := B.notSynchronized
  subst hsz
  have hD := hD0.self (sz := s.heap.size)
  generalize hAe : va_A [] s.heap.size = A at hD ⊢
  have hA : ∀ q : Nat, s.heap.size ≤ q → A q := fun q h => by rw [← hAe]; exact Or.inr h
  have hS : va_S A s.heap s.heap [] := va_S.rf
  have hl := lv_entry ([.int v]) (n := 1) (Nat.le_of_ble_eq_true rfl)
  rw [lg_entry_eq]
  generalize (lg_sl ([.int v]) ++ List.replicate (1 - (lg_sl ([.int v])).length) Slot.unset).toArray = ls at hl ⊢
  have hl : lv_has ls 1 [(0, .int v)] := hl
  have hP0 := hP
  refine lv_iload_n hx hb dX3_isDay_0 rfl (lv_at hl 0 rfl) ?_
  refine lv_iconst (v := 0) hx hb dX3_isDay_1 (by decide) ?_
  refine lv_bipush (v := 39) hx hb dX3_isDay_2 (by decide) ?_
  refine cc_i (wc := []) (wr := []) (va_runS (As := [.int v, .int 0, .int 39]) (rest := []) ⟨hx, hb, hml, hown, hts⟩ (c_X3_isIn l D cI cQ s.heap.size v 0 39 ) (va_cwS 3 hts gX3_isDay_X3_isIn rfl rfl rfl (by decide +kernel) ⟨Nat.le_of_ble_eq_true rfl, Nat.le_of_ble_eq_true rfl⟩) (preS (wc := []) hK hP hD hN [] rfl (by decide)) rfl rfl hl.1 rfl (lv_room (Nat.le_of_ble_eq_true rfl)) dX3_isDay_4 ⟨Nat.le_of_ble_eq_true rfl, Nat.le_of_ble_eq_true rfl⟩) hP hD hS hA [] [] rfl rfl (by decide) (by decide) (fun r_1 u H locs w_2 hP hD hS => ?_)
  have hP : va_P D vwCl [] H := hP
  have hD : va_D A [] := hD
  have w_2 : r_1 = bIn v (0 : Int32) (39 : Int32) := w_2
  refine W.widen (k := 0) (n := 0) (Nat.le_of_ble_eq_true rfl) (Nat.le_of_ble_eq_true rfl) ?_
  exact fi_z () hx hb hr ((pf_X3_isDay_2 v r_1 w_2)) hlocks hK (hP.sub [] rfl) (hD.sub [] (by decide) rfl) hS (pf_X3_isDay_1 v r_1 w_2) dX3_isDay_7

set_option maxHeartbeats 1000000 in
theorem pf_X3_commonDivisor_1 (n_9 : Nat) (kb : Int64) (k : Int32) (v_2 : Int32) (hn_9 : 200 - k.toNatClampNeg < n_9 + 1) (h0k : 0 ≤ k) (c_1 : ¬ 200 ≤ k) (ev_2 : v_2 = lg_cmp kb 0) (c_3 : ¬ v_2 = 0) : ¬ kb = 0 := by
  intro h9
  subst_vars
  simp [lg_cmp] at *
set_option maxHeartbeats 1000000 in
theorem pf_X3_commonDivisor_2 (n_9 : Nat) (ka : Int64) (kb : Int64) (k : Int32) (v_2 : Int32) (l_4 : Int64) (v_5 : Int32) (hn_9 : 200 - k.toNatClampNeg < n_9 + 1) (h0k : 0 ≤ k) (c_1 : ¬ 200 ≤ k) (ev_2 : v_2 = lg_cmp kb 0) (c_3 : ¬ v_2 = 0) (el_4 : l_4 = ka - ka / kb * kb) (ev_5 : v_5 = k + 1) : 200 - v_5.toNatClampNeg < n_9 := by
  exact ms_dec (L := 200) (k := k) (by grind) (show ¬ (200 : Int32) ≤ k by grind) (by omega) (by assumption) hn_9
set_option maxHeartbeats 1000000 in
theorem pf_X3_commonDivisor_3 (n_9 : Nat) (ka : Int64) (kb : Int64) (k : Int32) (v_2 : Int32) (l_4 : Int64) (v_5 : Int32) (hn_9 : 200 - k.toNatClampNeg < n_9 + 1) (h0k : 0 ≤ k) (c_1 : ¬ 200 ≤ k) (ev_2 : v_2 = lg_cmp kb 0) (c_3 : ¬ v_2 = 0) (el_4 : l_4 = ka - ka / kb * kb) (ev_5 : v_5 = k + 1) : 0 ≤ v_5 := by
  grind
set_option maxHeartbeats 1000000 in
theorem pf_X3_commonDivisor_4   : 0 ≤ (0 : Int32) := by
  grind
set_option maxHeartbeats 4000000 in
set_option maxRecDepth 100000 in
theorem c_X3_commonDivisor (l : Launch) (D : va_G) (cI cQ : ClassId) (sz : Nat) (xa : Int64) (xb : Int64) : CtL l yX3_commonDivisor wsX3_commonDivisor 0 0 0 0 [.long xa, .long xb] D [(cI, .int), (cQ, .array .int)] [] sz (fun (r : Int64) (u : Unit) => True) (fun (u : Unit) => []) := by
  refine Met.ofW (cc := cX3_commonDivisor) (maxL := 11) (ret := (some .long)) (by decide) rfl ?_
  intro p e s m args below meth c s₁ B hml hv
  obtain ⟨rfl, hsz, hP, hK, hD0, hN⟩ := hv
  have hx := B.exec
  have hb := B.bytes
  have hr := B.returns
  have hts := atoms_spec (ws := wsX3_commonDivisor) B.pre
  have hown : s.vm.findClass RX3 = some m.cls := findClass_of_methodNamed B.named
  have hlocks := B.notSynchronized
  subst hsz
  have hD := hD0.self (sz := s.heap.size)
  generalize hAe : va_A [] s.heap.size = A at hD ⊢
  have hA : ∀ q : Nat, s.heap.size ≤ q → A q := fun q h => by rw [← hAe]; exact Or.inr h
  have hS : va_S A s.heap s.heap [] := va_S.rf
  have hl := lv_entry ([.long xa, .long xb]) (n := 11) (Nat.le_of_ble_eq_true rfl)
  rw [lg_entry_eq]
  generalize (lg_sl ([.long xa, .long xb]) ++ List.replicate (11 - (lg_sl ([.long xa, .long xb])).length) Slot.unset).toArray = ls at hl ⊢
  have hl : lv_has ls 11 [(0, .long xa), (2, .long xb)] := hl
  refine W_gen (fun GW hIn hOut => ?_)
  refine hIn _ _ _ _ _ ?_
  have hP0 := hP
  refine lv_lload_n hx hb dX3_commonDivisor_0 rfl (lv_at hl 0 rfl) ?_
  refine lv_lstore (lv' := [(4, .long xa), (0, .long xa), (2, .long xb)]) hx hb dX3_commonDivisor_1 hl (by decide) rfl (fun ls hl => ?_)
  refine lv_lload_n hx hb dX3_commonDivisor_3 rfl (lv_at hl 2 rfl) ?_
  refine lv_lstore (lv' := [(6, .long xb), (4, .long xa), (0, .long xa), (2, .long xb)]) hx hb dX3_commonDivisor_4 hl (by decide) rfl (fun ls hl => ?_)
  refine lv_iconst (v := 0) hx hb dX3_commonDivisor_6 (by decide) ?_
  refine lv_istore (lv' := [(8, .int 0), (6, .long xb), (4, .long xa), (0, .long xa), (2, .long xb)]) hx hb dX3_commonDivisor_7 hl (by decide) rfl (fun ls hl => ?_)
  have lp_9 : ∀ (n : Nat) (ka : Int64) (kb : Int64) (k : Int32) (H : Heap) (locs : List Loc) (ls : Array Slot), 200 - k.toNatClampNeg < n → (0 ≤ k) → va_P D vwCl [] H → va_D A [] → va_S A s.heap H locs → lv_has ls 11 [(4, .long ka), (6, .long kb), (8, .int k)] → GW H locs 0 0 (F0 m 9 ls []) := by
    intro n_9
    induction n_9 with
    | zero => intro ka kb k H locs ls hn_9; exact absurd hn_9 (Nat.not_lt_zero _)
    | succ n_9 ih_9 =>
      intro ka kb k H locs ls hn_9 h0k hP hD hS hl
      refine hIn _ _ _ _ _ ?_
      refine lv_iload hx hb dX3_commonDivisor_9 (lv_at hl 2 rfl) ?_
      refine lv_sipush (v := 200) hx hb dX3_commonDivisor_11 (by decide) ?_
      refine lv_icmp_ge (tgt := 45) hx hb dX3_commonDivisor_14 (by decide) (fun c_1 => ?_) (fun c_1 => ?_)
      · refine lv_lload hx hb dX3_commonDivisor_45 (lv_at hl 0 rfl) ?_
        refine W.widen (k := 0) (n := 0) (Nat.le_of_ble_eq_true rfl) (Nat.le_of_ble_eq_true rfl) ?_
        exact fi_l () hx hb hr hlocks hK (hP.sub [] rfl) (hD.sub [] (by decide) rfl) hS trivial dX3_commonDivisor_47
      · refine lv_lload hx hb dX3_commonDivisor_17 (lv_at hl 1 rfl) ?_
        refine lv_lconst (v := 0) hx hb dX3_commonDivisor_19 rfl ?_
        refine W.lcmp hx hb dX3_commonDivisor_20 ?_
        refine lv_topi (fun v_2 ev_2 => ?_)
        refine lv_if_eq (tgt := 45) hx hb dX3_commonDivisor_21 (by decide) (fun c_3 => ?_) (fun c_3 => ?_)
        · refine lv_lload hx hb dX3_commonDivisor_45 (lv_at hl 0 rfl) ?_
          refine W.widen (k := 0) (n := 0) (Nat.le_of_ble_eq_true rfl) (Nat.le_of_ble_eq_true rfl) ?_
          exact fi_l () hx hb hr hlocks hK (hP.sub [] rfl) (hD.sub [] (by decide) rfl) hS trivial dX3_commonDivisor_47
        · refine lv_lload hx hb dX3_commonDivisor_24 (lv_at hl 0 rfl) ?_
          refine lv_lload hx hb dX3_commonDivisor_26 (lv_at hl 1 rfl) ?_
          refine lv_lrem hx hb dX3_commonDivisor_28 (pf_X3_commonDivisor_1 n_9 kb k v_2 hn_9 h0k c_1 ev_2 c_3) ?_
          refine lv_topl (fun l_4 el_4 => ?_)
          refine lv_lstore (lv' := [(9, .long l_4), (4, .long ka), (6, .long kb), (8, .int k)]) hx hb dX3_commonDivisor_29 hl (by decide) rfl (fun ls hl => ?_)
          refine lv_lload hx hb dX3_commonDivisor_31 (lv_at hl 2 rfl) ?_
          refine lv_lstore (lv' := [(4, .long kb), (9, .long l_4), (6, .long kb), (8, .int k)]) hx hb dX3_commonDivisor_33 hl (by decide) rfl (fun ls hl => ?_)
          refine lv_lload hx hb dX3_commonDivisor_35 (lv_at hl 1 rfl) ?_
          refine lv_lstore (lv' := [(6, .long l_4), (4, .long kb), (9, .long l_4), (8, .int k)]) hx hb dX3_commonDivisor_37 hl (by decide) rfl (fun ls hl => ?_)
          obtain ⟨v_5, ev_5⟩ : ∃ y : Int32, y = k + 1 := ⟨_, rfl⟩
          refine lv_iinc (v := v_5) (lv' := [(8, .int v_5), (6, .long l_4), (4, .long kb), (9, .long l_4)]) hx hb dX3_commonDivisor_39 hl (k := 3) rfl (by rw [ev_5]; rfl) (by decide) rfl (fun ls hl => ?_)
          refine lv_goto (tgt := 9) hx hb dX3_commonDivisor_42 (by decide) ?_
          exact hOut _ _ _ _ _ (ih_9 kb l_4 v_5 _ _ _ (pf_X3_commonDivisor_2 n_9 ka kb k v_2 l_4 v_5 hn_9 h0k c_1 ev_2 c_3 el_4 ev_5) (pf_X3_commonDivisor_3 n_9 ka kb k v_2 l_4 v_5 hn_9 h0k c_1 ev_2 c_3 el_4 ev_5) (hP.sub [] rfl) (hD.sub [] (by decide) rfl) hS (lv_sub hl [2, 1, 0] rfl))
  exact hOut _ _ _ _ _ (lp_9 (200 - (0 : Int32).toNatClampNeg + 1) xa xb 0 _ _ _ (Nat.lt_succ_self _) (pf_X3_commonDivisor_4) (hP.sub [] rfl) (hD.sub [] (by decide) rfl) hS (lv_sub hl [2, 1, 0] rfl))
