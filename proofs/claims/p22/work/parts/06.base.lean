/-! ===== the words of nest mates (they can stand in no method's own words): one fact, handed down ===== -/
def nw_L : List Cond := [.fieldLinkNest RX3 89 "PourPlan$Curing" "warmth" "[I" "PourPlan", .fieldLinkNest RX3 76 "PourPlan$Curing" "levels" "[I" "PourPlan", .fieldLinkNest RX3 92 "PourPlan$Curing" "baseWarmth" "I" "PourPlan", .fieldLinkNest RX3 98 "PourPlan$Curing" "points" "I" "PourPlan", .fieldLinkNest RX3 147 "PourPlan$Pieces" "kinds" "[I" "PourPlan", .fieldLinkNest RX3 150 "PourPlan$Pieces" "floors" "[I" "PourPlan", .fieldLinkNest RX3 153 "PourPlan$Pieces" "volumes" "[I" "PourPlan", .fieldLinkNest RX3 156 "PourPlan$Pieces" "sizes" "[I" "PourPlan", .fieldLinkNest RX3 159 "PourPlan$Pieces" "faces" "[I" "PourPlan", .fieldLinkNest RX3 162 "PourPlan$Pieces" "days" "[I" "PourPlan", .fieldLinkNest RX3 72 "PourPlan$Pieces" "lead" "[[I" "PourPlan", .fieldLinkNest RX3 53 "PourPlan$Pieces" "number" "I" "PourPlan", .fieldLinkNest RX3 122 "PourPlan$Sequence" "row" "[I" "PourPlan", .methodLinkNest RX3 13 yX0_init "PourPlan", .methodLinkNest RX3 20 yX1_init "PourPlan", .methodLinkNest RX3 27 yX2_init "PourPlan", .methodLinkNest RX3 56 yX2_append "PourPlan", .methodLinkNest RX3 60 yX1_add "PourPlan", .methodLinkNest RX3 64 yX1_has "PourPlan", .methodLinkNest RX3 68 yX1_mustLead "PourPlan", .methodLinkNest RX3 79 yX0_renew "PourPlan", .methodLinkNest RX3 95 yX0_goesOnWith "PourPlan", .methodLinkNest RX3 101 yX0_addPoint "PourPlan", .methodLinkNest RX3 105 yX0_hardnessOf "PourPlan", .methodLinkNest RX3 141 yX1_unpourFrom "PourPlan", .methodLinkNest RX3 198 yX1_howManyPoured "PourPlan", .methodLinkNest RX3 184 yX1_standsOn "PourPlan", .methodLinkNest RX3 113 yX2_placeOf "PourPlan", .methodLinkNest RX3 218 yX1_carries "PourPlan", .methodLinkNest RX3 168 yX0_hardnessOn "PourPlan", .methodLinkNest RX3 165 yX0_stripDayFor "PourPlan", .methodLinkNest RX3 116 yX2_move "PourPlan", .methodLinkNest RX3 119 yX2_sort "PourPlan", .methodLinkNest RX3 131 yX2_toNext "PourPlan", .methodLinkNest RX3 144 yX1_longestLead "PourPlan"]
def nw_ok (U : State) : Prop := (∀ w ∈ nw_L, va_Nw w U) ∧ (Cond.arrayOver (.array .int)).before #[] U = true
theorem nw_tab : ∀ w ∈ nw_L, w.onTables = true := by
  intro w hw
  simp only [nw_L, List.mem_cons, List.not_mem_nil, or_false] at hw
  rcases hw with rfl | rfl | rfl | rfl | rfl | rfl | rfl | rfl | rfl | rfl | rfl | rfl | rfl | rfl | rfl | rfl | rfl | rfl | rfl | rfl | rfl | rfl | rfl | rfl | rfl | rfl | rfl | rfl | rfl | rfl | rfl | rfl | rfl | rfl | rfl <;> rfl
theorem nw_same {u U : State} (h : u.vm = U.vm) (hN : nw_ok u) : nw_ok U := ⟨fun w hw => va_Nw.same (nw_tab w hw) h (hN.1 w hw), over_moved (u := u) (by rw [h]; exact Vm.Alike.refl _) hN.2⟩
theorem nw_warm {s U : State} (hW : s.WarmedH U.vm) (hN : nw_ok s) : nw_ok U := by
  refine ⟨?_, over_moved hW.alike hN.2⟩
  intro w hw
  have h0 := hN.1 w hw
  simp only [nw_L, List.mem_cons, List.not_mem_nil, or_false] at hw
  rcases hw with rfl | rfl | rfl | rfl | rfl | rfl | rfl | rfl | rfl | rfl | rfl | rfl | rfl | rfl | rfl | rfl | rfl | rfl | rfl | rfl | rfl | rfl | rfl | rfl | rfl | rfl | rfl | rfl | rfl | rfl | rfl | rfl | rfl | rfl | rfl
  · exact va_Nw.warmF hW h0
  · exact va_Nw.warmF hW h0
  · exact va_Nw.warmF hW h0
  · exact va_Nw.warmF hW h0
  · exact va_Nw.warmF hW h0
  · exact va_Nw.warmF hW h0
  · exact va_Nw.warmF hW h0
  · exact va_Nw.warmF hW h0
  · exact va_Nw.warmF hW h0
  · exact va_Nw.warmF hW h0
  · exact va_Nw.warmF hW h0
  · exact va_Nw.warmF hW h0
  · exact va_Nw.warmF hW h0
  · exact va_Nw.warmM hW h0
  · exact va_Nw.warmM hW h0
  · exact va_Nw.warmM hW h0
  · exact va_Nw.warmM hW h0
  · exact va_Nw.warmM hW h0
  · exact va_Nw.warmM hW h0
  · exact va_Nw.warmM hW h0
  · exact va_Nw.warmM hW h0
  · exact va_Nw.warmM hW h0
  · exact va_Nw.warmM hW h0
  · exact va_Nw.warmM hW h0
  · exact va_Nw.warmM hW h0
  · exact va_Nw.warmM hW h0
  · exact va_Nw.warmM hW h0
  · exact va_Nw.warmM hW h0
  · exact va_Nw.warmM hW h0
  · exact va_Nw.warmM hW h0
  · exact va_Nw.warmM hW h0
  · exact va_Nw.warmM hW h0
  · exact va_Nw.warmM hW h0
  · exact va_Nw.warmM hW h0
  · exact va_Nw.warmM hW h0
theorem nwF_89 {U : State} (h : nw_ok U) : va_Nw (.fieldLinkNest RX3 89 "PourPlan$Curing" "warmth" "[I" "PourPlan") U := h.1 _ (List.mem_of_getElem? (i := 0) rfl)
theorem nwF_76 {U : State} (h : nw_ok U) : va_Nw (.fieldLinkNest RX3 76 "PourPlan$Curing" "levels" "[I" "PourPlan") U := h.1 _ (List.mem_of_getElem? (i := 1) rfl)
theorem nwF_92 {U : State} (h : nw_ok U) : va_Nw (.fieldLinkNest RX3 92 "PourPlan$Curing" "baseWarmth" "I" "PourPlan") U := h.1 _ (List.mem_of_getElem? (i := 2) rfl)
theorem nwF_98 {U : State} (h : nw_ok U) : va_Nw (.fieldLinkNest RX3 98 "PourPlan$Curing" "points" "I" "PourPlan") U := h.1 _ (List.mem_of_getElem? (i := 3) rfl)
theorem nwF_147 {U : State} (h : nw_ok U) : va_Nw (.fieldLinkNest RX3 147 "PourPlan$Pieces" "kinds" "[I" "PourPlan") U := h.1 _ (List.mem_of_getElem? (i := 4) rfl)
theorem nwF_150 {U : State} (h : nw_ok U) : va_Nw (.fieldLinkNest RX3 150 "PourPlan$Pieces" "floors" "[I" "PourPlan") U := h.1 _ (List.mem_of_getElem? (i := 5) rfl)
theorem nwF_153 {U : State} (h : nw_ok U) : va_Nw (.fieldLinkNest RX3 153 "PourPlan$Pieces" "volumes" "[I" "PourPlan") U := h.1 _ (List.mem_of_getElem? (i := 6) rfl)
theorem nwF_156 {U : State} (h : nw_ok U) : va_Nw (.fieldLinkNest RX3 156 "PourPlan$Pieces" "sizes" "[I" "PourPlan") U := h.1 _ (List.mem_of_getElem? (i := 7) rfl)
theorem nwF_159 {U : State} (h : nw_ok U) : va_Nw (.fieldLinkNest RX3 159 "PourPlan$Pieces" "faces" "[I" "PourPlan") U := h.1 _ (List.mem_of_getElem? (i := 8) rfl)
theorem nwF_162 {U : State} (h : nw_ok U) : va_Nw (.fieldLinkNest RX3 162 "PourPlan$Pieces" "days" "[I" "PourPlan") U := h.1 _ (List.mem_of_getElem? (i := 9) rfl)
theorem nwF_72 {U : State} (h : nw_ok U) : va_Nw (.fieldLinkNest RX3 72 "PourPlan$Pieces" "lead" "[[I" "PourPlan") U := h.1 _ (List.mem_of_getElem? (i := 10) rfl)
theorem nwF_53 {U : State} (h : nw_ok U) : va_Nw (.fieldLinkNest RX3 53 "PourPlan$Pieces" "number" "I" "PourPlan") U := h.1 _ (List.mem_of_getElem? (i := 11) rfl)
theorem nwF_122 {U : State} (h : nw_ok U) : va_Nw (.fieldLinkNest RX3 122 "PourPlan$Sequence" "row" "[I" "PourPlan") U := h.1 _ (List.mem_of_getElem? (i := 12) rfl)
theorem nwM_13 {U : State} (h : nw_ok U) : va_Nw (.methodLinkNest RX3 13 yX0_init "PourPlan") U := h.1 _ (List.mem_of_getElem? (i := 13) rfl)
theorem nwM_20 {U : State} (h : nw_ok U) : va_Nw (.methodLinkNest RX3 20 yX1_init "PourPlan") U := h.1 _ (List.mem_of_getElem? (i := 14) rfl)
theorem nwM_27 {U : State} (h : nw_ok U) : va_Nw (.methodLinkNest RX3 27 yX2_init "PourPlan") U := h.1 _ (List.mem_of_getElem? (i := 15) rfl)
theorem nwM_56 {U : State} (h : nw_ok U) : va_Nw (.methodLinkNest RX3 56 yX2_append "PourPlan") U := h.1 _ (List.mem_of_getElem? (i := 16) rfl)
theorem nwM_60 {U : State} (h : nw_ok U) : va_Nw (.methodLinkNest RX3 60 yX1_add "PourPlan") U := h.1 _ (List.mem_of_getElem? (i := 17) rfl)
theorem nwM_64 {U : State} (h : nw_ok U) : va_Nw (.methodLinkNest RX3 64 yX1_has "PourPlan") U := h.1 _ (List.mem_of_getElem? (i := 18) rfl)
theorem nwM_68 {U : State} (h : nw_ok U) : va_Nw (.methodLinkNest RX3 68 yX1_mustLead "PourPlan") U := h.1 _ (List.mem_of_getElem? (i := 19) rfl)
theorem nwM_79 {U : State} (h : nw_ok U) : va_Nw (.methodLinkNest RX3 79 yX0_renew "PourPlan") U := h.1 _ (List.mem_of_getElem? (i := 20) rfl)
theorem nwM_95 {U : State} (h : nw_ok U) : va_Nw (.methodLinkNest RX3 95 yX0_goesOnWith "PourPlan") U := h.1 _ (List.mem_of_getElem? (i := 21) rfl)
theorem nwM_101 {U : State} (h : nw_ok U) : va_Nw (.methodLinkNest RX3 101 yX0_addPoint "PourPlan") U := h.1 _ (List.mem_of_getElem? (i := 22) rfl)
theorem nwM_105 {U : State} (h : nw_ok U) : va_Nw (.methodLinkNest RX3 105 yX0_hardnessOf "PourPlan") U := h.1 _ (List.mem_of_getElem? (i := 23) rfl)
theorem nwM_141 {U : State} (h : nw_ok U) : va_Nw (.methodLinkNest RX3 141 yX1_unpourFrom "PourPlan") U := h.1 _ (List.mem_of_getElem? (i := 24) rfl)
theorem nwM_198 {U : State} (h : nw_ok U) : va_Nw (.methodLinkNest RX3 198 yX1_howManyPoured "PourPlan") U := h.1 _ (List.mem_of_getElem? (i := 25) rfl)
theorem nwM_184 {U : State} (h : nw_ok U) : va_Nw (.methodLinkNest RX3 184 yX1_standsOn "PourPlan") U := h.1 _ (List.mem_of_getElem? (i := 26) rfl)
theorem nwM_113 {U : State} (h : nw_ok U) : va_Nw (.methodLinkNest RX3 113 yX2_placeOf "PourPlan") U := h.1 _ (List.mem_of_getElem? (i := 27) rfl)
theorem nwM_218 {U : State} (h : nw_ok U) : va_Nw (.methodLinkNest RX3 218 yX1_carries "PourPlan") U := h.1 _ (List.mem_of_getElem? (i := 28) rfl)
theorem nwM_168 {U : State} (h : nw_ok U) : va_Nw (.methodLinkNest RX3 168 yX0_hardnessOn "PourPlan") U := h.1 _ (List.mem_of_getElem? (i := 29) rfl)
theorem nwM_165 {U : State} (h : nw_ok U) : va_Nw (.methodLinkNest RX3 165 yX0_stripDayFor "PourPlan") U := h.1 _ (List.mem_of_getElem? (i := 30) rfl)
theorem nwM_116 {U : State} (h : nw_ok U) : va_Nw (.methodLinkNest RX3 116 yX2_move "PourPlan") U := h.1 _ (List.mem_of_getElem? (i := 31) rfl)
theorem nwM_119 {U : State} (h : nw_ok U) : va_Nw (.methodLinkNest RX3 119 yX2_sort "PourPlan") U := h.1 _ (List.mem_of_getElem? (i := 32) rfl)
theorem nwM_131 {U : State} (h : nw_ok U) : va_Nw (.methodLinkNest RX3 131 yX2_toNext "PourPlan") U := h.1 _ (List.mem_of_getElem? (i := 33) rfl)
theorem nwM_144 {U : State} (h : nw_ok U) : va_Nw (.methodLinkNest RX3 144 yX1_longestLead "PourPlan") U := h.1 _ (List.mem_of_getElem? (i := 34) rfl)
theorem nw_tbl : ∀ w ∈ nw_L, w ∈ lw_tbl := by decide +kernel
/-! ===== the form of every contract here ===== -/
def cPre (D : va_G) (tys : List (ClassId × FieldType)) (w : va_W) (sz : Nat) (U : State) : Prop := U.heap.size = sz ∧ va_P D vwCl w U.heap ∧ va_K D vwCl tys U ∧ va_D (fun _ => True) w ∧ nw_ok U
def cPost (D : va_G) (tys : List (ClassId × FieldType)) (A : Nat → Prop) (w : va_W) (t : State) : Prop := va_P D vwCl w t.heap ∧ va_K D vwCl tys t ∧ va_D A w
abbrev CtI {S : Type} (l : Launch) (y : MethodName) (ws : List Cond) (fr lo mc ms : Nat) (av : List Value) (D : va_G) (tys : List (ClassId × FieldType)) (w : va_W) (sz : Nat) (post : Int32 → S → Prop) (w' : S → va_W) : Prop :=
  Met l y ws { frames := fr, cells := mc, slots := ms, locals := lo } (va_Pc av (cPre D tys w sz)) (va_Qi post (fun u => cPost D tys (va_A w sz) (w' u)) (va_A w sz)) mc ms (va_A w sz)
abbrev CtL {S : Type} (l : Launch) (y : MethodName) (ws : List Cond) (fr lo mc ms : Nat) (av : List Value) (D : va_G) (tys : List (ClassId × FieldType)) (w : va_W) (sz : Nat) (post : Int64 → S → Prop) (w' : S → va_W) : Prop :=
  Met l y ws { frames := fr, cells := mc, slots := ms, locals := lo } (va_Pc av (cPre D tys w sz)) (va_Ql post (fun u => cPost D tys (va_A w sz) (w' u)) (va_A w sz)) mc ms (va_A w sz)
abbrev CtV {S : Type} (l : Launch) (y : MethodName) (ws : List Cond) (fr lo mc ms : Nat) (av : List Value) (D : va_G) (tys : List (ClassId × FieldType)) (w : va_W) (sz : Nat) (post : S → Prop) (w' : S → va_W) : Prop :=
  Met l y ws { frames := fr, cells := mc, slots := ms, locals := lo } (va_Pc av (cPre D tys w sz)) (va_Qv post (fun u => cPost D tys (va_A w sz) (w' u)) (va_A w sz)) mc ms (va_A w sz)
theorem cPre_blind {av : List Value} {D : va_G} {tys : List (ClassId × FieldType)} {w : va_W} {sz : Nat} : FrameBlind (va_Pc av (cPre D tys w sz)) := by
  intro a U g mk q
  obtain ⟨q0, q1, qP, qK, qD, qN⟩ := q
  exact ⟨q0, q1, qP, va_K.moved (u := U) (U := U.calling g mk a) (Vm.Alike.refl U.vm) qK, qD, nw_same (u := U) rfl qN⟩
theorem fm_of_map {α β : Type} {f : α → Option β} {is : List α} {w : List β} (h : is.map f = w.map some) : is.filterMap f = w := by
  have h2 : is.filterMap f = (is.map f).filterMap id := by rw [List.filterMap_map]; rfl
  rw [h2, h, List.filterMap_map]
  simp
theorem cPre_at {s : State} {H : Heap} {A : Nat → Prop} {D : va_G} {tys : List (ClassId × FieldType)} {w wc : va_W} (av : List Value) (hK : va_K D vwCl tys s) (hP : va_P D vwCl w H) (hD : va_D A w) (hN : nw_ok s) (isC : List Nat) (hC : isC.map (fun i => w[i]?) = wc.map some) (hnd : va_nd isC = true) :
    ∀ U : State, U.heap = H → s.WarmedH U.vm → va_Pc av (cPre D tys wc H.size) av.toArray U := by
  intro U hU hW
  refine ⟨rfl, by rw [hU], by rw [hU]; exact hP.sub isC (fm_of_map hC), va_K.moved hW.alike hK, (hD.sub isC hnd hC).weaken (fun _ _ _ _ => trivial), nw_warm hW hN⟩
theorem preS {s : State} {H : Heap} {A : Nat → Prop} {D : va_G} {tys : List (ClassId × FieldType)} {w wc : va_W} {av : List Value} (hK : va_K D vwCl tys s) (hP : va_P D vwCl w H) (hD : va_D A w) (hN : nw_ok s) (isC : List Nat) (hC : isC.map (fun i => w[i]?) = wc.map some) (hnd : va_nd isC = true) : PreS s H (va_Pc av (cPre D tys wc H.size)) av :=
  ⟨cPre_blind, cPre_at av hK hP hD hN isC hC hnd⟩
theorem preV {s : State} {H : Heap} {A : Nat → Prop} {D : va_G} {tys : List (ClassId × FieldType)} {w wc : va_W} {As : List Value} {b q0 ci : Nat} {q : vw_C} {fs : List Value} (hK : va_K D vwCl tys s) (hP : va_P D vwCl w H) (hD : va_D A w) (hN : nw_ok s) (isC : List Nat) (hC : isC.map (fun i => w[i]?) = wc.map some) (hnd : va_nd isC = true) (hc : vwCl[ci]? = some q) (he : w[q0]? = some (b, .inr (ci, fs))) : PreV s H q.1 b (va_Pc (.ref b :: As) (cPre D tys wc H.size)) As :=
  ⟨cPre_blind, va_recv hK hP hc he, cPre_at (.ref b :: As) hK hP hD hN isC hC hnd⟩
section CC
variable {p : Program} {l : Launch} {e : Env} {R : Room} {s : State} {m : MethodId} {args : Array Value} {below : List Frame} {meth : Method} {c : Code} {H : Heap} {locs : List Loc} {cells slots : Nat} {Q : State → Prop}
variable {pc : Nat} {ls : Array Slot} {rest st0 : List Value} {a : Array Value} {A : Nat → Prop} {H0 : Heap} {mc ms : Nat} {D : va_G} {tys : List (ClassId × FieldType)} {w wc wr : va_W}
theorem cc_i {S : Type} {post : Int32 → S → Prop} {w' : S → va_W} (hr : va_Run p l e R s m args below meth c H locs cells slots mc ms (F0 m pc ls st0) rest (va_Qi post (fun u => cPost D tys (va_A wc H.size) (w' u)) (va_A wc H.size) a) (va_A wc H.size)) (hP : va_P D vwCl w H) (hD : va_D A w) (hS : va_S A H0 H locs) (hA : ∀ q, H0.size ≤ q → A q) (isC isR : List Nat) (hC : isC.map (fun i => w[i]?) = wc.map some) (hR : isR.map (fun i => w[i]?) = wr.map some) (hn : va_nd isR = true) (hdis : ∀ i ∈ isR, i ∉ isC)
    (kk : ∀ (r : Int32) (u : S) (H1 : Heap) (locs1 : List Loc), post r u → va_P D vwCl (wr ++ w' u) H1 → va_D A (wr ++ w' u) → va_S A H0 H1 locs1 → W p l e R s m args below meth c H1 locs1 (cells + mc) (slots + ms) Q (F0 m (pc + 3) ls (.int r :: rest))) : W p l e R s m args below meth c H locs cells slots Q (F0 m pc ls st0) := by
  have hFc := va_free (wc := wc) hD hS hA isC hC
  refine va_calli hr hS (fun q _ h => hFc q h) hFc (fun r u t H1 locs ht hvm hw hB hz1 hk1 hS => ?_)
  obtain ⟨hP1, hK1, hD1⟩ := hB
  rw [ht] at hP1
  obtain ⟨hP, hD⟩ := va_join (wr := wr) hP hD isC isR hC hR hn hdis hk1 hFc hP1 hD1
  exact kk r u H1 locs hw hP hD hS
theorem cc_l {S : Type} {post : Int64 → S → Prop} {w' : S → va_W} (hr : va_Run p l e R s m args below meth c H locs cells slots mc ms (F0 m pc ls st0) rest (va_Ql post (fun u => cPost D tys (va_A wc H.size) (w' u)) (va_A wc H.size) a) (va_A wc H.size)) (hP : va_P D vwCl w H) (hD : va_D A w) (hS : va_S A H0 H locs) (hA : ∀ q, H0.size ≤ q → A q) (isC isR : List Nat) (hC : isC.map (fun i => w[i]?) = wc.map some) (hR : isR.map (fun i => w[i]?) = wr.map some) (hn : va_nd isR = true) (hdis : ∀ i ∈ isR, i ∉ isC)
    (kk : ∀ (r : Int64) (u : S) (H1 : Heap) (locs1 : List Loc), post r u → va_P D vwCl (wr ++ w' u) H1 → va_D A (wr ++ w' u) → va_S A H0 H1 locs1 → W p l e R s m args below meth c H1 locs1 (cells + mc) (slots + ms) Q (F0 m (pc + 3) ls (.long r :: rest))) : W p l e R s m args below meth c H locs cells slots Q (F0 m pc ls st0) := by
  have hFc := va_free (wc := wc) hD hS hA isC hC
  refine va_calll hr hS (fun q _ h => hFc q h) hFc (fun r u t H1 locs ht hvm hw hB hz1 hk1 hS => ?_)
  obtain ⟨hP1, hK1, hD1⟩ := hB
  rw [ht] at hP1
  obtain ⟨hP, hD⟩ := va_join (wr := wr) hP hD isC isR hC hR hn hdis hk1 hFc hP1 hD1
  exact kk r u H1 locs hw hP hD hS
theorem cc_v {S : Type} {post : S → Prop} {w' : S → va_W} (hr : va_Run p l e R s m args below meth c H locs cells slots mc ms (F0 m pc ls st0) rest (va_Qv post (fun u => cPost D tys (va_A wc H.size) (w' u)) (va_A wc H.size) a) (va_A wc H.size)) (hP : va_P D vwCl w H) (hD : va_D A w) (hS : va_S A H0 H locs) (hA : ∀ q, H0.size ≤ q → A q) (isC isR : List Nat) (hC : isC.map (fun i => w[i]?) = wc.map some) (hR : isR.map (fun i => w[i]?) = wr.map some) (hn : va_nd isR = true) (hdis : ∀ i ∈ isR, i ∉ isC)
    (kk : ∀ (u : S) (H1 : Heap) (locs1 : List Loc), post u → va_P D vwCl (wr ++ w' u) H1 → va_D A (wr ++ w' u) → va_S A H0 H1 locs1 → W p l e R s m args below meth c H1 locs1 (cells + mc) (slots + ms) Q (F0 m (pc + 3) ls rest)) : W p l e R s m args below meth c H locs cells slots Q (F0 m pc ls st0) := by
  have hFc := va_free (wc := wc) hD hS hA isC hC
  refine va_callv hr hS (fun q _ h => hFc q h) hFc (fun u t H1 locs ht hvm hw hB hz1 hk1 hS => ?_)
  obtain ⟨hP1, hK1, hD1⟩ := hB
  rw [ht] at hP1
  obtain ⟨hP, hD⟩ := va_join (wr := wr) hP hD isC isR hC hR hn hdis hk1 hFc hP1 hD1
  exact kk u H1 locs hw hP hD hS
variable {cc : ByteArray} {free : Addr → Prop}
theorem fi_i {S : Type} {post : Int32 → S → Prop} {w' : S → va_W} {v : Int32} (u : S) (hx : p.tables.exec = Jvm.exec) (hb : c.code = cc) (hr : meth.sig.returnType = some .int) (hlocks : meth.locks = false) (hK : va_K D vwCl tys s) (hP : va_P D vwCl (w' u) H) (hD : va_D A (w' u)) (hS : va_S A s.heap H locs) (hpost : post v u) (hdg : decode cc pc = .ok (.ireturn, 1)) : W p l e R s m args below meth c H locs cells slots (MQ below (va_Qi post (fun u => cPost D tys A (w' u)) A) args s cells slots A) (F0 m pc ls [.int v]) :=
  W.iret hx hb hr (fun t ht hW => ⟨⟨v, u, rfl, hpost, by rw [ht]; exact hP, va_K.moved hW.alike hK, hD⟩, hS.F ht⟩) hS.2.2 hdg hlocks
theorem fi_z {S : Type} {post : Int32 → S → Prop} {w' : S → va_W} {v : Int32} (u : S) (hx : p.tables.exec = Jvm.exec) (hb : c.code = cc) (hr : meth.sig.returnType = some .boolean) (hn : narrow .boolean (.int v) = .int v) (hlocks : meth.locks = false) (hK : va_K D vwCl tys s) (hP : va_P D vwCl (w' u) H) (hD : va_D A (w' u)) (hS : va_S A s.heap H locs) (hpost : post v u) (hdg : decode cc pc = .ok (.ireturn, 1)) : W p l e R s m args below meth c H locs cells slots (MQ below (va_Qi post (fun u => cPost D tys A (w' u)) A) args s cells slots A) (F0 m pc ls [.int v]) :=
  W.zret hx hb hr hn (fun t ht hW => ⟨⟨v, u, rfl, hpost, by rw [ht]; exact hP, va_K.moved hW.alike hK, hD⟩, hS.F ht⟩) hS.2.2 hdg hlocks
theorem fi_l {S : Type} {post : Int64 → S → Prop} {w' : S → va_W} {v : Int64} (u : S) (hx : p.tables.exec = Jvm.exec) (hb : c.code = cc) (hr : meth.sig.returnType = some .long) (hlocks : meth.locks = false) (hK : va_K D vwCl tys s) (hP : va_P D vwCl (w' u) H) (hD : va_D A (w' u)) (hS : va_S A s.heap H locs) (hpost : post v u) (hdg : decode cc pc = .ok (.lreturn, 1)) : W p l e R s m args below meth c H locs cells slots (MQ below (va_Ql post (fun u => cPost D tys A (w' u)) A) args s cells slots A) (F0 m pc ls [.long v]) :=
  W.lret hx hb hr (fun t ht hW => ⟨⟨v, u, rfl, hpost, by rw [ht]; exact hP, va_K.moved hW.alike hK, hD⟩, hS.F ht⟩) hS.2.2 hdg hlocks
theorem fi_v {S : Type} {post : S → Prop} {w' : S → va_W} (u : S) (hx : p.tables.exec = Jvm.exec) (hb : c.code = cc) (hr : meth.sig.returnType = none) (hlocks : meth.locks = false) (hK : va_K D vwCl tys s) (hP : va_P D vwCl (w' u) H) (hD : va_D A (w' u)) (hS : va_S A s.heap H locs) (hpost : post u) (hdg : decode cc pc = .ok (.return_, 1)) : W p l e R s m args below meth c H locs cells slots (MQ below (va_Qv post (fun u => cPost D tys A (w' u)) A) args s cells slots A) (F0 m pc ls []) :=
  W.vret hx hb hr (fun t ht hW => ⟨⟨u, rfl, hpost, by rw [ht]; exact hP, va_K.moved hW.alike hK, hD⟩, hS.F ht⟩) hS.2.2 hdg hlocks
/-- the goal's own form, named, so that a loop can be said over it -/
theorem W_gen {g : JFrame} (kk : ∀ (GW : Heap → List Loc → Nat → Nat → JFrame → Prop), (∀ (H : Heap) (locs : List Loc) (k n : Nat) (g : JFrame), W p l e R s m args below meth c H locs k n Q g → GW H locs k n g) → (∀ (H : Heap) (locs : List Loc) (k n : Nat) (g : JFrame), GW H locs k n g → W p l e R s m args below meth c H locs k n Q g) → GW H locs cells slots g) : W p l e R s m args below meth c H locs cells slots Q g :=
  kk _ (fun _ _ _ _ _ h => h) (fun _ _ _ _ _ h => h)
theorem cA_is {cA cI : ClassId} {t0 t1 : Nat} (hK : va_K D vwCl tys s) (h0 : tys[t0]? = some (cI, .int)) (h1 : tys[t1]? = some (cA, .int)) : cA = cI :=
  Option.some.inj ((va_nm_int (hK.2 t1 _ h1).2).symm.trans (va_nm_int (hK.2 t0 _ h0).2))
theorem cQ_is {cA cQ : ClassId} {t0 t1 : Nat} (hK : va_K D vwCl tys s) (h0 : tys[t0]? = some (cQ, .array .int)) (h1 : tys[t1]? = some (cA, .array .int)) : cA = cQ :=
  Option.some.inj ((hK.2 t1 _ h1).2.symm.trans (hK.2 t0 _ h0).2)
end CC
/-! ===== the rows of an array of ten arrays ===== -/
theorem rows10 {P : Nat → Prop} (h0 : P 0) (h1 : P 1) (h2 : P 2) (h3 : P 3) (h4 : P 4) (h5 : P 5) (h6 : P 6) (h7 : P 7) (h8 : P 8) (h9 : P 9) : ∀ i, i < 10 → P i := by
  intro i hi
  match i, hi with
  | 0, _ => exact h0
  | 1, _ => exact h1
  | 2, _ => exact h2
  | 3, _ => exact h3
  | 4, _ => exact h4
  | 5, _ => exact h5
  | 6, _ => exact h6
  | 7, _ => exact h7
  | 8, _ => exact h8
  | 9, _ => exact h9
theorem cl_lt {x : Int32} {n : Nat} (h : vp_in x n) : x.toNatClampNeg < n := Nat.not_le.mp fun q => h (Or.inr q)
theorem row_ref {R : Nat → Nat} {k : Int32} (h : vp_in k 10) : va_rf ((fun i => if i < 10 then some (R i) else none) k.toNatClampNeg) = .ref (R k.toNatClampNeg) := by
  show va_rf (if k.toNatClampNeg < 10 then some (R k.toNatClampNeg) else none) = _
  rw [if_pos (cl_lt h)]
  rfl
theorem rows_lay {f : Nat → va_E} {E : va_E} {rr : Nat → Nat} : va_pl ([] ++ (List.range 10).map rr) (vr_up f ((List.range 10).map rr) E) = [(rr 0, E), (rr 1, E), (rr 2, E), (rr 3, E), (rr 4, E), (rr 5, E), (rr 6, E), (rr 7, E), (rr 8, E), (rr 9, E)] := by
  have h : ∀ i, i < 10 → vr_up f ((List.range 10).map rr) E (rr i) = E := fun i hi => vr_up_in (List.mem_map.mpr ⟨i, List.mem_range.mpr hi, rfl⟩)
  have e : ([] ++ (List.range 10).map rr) = [rr 0, rr 1, rr 2, rr 3, rr 4, rr 5, rr 6, rr 7, rr 8, rr 9] := rfl
  unfold va_pl
  rw [e]
  simp only [List.map, h 0 (by omega), h 1 (by omega), h 2 (by omega), h 3 (by omega), h 4 (by omega), h 5 (by omega), h 6 (by omega), h 7 (by omega), h 8 (by omega), h 9 (by omega)]
section VALA
variable {p : Program} {l : Launch} {e : Env} {R : Room} {s : State} {m : MethodId} {args : Array Value} {below : List Frame} {meth : Method} {c : Code} {H : Heap} {locs : List Loc} {cells slots : Nat} {Q : State → Prop}
variable {cc : ByteArray} {pc : Nat} {ls : Array Slot} {rest : List Value} {D : va_G} {cl : List vw_C} {a : Nat} {tys : List (ClassId × FieldType)} {ws : va_W}
/-- aaload out of an array of arrays -/
theorem va_aldA (hexec : p.tables.exec = Jvm.exec) (hb : c.code = cc) (hK : va_K D cl tys s) (hP : va_P D cl ws H) (q0 t0 : Nat) {cA : ClassId} {ty : FieldType} {n : Nat} {f : Nat → Option Nat} (ha : ws[q0]? = some (a, .inl (cA, n, .inr (.inr (.inr (.inr f)))))) (ht : tys[t0]? = some (cA, .array ty)) {i : Int32} (hin : vp_in i n) (hdg : decode cc pc = .ok (.aaload, 1))
    (kk : W p l e R s m args below meth c H locs cells slots Q (F0 m (pc + 1) ls (va_rf (f i.toNatClampNeg) :: rest))) : W p l e R s m args below meth c H locs cells slots Q (F0 m pc ls (.int i :: .ref a :: rest)) := by
  have hlt : i.toNatClampNeg < n := Nat.not_le.mp fun q => hin (Or.inr q)
  exact W.aald (v := va_rf (f i.toNatClampNeg)) (ty := .array ty) hexec hb (hP q0 _ ha) ((hK.2 t0 _ ht).1 n (fun j => va_rf (f j))) rfl (fun q => by cases q) (by show ¬ (i < 0 ∨ (arrV _ _ _).slots.size ≤ _); rw [arrV_size]; exact hin) (by show (arrV _ _ _).slots[_]? = _; rw [arrV_read _ _ hlt]) rfl rfl hdg kk
end VALA
/-! ===== pure helpers ===== -/

