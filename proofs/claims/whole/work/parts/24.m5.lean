abbrev rm_X6_isOpen : Room := { frames := 1, cells := 0, slots := 0, locals := 20 }
abbrev cl_X6_isOpen (ad : Nat → Nat) (cs : Nat → ClassId) (vH_fill vH_patience vE_placed vE_playing vE_out vE_turn vL_size : Int32) : va_W := [((ad 0), .inr (6, [.ref (ad 1), .ref (ad 6), .ref (ad 8), .ref (ad 12), .ref (ad 19), .ref (ad 22), .int vH_fill, .int vH_patience])), ((ad 19), .inr (4, [.ref (ad 6), .ref (ad 20), .ref (ad 21), .int vE_placed, .int vE_playing, .int vE_out, .int vE_turn])), ((ad 22), .inr (0, [.ref (ad 23), .ref (ad 24), .ref (ad 25), .ref (ad 26), .ref (ad 27), .int vL_size]))]
abbrev ty_X6_isOpen (cs : Nat → ClassId) : List (ClassId × FieldType) := []
def wp_X6_isOpen (vH_fill vH_patience vE_placed vE_playing vE_out vE_turn vL_size : Int32) (Q : Int32 → Prop) : Prop :=
 wp_X4_onTurn vE_placed vE_playing vE_out vE_turn (fun r_1 =>
 ((r_1 = (-1 : Int32) → Q (0 : Int32)) ∧
 (¬ r_1 = (-1 : Int32) → wp_X0_size vL_size (fun r_3 =>
 (((300 : Int32) ≤ r_3 → Q (0 : Int32)) ∧
 (¬ (300 : Int32) ≤ r_3 → Q (1 : Int32)))))))
set_option maxHeartbeats 4000000 in
set_option maxRecDepth 100000 in
theorem b_X6_isOpen {p : Program} {e : Env} {s : State} {m : MethodId} {args : Array Value} {below : List Frame} {meth : Method} {c : Code} {QQ : State → Prop} {A : Nat → Prop} {ls : Array Slot} (l : Launch) (D : va_G) (ad : Nat → Nat) (cs : Nat → ClassId) (vH_fill vH_patience vE_placed vE_playing vE_out vE_turn vL_size : Int32) (Q : Int32 → Prop) (hx : p.tables.exec = Jvm.exec) (hb : c.code = cX6_isOpen) (hml : c.maxLocals = 1) (hown : s.vm.findClass RX6 = some m.cls) (hts : ∀ w ∈ wsX6_isOpen, w.before args s = true) (hN : NW s) (hP : va_P D vwCl (cl_X6_isOpen ad cs vH_fill vH_patience vE_placed vE_playing vE_out vE_turn vL_size) s.heap) (hK : va_K D vwCl (ty_X6_isOpen cs) s) (hD : va_D A (cl_X6_isOpen ad cs vH_fill vH_patience vE_placed vE_playing vE_out vE_turn vL_size)) (hA : ∀ q : Nat, s.heap.size ≤ q → A q) (hl : lv_has ls 1 [(0, .ref (ad 0))])
  (hret : ∀ (r : Int32) (pc : Nat) (ls : Array Slot), nb r → Q r → decode cX6_isOpen pc = .ok (.ireturn, 1) → W p l e rm_X6_isOpen s m args below meth c s.heap [] 0 0 QQ (F0 m pc ls [.int r]))
  (hw : wp_X6_isOpen vH_fill vH_patience vE_placed vE_playing vE_out vE_turn vL_size Q) :
  W p l e rm_X6_isOpen s m args below meth c s.heap [] 0 0 QQ (F0 m 0 ls []) := by
  have S0 : CallFix p m c cX6_isOpen 1 s args wsX6_isOpen RX6 := ⟨hx, hb, hml, hown, hts⟩
  have inX6 : ∀ w ∈ u_ws RX6 TX6 8, w ∈ wsX6_isOpen := by decide +kernel
  have fl_46 := hts (.fieldLink RX6 46 "HopperCourt" "seats" "LHopperCourt$Seats;") (by decide +kernel)
  have fl_53 := hts (.fieldLink RX6 53 "HopperCourt" "log" "LHopperCourt$Log;") (by decide +kernel)
  unfold wp_X6_isOpen at hw
  refine lv_aload_n hx hb dX6_isOpen_0 rfl (lv_at hl 0 rfl) ?_
  refine va_get (D := D) (ci := 6) (v := .ref (ad 19)) (C := RX6) (T := TX6) (N := 8) hx hb hts inX6 hown hK hP 0 rfl rfl 4 (by decide) fl_46 (fun _ h9 => h9) rfl dX6_isOpen_1 ?_
  refine pcV (rest := []) (ci := 4) S0 (c_X4_onTurn l D ad cs s.heap.size vE_placed vE_playing vE_out vE_turn _ hw) (cwV 0 hts gX6_isOpen_X4_onTurn rfl rfl rfl (by decide +kernel) ⟨Nat.le_of_ble_eq_true rfl, Nat.le_of_ble_eq_true rfl⟩) hN hK hP hD [1] [] rfl rfl rfl 1 rfl rfl rfl rfl hl.1 (Nat.le_of_ble_eq_true rfl) ⟨Nat.le_of_ble_eq_true rfl, Nat.le_of_ble_eq_true rfl⟩ dX6_isOpen_4 (fun r_1 hw => ?_)
  refine lv_iconst (v := (-1 : Int32)) hx hb dX6_isOpen_7 (by decide) ?_
  refine lv_icmp_eq (tgt := 28) hx hb dX6_isOpen_8 (by decide) (fun c_2 => ?_) (fun c_2 => ?_)
  · have hw := hw.1 c_2
    refine lv_iconst (v := (0 : Int32)) hx hb dX6_isOpen_28 (by decide) ?_
    exact hret _ _ _ nb_0 hw dX6_isOpen_29
  · have hw := hw.2 c_2
    refine lv_aload_n hx hb dX6_isOpen_11 rfl (lv_at hl 0 rfl) ?_
    refine va_get (D := D) (ci := 6) (v := .ref (ad 22)) (C := RX6) (T := TX6) (N := 8) hx hb hts inX6 hown hK hP 0 rfl rfl 5 (by decide) fl_53 (fun _ h9 => h9) rfl dX6_isOpen_12 ?_
    refine pcV (rest := []) (ci := 0) S0 (c_X0_size l D ad cs s.heap.size vL_size _ hw) (cwV 0 hts gX6_isOpen_X0_size rfl rfl rfl (by decide +kernel) ⟨Nat.le_of_ble_eq_true rfl, Nat.le_of_ble_eq_true rfl⟩) hN hK hP hD [2] [] rfl rfl rfl 2 rfl rfl rfl rfl hl.1 (Nat.le_of_ble_eq_true rfl) ⟨Nat.le_of_ble_eq_true rfl, Nat.le_of_ble_eq_true rfl⟩ dX6_isOpen_15 (fun r_3 hw => ?_)
    refine lv_sipush (v := (300 : Int32)) hx hb dX6_isOpen_18 (by decide) ?_
    refine lv_icmp_ge (tgt := 28) hx hb dX6_isOpen_21 (by decide) (fun c_4 => ?_) (fun c_4 => ?_)
    · have hw := hw.1 c_4
      refine lv_iconst (v := (0 : Int32)) hx hb dX6_isOpen_28 (by decide) ?_
      exact hret _ _ _ nb_0 hw dX6_isOpen_29
    · have hw := hw.2 c_4
      refine lv_iconst (v := (1 : Int32)) hx hb dX6_isOpen_24 (by decide) ?_
      refine lv_goto (tgt := 29) hx hb dX6_isOpen_25 (by decide) ?_
      exact hret _ _ _ nb_1 hw dX6_isOpen_29
set_option maxHeartbeats 4000000 in
set_option maxRecDepth 100000 in
theorem c_X6_isOpen (l : Launch) (D : va_G) (ad : Nat → Nat) (cs : Nat → ClassId) (sz : Nat) (vH_fill vH_patience vE_placed vE_playing vE_out vE_turn vL_size : Int32) (Q : Int32 → Prop) (hw : wp_X6_isOpen vH_fill vH_patience vE_placed vE_playing vE_out vE_turn vL_size Q) :
  Met l yX6_isOpen wsX6_isOpen rm_X6_isOpen (va_Pc [.ref (ad 0)] (PX D (cl_X6_isOpen ad cs vH_fill vH_patience vE_placed vE_playing vE_out vE_turn vL_size) (ty_X6_isOpen cs) sz)) (vp_Si Q) 0 0 (fun _ => False) := by
  refine Met.ofW (cc := cX6_isOpen) (maxL := 1) (ret := (some .boolean)) (by decide) rfl ?_
  intro p e s m args below meth c s₁ B hml hv
  obtain ⟨rfl, hsz, hP, hK, hD0, hN⟩ := hv
  subst hsz
  have hl := lv_entry ([.ref (ad 0)]) (n := 1) (Nat.le_of_ble_eq_true rfl)
  rw [lg_entry_eq]
  have hx := B.exec
  have hb := B.bytes
  have hr := B.returns
  exact b_X6_isOpen l D ad cs vH_fill vH_patience vE_placed vE_playing vE_out vE_turn vL_size Q hx hb hml (findClass_of_methodNamed B.named) (atoms_spec (ws := wsX6_isOpen) B.pre) hN hP hK hD0.self (fun q h => Or.inr h) hl (A := va_A (cl_X6_isOpen ad cs vH_fill vH_patience vE_placed vE_playing vE_out vE_turn vL_size) s.heap.size) (fun r pc ls hn hq hd => W.zret (v := r) hx hb hr hn (fun t ht hW => ⟨r, rfl, hq, ht⟩) (fun _ h => nomatch h) hd) hw
abbrev rm_X6_moves : Room := { frames := 5, cells := 0, slots := 0, locals := 118 }
abbrev cl_X6_moves (ad : Nat → Nat) (cs : Nat → ClassId) (vH_fill vH_patience : Int32) (vS_camps vS_nexts vM_owners vR_hopsToEnd vR_level vR_queue : Nat → Int32) (vE_placed vE_playing vE_out vE_turn : Int32) : va_W := [((ad 0), .inr (6, [.ref (ad 1), .ref (ad 6), .ref (ad 8), .ref (ad 12), .ref (ad 19), .ref (ad 22), .int vH_fill, .int vH_patience])), ((ad 1), .inr (5, [.ref (ad 2), .ref (ad 3), .ref (ad 4), .ref (ad 5)])), ((ad 4), .inl ((cs 4), 121, .inl vS_camps)), ((ad 5), .inl ((cs 5), 726, .inl vS_nexts)), ((ad 6), .inr (1, [.ref (ad 1), .ref (ad 7)])), ((ad 7), .inl ((cs 7), 121, .inl vM_owners)), ((ad 8), .inr (3, [.ref (ad 1), .ref (ad 6), .ref (ad 9), .ref (ad 10), .ref (ad 11)])), ((ad 9), .inl ((cs 9), 121, .inl vR_hopsToEnd)), ((ad 10), .inl ((cs 10), 121, .inl vR_level)), ((ad 11), .inl ((cs 11), 121, .inl vR_queue)), ((ad 19), .inr (4, [.ref (ad 6), .ref (ad 20), .ref (ad 21), .int vE_placed, .int vE_playing, .int vE_out, .int vE_turn]))]
abbrev ty_X6_moves (cs : Nat → ClassId) : List (ClassId × FieldType) := [((cs 4), .int), ((cs 5), .int), ((cs 7), .int), ((cs 9), .int), ((cs 10), .int), ((cs 11), .int)]
def wb_X6_moves_12 (vS_camps vS_nexts vM_owners : Nat → Int32) (x1 : Int32) (K12 : (Nat → Int32) → (Nat → Int32) → (Nat → Int32) → Int32 → Prop) (P12 : (Nat → Int32) → (Nat → Int32) → (Nat → Int32) → Int32 → Int32 → Prop) (vR_hopsToEnd vR_level vR_queue : Nat → Int32) (x2 x3 : Int32) : Prop :=
 (((121 : Int32) ≤ x3 → K12 vR_hopsToEnd vR_level vR_queue x2) ∧
 (¬ (121 : Int32) ≤ x3 → ((x1 = (-1 : Int32) → P12 vR_hopsToEnd vR_level vR_queue x2 (x3 + (1 : Int32))) ∧
 (¬ x1 = (-1 : Int32) → wp_X1_owner vM_owners x3 (fun r_3 =>
 ((¬ r_3 = x1 → P12 vR_hopsToEnd vR_level vR_queue x2 (x3 + (1 : Int32))) ∧
 (r_3 = x1 → wp_X3_search vS_camps vS_nexts vM_owners vR_hopsToEnd vR_level vR_queue x1 x3 (fun vR_hopsToEnd_5 vR_level_6 vR_queue_7 =>
 wp_X3_countEnds vR_hopsToEnd_5 (fun r_8 =>
 P12 vR_hopsToEnd_5 vR_level_6 vR_queue_7 (x2 + r_8) (x3 + (1 : Int32)))))))))))
def wl_X6_moves_12 (vS_camps vS_nexts vM_owners : Nat → Int32) (x1 : Int32) (K12 : (Nat → Int32) → (Nat → Int32) → (Nat → Int32) → Int32 → Prop) (vR_hopsToEnd vR_level vR_queue : Nat → Int32) (x2 x3 : Int32) : Prop := ∀ P12 : (Nat → Int32) → (Nat → Int32) → (Nat → Int32) → Int32 → Int32 → Prop, (∀ (vR_hopsToEnd vR_level vR_queue : Nat → Int32) (x2 x3 : Int32), wb_X6_moves_12 vS_camps vS_nexts vM_owners x1 K12 P12 vR_hopsToEnd vR_level vR_queue x2 x3 → P12 vR_hopsToEnd vR_level vR_queue x2 x3) → P12 vR_hopsToEnd vR_level vR_queue x2 x3
def wp_X6_moves (vH_fill vH_patience : Int32) (vS_camps vS_nexts vM_owners vR_hopsToEnd vR_level vR_queue : Nat → Int32) (vE_placed vE_playing vE_out vE_turn : Int32) (Q : Int32 → (Nat → Int32) → (Nat → Int32) → (Nat → Int32) → Prop) : Prop :=
 wp_X4_onTurn vE_placed vE_playing vE_out vE_turn (fun r_9 =>
 wl_X6_moves_12 vS_camps vS_nexts vM_owners r_9 (fun vR_hopsToEnd_10 vR_level_11 vR_queue_12 x2_13 => Q x2_13 vR_hopsToEnd_10 vR_level_11 vR_queue_12) vR_hopsToEnd vR_level vR_queue (0 : Int32) (0 : Int32))
set_option maxHeartbeats 4000000 in
set_option maxRecDepth 100000 in
theorem b_X6_moves {p : Program} {e : Env} {s : State} {m : MethodId} {args : Array Value} {below : List Frame} {meth : Method} {c : Code} {QQ : State → Prop} {A : Nat → Prop} {ls : Array Slot} (l : Launch) (D : va_G) (ad : Nat → Nat) (cs : Nat → ClassId) (vH_fill vH_patience : Int32) (vS_camps vS_nexts vM_owners vR_hopsToEnd vR_level vR_queue : Nat → Int32) (vE_placed vE_playing vE_out vE_turn : Int32) (Q : Int32 → (Nat → Int32) → (Nat → Int32) → (Nat → Int32) → Prop) (hx : p.tables.exec = Jvm.exec) (hb : c.code = cX6_moves) (hml : c.maxLocals = 4) (hown : s.vm.findClass RX6 = some m.cls) (hts : ∀ w ∈ wsX6_moves, w.before args s = true) (hN : NW s) (hP : va_P D vwCl (cl_X6_moves ad cs vH_fill vH_patience vS_camps vS_nexts vM_owners vR_hopsToEnd vR_level vR_queue vE_placed vE_playing vE_out vE_turn) s.heap) (hK : va_K D vwCl (ty_X6_moves cs) s) (hD : va_D A (cl_X6_moves ad cs vH_fill vH_patience vS_camps vS_nexts vM_owners vR_hopsToEnd vR_level vR_queue vE_placed vE_playing vE_out vE_turn)) (hA : ∀ q : Nat, s.heap.size ≤ q → A q) (hl : lv_has ls 4 [(0, .ref (ad 0))])
  (hret : ∀ (r : Int32) (o0 : Nat → Int32) (o1 : Nat → Int32) (o2 : Nat → Int32) (H : Heap) (locs : List Loc) (pc : Nat) (ls : Array Slot), Q r o0 o1 o2 → va_P D vwCl (cl_X6_moves ad cs vH_fill vH_patience vS_camps vS_nexts vM_owners o0 o1 o2 vE_placed vE_playing vE_out vE_turn) H → va_D A (cl_X6_moves ad cs vH_fill vH_patience vS_camps vS_nexts vM_owners o0 o1 o2 vE_placed vE_playing vE_out vE_turn) → va_S A s.heap H locs → decode cX6_moves pc = .ok (.ireturn, 1) → W p l e rm_X6_moves s m args below meth c H locs 0 0 QQ (F0 m pc ls [.int r]))
  (hw : wp_X6_moves vH_fill vH_patience vS_camps vS_nexts vM_owners vR_hopsToEnd vR_level vR_queue vE_placed vE_playing vE_out vE_turn Q) :
  W p l e rm_X6_moves s m args below meth c s.heap [] 0 0 QQ (F0 m 0 ls []) := by
  have S0 : CallFix p m c cX6_moves 4 s args wsX6_moves RX6 := ⟨hx, hb, hml, hown, hts⟩
  have inX6 : ∀ w ∈ u_ws RX6 TX6 8, w ∈ wsX6_moves := by decide +kernel
  have fl_21 := hts (.fieldLink RX6 21 "HopperCourt" "marbles" "LHopperCourt$Marbles;") (by decide +kernel)
  have fl_30 := hts (.fieldLink RX6 30 "HopperCourt" "reach" "LHopperCourt$Reach;") (by decide +kernel)
  have fl_46 := hts (.fieldLink RX6 46 "HopperCourt" "seats" "LHopperCourt$Seats;") (by decide +kernel)
  have hL12 : ∀ (x1 : Int32) (K12 : (Nat → Int32) → (Nat → Int32) → (Nat → Int32) → Int32 → Prop) (vR_hopsToEnd vR_level vR_queue : Nat → Int32) (x2 x3 : Int32), wl_X6_moves_12 vS_camps vS_nexts vM_owners x1 K12 vR_hopsToEnd vR_level vR_queue x2 x3 → (∀ (vR_hopsToEnd vR_level vR_queue : Nat → Int32) (x2 : Int32), K12 vR_hopsToEnd vR_level vR_queue x2 → ∀ (H : Heap) (locs : List Loc) (ls : Array Slot), va_P D vwCl (cl_X6_moves ad cs vH_fill vH_patience vS_camps vS_nexts vM_owners vR_hopsToEnd vR_level vR_queue vE_placed vE_playing vE_out vE_turn) H → va_D A (cl_X6_moves ad cs vH_fill vH_patience vS_camps vS_nexts vM_owners vR_hopsToEnd vR_level vR_queue vE_placed vE_playing vE_out vE_turn) → va_S A s.heap H locs → lv_has ls 4 [(2, .int x2)] → W p l e rm_X6_moves s m args below meth c H locs 0 0 QQ (F0 m 60 ls [])) → ∀ (H : Heap) (locs : List Loc) (ls : Array Slot), va_P D vwCl (cl_X6_moves ad cs vH_fill vH_patience vS_camps vS_nexts vM_owners vR_hopsToEnd vR_level vR_queue vE_placed vE_playing vE_out vE_turn) H → va_D A (cl_X6_moves ad cs vH_fill vH_patience vS_camps vS_nexts vM_owners vR_hopsToEnd vR_level vR_queue vE_placed vE_playing vE_out vE_turn) → va_S A s.heap H locs → lv_has ls 4 [(0, .ref (ad 0)), (1, .int x1), (2, .int x2), (3, .int x3)] → W p l e rm_X6_moves s m args below meth c H locs 0 0 QQ (F0 m 12 ls []) := by
    intro x1 K12 vR_hopsToEnd vR_level vR_queue x2 x3 hw hK12
    unfold wl_X6_moves_12 at hw
    refine hw (fun (vR_hopsToEnd vR_level vR_queue : Nat → Int32) (x2 x3 : Int32) => ∀ (H : Heap) (locs : List Loc) (ls : Array Slot), va_P D vwCl (cl_X6_moves ad cs vH_fill vH_patience vS_camps vS_nexts vM_owners vR_hopsToEnd vR_level vR_queue vE_placed vE_playing vE_out vE_turn) H → va_D A (cl_X6_moves ad cs vH_fill vH_patience vS_camps vS_nexts vM_owners vR_hopsToEnd vR_level vR_queue vE_placed vE_playing vE_out vE_turn) → va_S A s.heap H locs → lv_has ls 4 [(0, .ref (ad 0)), (1, .int x1), (2, .int x2), (3, .int x3)] → W p l e rm_X6_moves s m args below meth c H locs 0 0 QQ (F0 m 12 ls [])) ?_
    intro vR_hopsToEnd vR_level vR_queue x2 x3 hw H locs ls hP hD hS hl
    unfold wb_X6_moves_12 at hw
    refine lv_iload_n hx hb dX6_moves_12 rfl (lv_at hl 3 rfl) ?_
    refine lv_bipush (v := (121 : Int32)) hx hb dX6_moves_13 (by decide) ?_
    refine lv_icmp_ge (tgt := 60) hx hb dX6_moves_15 (by decide) (fun c_1 => ?_) (fun c_1 => ?_)
    · have hw := hw.1 c_1
      exact hK12 vR_hopsToEnd vR_level vR_queue x2 hw _ _ _ hP hD hS (lv_sub hl [2] rfl)
    · have hw := hw.2 c_1
      refine lv_iload_n hx hb dX6_moves_18 rfl (lv_at hl 1 rfl) ?_
      refine lv_iconst (v := (-1 : Int32)) hx hb dX6_moves_19 (by decide) ?_
      refine lv_icmp_eq (tgt := 54) hx hb dX6_moves_20 (by decide) (fun c_2 => ?_) (fun c_2 => ?_)
      · have hw := hw.1 c_2
        refine lv_iinc (v := (x3 + (1 : Int32))) (lv' := [(3, .int (x3 + (1 : Int32))), (0, .ref (ad 0)), (1, .int x1), (2, .int x2)]) hx hb dX6_moves_54 hl (k := 3) rfl rfl (by decide) rfl (fun ls hl => ?_)
        refine lv_goto (tgt := 12) hx hb dX6_moves_57 (by decide) ?_
        exact hw _ _ _ hP hD hS (lv_sub hl [1, 2, 3, 0] rfl)
      · have hw := hw.2 c_2
        refine lv_aload_n hx hb dX6_moves_23 rfl (lv_at hl 0 rfl) ?_
        refine va_get (D := D) (ci := 6) (v := .ref (ad 6)) (C := RX6) (T := TX6) (N := 8) hx hb hts inX6 hown hK hP 0 rfl rfl 1 (by decide) fl_21 (fun _ h9 => h9) rfl dX6_moves_24 ?_
        refine lv_iload_n hx hb dX6_moves_27 rfl (lv_at hl 3 rfl) ?_
        refine pcV (rest := []) (ci := 1) S0 (c_X1_owner l D ad cs H.size vM_owners x3 _ hw) (cwV 1 hts gX6_moves_X1_owner rfl rfl rfl (by decide +kernel) ⟨Nat.le_of_ble_eq_true rfl, Nat.le_of_ble_eq_true rfl⟩) hN hK hP hD [4, 5] [2] rfl rfl rfl 4 rfl rfl rfl rfl hl.1 (Nat.le_of_ble_eq_true rfl) ⟨Nat.le_of_ble_eq_true rfl, Nat.le_of_ble_eq_true rfl⟩ dX6_moves_28 (fun r_3 hw => ?_)
        refine lv_iload_n hx hb dX6_moves_31 rfl (lv_at hl 1 rfl) ?_
        refine lv_icmp_ne (tgt := 54) hx hb dX6_moves_32 (by decide) (fun c_4 => ?_) (fun c_4 => ?_)
        · have hw := hw.1 c_4
          refine lv_iinc (v := (x3 + (1 : Int32))) (lv' := [(3, .int (x3 + (1 : Int32))), (0, .ref (ad 0)), (1, .int x1), (2, .int x2)]) hx hb dX6_moves_54 hl (k := 3) rfl rfl (by decide) rfl (fun ls hl => ?_)
          refine lv_goto (tgt := 12) hx hb dX6_moves_57 (by decide) ?_
          exact hw _ _ _ hP hD hS (lv_sub hl [1, 2, 3, 0] rfl)
        · have hw := hw.2 c_4
          refine lv_aload_n hx hb dX6_moves_35 rfl (lv_at hl 0 rfl) ?_
          refine va_get (D := D) (ci := 6) (v := .ref (ad 8)) (C := RX6) (T := TX6) (N := 8) hx hb hts inX6 hown hK hP 0 rfl rfl 2 (by decide) fl_30 (fun _ h9 => h9) rfl dX6_moves_36 ?_
          refine lv_iload_n hx hb dX6_moves_39 rfl (lv_at hl 1 rfl) ?_
          refine lv_iload_n hx hb dX6_moves_40 rfl (lv_at hl 3 rfl) ?_
          refine pcVv (rest := []) (wr := [((ad 0), .inr (6, [.ref (ad 1), .ref (ad 6), .ref (ad 8), .ref (ad 12), .ref (ad 19), .ref (ad 22), .int vH_fill, .int vH_patience])), ((ad 19), .inr (4, [.ref (ad 6), .ref (ad 20), .ref (ad 21), .int vE_placed, .int vE_playing, .int vE_out, .int vE_turn]))]) (ci := 3) S0 (c_X3_search l D ad cs H.size vS_camps vS_nexts vM_owners vR_hopsToEnd vR_level vR_queue x1 x3 _ hw) (cwV 2 hts gX6_moves_X3_search rfl rfl rfl (by decide +kernel) ⟨Nat.le_of_ble_eq_true rfl, Nat.le_of_ble_eq_true rfl⟩) hN hK hP hD hS hA [1, 2, 3, 4, 5, 6, 7, 8, 9] [0, 10] [0, 1, 2, 3, 4, 5] ⟨rfl, rfl, rfl, rfl, rfl, by decide⟩ 6 rfl rfl rfl rfl hl.1 (Nat.le_of_ble_eq_true rfl) ⟨Nat.le_of_ble_eq_true rfl, Nat.le_of_ble_eq_true rfl⟩ dX6_moves_41 (fun u H locs hw hP hD hS => ?_)
          obtain ⟨vR_hopsToEnd_5, vR_level_6, vR_queue_7⟩ := u
          dsimp only at hw
          have hP : va_P D vwCl (cl_X6_moves ad cs vH_fill vH_patience vS_camps vS_nexts vM_owners vR_hopsToEnd_5 vR_level_6 vR_queue_7 vE_placed vE_playing vE_out vE_turn) H := hP.sub [0, 2, 3, 4, 5, 6, 7, 8, 9, 10, 1] rfl
          have hD : va_D A (cl_X6_moves ad cs vH_fill vH_patience vS_camps vS_nexts vM_owners vR_hopsToEnd_5 vR_level_6 vR_queue_7 vE_placed vE_playing vE_out vE_turn) := hD.sub [0, 2, 3, 4, 5, 6, 7, 8, 9, 10, 1] (by decide) rfl
          refine lv_iload_n hx hb dX6_moves_44 rfl (lv_at hl 2 rfl) ?_
          refine lv_aload_n hx hb dX6_moves_45 rfl (lv_at hl 0 rfl) ?_
          refine va_get (D := D) (ci := 6) (v := .ref (ad 8)) (C := RX6) (T := TX6) (N := 8) hx hb hts inX6 hown hK hP 0 rfl rfl 2 (by decide) fl_30 (fun _ h9 => h9) rfl dX6_moves_46 ?_
          refine pcV (rest := [.int x2]) (ci := 3) S0 (c_X3_countEnds l D ad cs H.size vR_hopsToEnd_5 _ hw) (cwV 0 hts gX6_moves_X3_countEnds rfl rfl rfl (by decide +kernel) ⟨Nat.le_of_ble_eq_true rfl, Nat.le_of_ble_eq_true rfl⟩) hN hK hP hD [6, 7] [3] rfl rfl rfl 6 rfl rfl rfl rfl hl.1 (Nat.le_of_ble_eq_true rfl) ⟨Nat.le_of_ble_eq_true rfl, Nat.le_of_ble_eq_true rfl⟩ dX6_moves_49 (fun r_8 hw => ?_)
          refine lv_iadd hx hb dX6_moves_52 ?_
          refine lv_istore_n (lv' := [(2, .int (x2 + r_8)), (0, .ref (ad 0)), (1, .int x1), (3, .int x3)]) hx hb dX6_moves_53 rfl hl (by decide) rfl (fun ls hl => ?_)
          refine lv_iinc (v := (x3 + (1 : Int32))) (lv' := [(3, .int (x3 + (1 : Int32))), (2, .int (x2 + r_8)), (0, .ref (ad 0)), (1, .int x1)]) hx hb dX6_moves_54 hl (k := 3) rfl rfl (by decide) rfl (fun ls hl => ?_)
          refine lv_goto (tgt := 12) hx hb dX6_moves_57 (by decide) ?_
          exact hw _ _ _ hP hD hS (lv_sub hl [2, 3, 1, 0] rfl)
  obtain ⟨H, hH⟩ : ∃ H : Heap, H = s.heap := ⟨_, rfl⟩
  have hS : va_S A s.heap H [] := by rw [hH]; exact va_S.rf
  rw [← hH] at hP ⊢
  unfold wp_X6_moves at hw
  refine lv_aload_n hx hb dX6_moves_0 rfl (lv_at hl 0 rfl) ?_
  refine va_get (D := D) (ci := 6) (v := .ref (ad 19)) (C := RX6) (T := TX6) (N := 8) hx hb hts inX6 hown hK hP 0 rfl rfl 4 (by decide) fl_46 (fun _ h9 => h9) rfl dX6_moves_1 ?_
  refine pcV (rest := []) (ci := 4) S0 (c_X4_onTurn l D ad cs H.size vE_placed vE_playing vE_out vE_turn _ hw) (cwV 0 hts gX6_moves_X4_onTurn rfl rfl rfl (by decide +kernel) ⟨Nat.le_of_ble_eq_true rfl, Nat.le_of_ble_eq_true rfl⟩) hN hK hP hD [10] [] rfl rfl rfl 10 rfl rfl rfl rfl hl.1 (Nat.le_of_ble_eq_true rfl) ⟨Nat.le_of_ble_eq_true rfl, Nat.le_of_ble_eq_true rfl⟩ dX6_moves_4 (fun r_9 hw => ?_)
  refine lv_istore_n (lv' := [(1, .int r_9), (0, .ref (ad 0))]) hx hb dX6_moves_7 rfl hl (by decide) rfl (fun ls hl => ?_)
  refine lv_iconst (v := (0 : Int32)) hx hb dX6_moves_8 (by decide) ?_
  refine lv_istore_n (lv' := [(2, .int (0 : Int32)), (1, .int r_9), (0, .ref (ad 0))]) hx hb dX6_moves_9 rfl hl (by decide) rfl (fun ls hl => ?_)
  refine lv_iconst (v := (0 : Int32)) hx hb dX6_moves_10 (by decide) ?_
  refine lv_istore_n (lv' := [(3, .int (0 : Int32)), (2, .int (0 : Int32)), (1, .int r_9), (0, .ref (ad 0))]) hx hb dX6_moves_11 rfl hl (by decide) rfl (fun ls hl => ?_)
  refine hL12 r_9 _ vR_hopsToEnd vR_level vR_queue (0 : Int32) (0 : Int32) hw ?_ _ _ _ hP hD hS (lv_sub hl [3, 2, 1, 0] rfl)
  intro vR_hopsToEnd_10 vR_level_11 vR_queue_12 x2_13 hw H locs ls hP hD hS hl
  refine lv_iload_n hx hb dX6_moves_60 rfl (lv_at hl 0 rfl) ?_
  exact hret _ _ _ _ _ _ _ _ hw hP hD hS dX6_moves_61
set_option maxHeartbeats 4000000 in
set_option maxRecDepth 100000 in
theorem c_X6_moves (l : Launch) (D : va_G) (ad : Nat → Nat) (cs : Nat → ClassId) (sz : Nat) (vH_fill vH_patience : Int32) (vS_camps vS_nexts vM_owners vR_hopsToEnd vR_level vR_queue : Nat → Int32) (vE_placed vE_playing vE_out vE_turn : Int32) (Q : Int32 → (Nat → Int32) → (Nat → Int32) → (Nat → Int32) → Prop) (hw : wp_X6_moves vH_fill vH_patience vS_camps vS_nexts vM_owners vR_hopsToEnd vR_level vR_queue vE_placed vE_playing vE_out vE_turn Q) :
  Met l yX6_moves wsX6_moves rm_X6_moves (va_Pc [.ref (ad 0)] (PX D (cl_X6_moves ad cs vH_fill vH_patience vS_camps vS_nexts vM_owners vR_hopsToEnd vR_level vR_queue vE_placed vE_playing vE_out vE_turn) (ty_X6_moves cs) sz)) (va_Qi (fun (r : Int32) (u : (Nat → Int32) × (Nat → Int32) × (Nat → Int32)) => Q r u.1 u.2.1 u.2.2) (fun (u : (Nat → Int32) × (Nat → Int32) × (Nat → Int32)) t => va_P D vwCl (cl_X6_moves ad cs vH_fill vH_patience vS_camps vS_nexts vM_owners u.1 u.2.1 u.2.2 vE_placed vE_playing vE_out vE_turn) t.heap ∧ va_D (va_A (cl_X6_moves ad cs vH_fill vH_patience vS_camps vS_nexts vM_owners vR_hopsToEnd vR_level vR_queue vE_placed vE_playing vE_out vE_turn) sz) (cl_X6_moves ad cs vH_fill vH_patience vS_camps vS_nexts vM_owners u.1 u.2.1 u.2.2 vE_placed vE_playing vE_out vE_turn)) (va_A (cl_X6_moves ad cs vH_fill vH_patience vS_camps vS_nexts vM_owners vR_hopsToEnd vR_level vR_queue vE_placed vE_playing vE_out vE_turn) sz)) 0 0 (va_A (cl_X6_moves ad cs vH_fill vH_patience vS_camps vS_nexts vM_owners vR_hopsToEnd vR_level vR_queue vE_placed vE_playing vE_out vE_turn) sz) := by
  refine Met.ofW (cc := cX6_moves) (maxL := 4) (ret := (some .int)) (by decide) rfl ?_
  intro p e s m args below meth c s₁ B hml hv
  obtain ⟨rfl, hsz, hP, hK, hD0, hN⟩ := hv
  subst hsz
  have hl := lv_entry ([.ref (ad 0)]) (n := 4) (Nat.le_of_ble_eq_true rfl)
  rw [lg_entry_eq]
  have hx := B.exec
  have hb := B.bytes
  have hr := B.returns
  exact b_X6_moves l D ad cs vH_fill vH_patience vS_camps vS_nexts vM_owners vR_hopsToEnd vR_level vR_queue vE_placed vE_playing vE_out vE_turn Q hx hb hml (findClass_of_methodNamed B.named) (atoms_spec (ws := wsX6_moves) B.pre) hN hP hK hD0.self (fun q h => Or.inr h) hl (fun r o0 o1 o2 H locs pc ls hq hP hD hS hd => W.iret (v := r) hx hb hr (fun t ht hW => ⟨⟨r, (o0, o1, o2), rfl, hq, by rw [ht]; exact hP, hD⟩, hS.F ht⟩) hS.2.2 hd) hw
abbrev rm_X6_turn : Room := { frames := 1, cells := 0, slots := 0, locals := 20 }
abbrev cl_X6_turn (ad : Nat → Nat) (cs : Nat → ClassId) (vH_fill vH_patience vE_placed vE_playing vE_out vE_turn : Int32) : va_W := [((ad 0), .inr (6, [.ref (ad 1), .ref (ad 6), .ref (ad 8), .ref (ad 12), .ref (ad 19), .ref (ad 22), .int vH_fill, .int vH_patience])), ((ad 19), .inr (4, [.ref (ad 6), .ref (ad 20), .ref (ad 21), .int vE_placed, .int vE_playing, .int vE_out, .int vE_turn]))]
abbrev ty_X6_turn (cs : Nat → ClassId) : List (ClassId × FieldType) := []
def wp_X6_turn (vH_fill vH_patience vE_placed vE_playing vE_out vE_turn : Int32) (Q : Int32 → Prop) : Prop :=
 wp_X4_onTurn vE_placed vE_playing vE_out vE_turn (fun r_1 =>
 Q r_1)
set_option maxHeartbeats 4000000 in
set_option maxRecDepth 100000 in
theorem b_X6_turn {p : Program} {e : Env} {s : State} {m : MethodId} {args : Array Value} {below : List Frame} {meth : Method} {c : Code} {QQ : State → Prop} {A : Nat → Prop} {ls : Array Slot} (l : Launch) (D : va_G) (ad : Nat → Nat) (cs : Nat → ClassId) (vH_fill vH_patience vE_placed vE_playing vE_out vE_turn : Int32) (Q : Int32 → Prop) (hx : p.tables.exec = Jvm.exec) (hb : c.code = cX6_turn) (hml : c.maxLocals = 1) (hown : s.vm.findClass RX6 = some m.cls) (hts : ∀ w ∈ wsX6_turn, w.before args s = true) (hN : NW s) (hP : va_P D vwCl (cl_X6_turn ad cs vH_fill vH_patience vE_placed vE_playing vE_out vE_turn) s.heap) (hK : va_K D vwCl (ty_X6_turn cs) s) (hD : va_D A (cl_X6_turn ad cs vH_fill vH_patience vE_placed vE_playing vE_out vE_turn)) (hA : ∀ q : Nat, s.heap.size ≤ q → A q) (hl : lv_has ls 1 [(0, .ref (ad 0))])
  (hret : ∀ (r : Int32) (pc : Nat) (ls : Array Slot), Q r → decode cX6_turn pc = .ok (.ireturn, 1) → W p l e rm_X6_turn s m args below meth c s.heap [] 0 0 QQ (F0 m pc ls [.int r]))
  (hw : wp_X6_turn vH_fill vH_patience vE_placed vE_playing vE_out vE_turn Q) :
  W p l e rm_X6_turn s m args below meth c s.heap [] 0 0 QQ (F0 m 0 ls []) := by
  have S0 : CallFix p m c cX6_turn 1 s args wsX6_turn RX6 := ⟨hx, hb, hml, hown, hts⟩
  have inX6 : ∀ w ∈ u_ws RX6 TX6 8, w ∈ wsX6_turn := by decide +kernel
  have fl_46 := hts (.fieldLink RX6 46 "HopperCourt" "seats" "LHopperCourt$Seats;") (by decide +kernel)
  unfold wp_X6_turn at hw
  refine lv_aload_n hx hb dX6_turn_0 rfl (lv_at hl 0 rfl) ?_
  refine va_get (D := D) (ci := 6) (v := .ref (ad 19)) (C := RX6) (T := TX6) (N := 8) hx hb hts inX6 hown hK hP 0 rfl rfl 4 (by decide) fl_46 (fun _ h9 => h9) rfl dX6_turn_1 ?_
  refine pcV (rest := []) (ci := 4) S0 (c_X4_onTurn l D ad cs s.heap.size vE_placed vE_playing vE_out vE_turn _ hw) (cwV 0 hts gX6_turn_X4_onTurn rfl rfl rfl (by decide +kernel) ⟨Nat.le_of_ble_eq_true rfl, Nat.le_of_ble_eq_true rfl⟩) hN hK hP hD [1] [] rfl rfl rfl 1 rfl rfl rfl rfl hl.1 (Nat.le_of_ble_eq_true rfl) ⟨Nat.le_of_ble_eq_true rfl, Nat.le_of_ble_eq_true rfl⟩ dX6_turn_4 (fun r_1 hw => ?_)
  exact hret _ _ _ hw dX6_turn_7
set_option maxHeartbeats 4000000 in
set_option maxRecDepth 100000 in
theorem c_X6_turn (l : Launch) (D : va_G) (ad : Nat → Nat) (cs : Nat → ClassId) (sz : Nat) (vH_fill vH_patience vE_placed vE_playing vE_out vE_turn : Int32) (Q : Int32 → Prop) (hw : wp_X6_turn vH_fill vH_patience vE_placed vE_playing vE_out vE_turn Q) :
  Met l yX6_turn wsX6_turn rm_X6_turn (va_Pc [.ref (ad 0)] (PX D (cl_X6_turn ad cs vH_fill vH_patience vE_placed vE_playing vE_out vE_turn) (ty_X6_turn cs) sz)) (vp_Si Q) 0 0 (fun _ => False) := by
  refine Met.ofW (cc := cX6_turn) (maxL := 1) (ret := (some .int)) (by decide) rfl ?_
  intro p e s m args below meth c s₁ B hml hv
  obtain ⟨rfl, hsz, hP, hK, hD0, hN⟩ := hv
  subst hsz
  have hl := lv_entry ([.ref (ad 0)]) (n := 1) (Nat.le_of_ble_eq_true rfl)
  rw [lg_entry_eq]
  have hx := B.exec
  have hb := B.bytes
  have hr := B.returns
  exact b_X6_turn l D ad cs vH_fill vH_patience vE_placed vE_playing vE_out vE_turn Q hx hb hml (findClass_of_methodNamed B.named) (atoms_spec (ws := wsX6_turn) B.pre) hN hP hK hD0.self (fun q h => Or.inr h) hl (A := va_A (cl_X6_turn ad cs vH_fill vH_patience vE_placed vE_playing vE_out vE_turn) s.heap.size) (fun r pc ls hq hd => W.iret (v := r) hx hb hr (fun t ht hW => ⟨r, rfl, hq, ht⟩) (fun _ h => nomatch h) hd) hw
abbrev rm_X6_made : Room := { frames := 1, cells := 0, slots := 0, locals := 20 }
abbrev cl_X6_made (ad : Nat → Nat) (cs : Nat → ClassId) (vH_fill vH_patience vL_size : Int32) : va_W := [((ad 0), .inr (6, [.ref (ad 1), .ref (ad 6), .ref (ad 8), .ref (ad 12), .ref (ad 19), .ref (ad 22), .int vH_fill, .int vH_patience])), ((ad 22), .inr (0, [.ref (ad 23), .ref (ad 24), .ref (ad 25), .ref (ad 26), .ref (ad 27), .int vL_size]))]
abbrev ty_X6_made (cs : Nat → ClassId) : List (ClassId × FieldType) := []
def wp_X6_made (vH_fill vH_patience vL_size : Int32) (Q : Int32 → Prop) : Prop :=
 wp_X0_size vL_size (fun r_1 =>
 Q r_1)
set_option maxHeartbeats 4000000 in
set_option maxRecDepth 100000 in
theorem b_X6_made {p : Program} {e : Env} {s : State} {m : MethodId} {args : Array Value} {below : List Frame} {meth : Method} {c : Code} {QQ : State → Prop} {A : Nat → Prop} {ls : Array Slot} (l : Launch) (D : va_G) (ad : Nat → Nat) (cs : Nat → ClassId) (vH_fill vH_patience vL_size : Int32) (Q : Int32 → Prop) (hx : p.tables.exec = Jvm.exec) (hb : c.code = cX6_made) (hml : c.maxLocals = 1) (hown : s.vm.findClass RX6 = some m.cls) (hts : ∀ w ∈ wsX6_made, w.before args s = true) (hN : NW s) (hP : va_P D vwCl (cl_X6_made ad cs vH_fill vH_patience vL_size) s.heap) (hK : va_K D vwCl (ty_X6_made cs) s) (hD : va_D A (cl_X6_made ad cs vH_fill vH_patience vL_size)) (hA : ∀ q : Nat, s.heap.size ≤ q → A q) (hl : lv_has ls 1 [(0, .ref (ad 0))])
  (hret : ∀ (r : Int32) (pc : Nat) (ls : Array Slot), Q r → decode cX6_made pc = .ok (.ireturn, 1) → W p l e rm_X6_made s m args below meth c s.heap [] 0 0 QQ (F0 m pc ls [.int r]))
  (hw : wp_X6_made vH_fill vH_patience vL_size Q) :
  W p l e rm_X6_made s m args below meth c s.heap [] 0 0 QQ (F0 m 0 ls []) := by
  have S0 : CallFix p m c cX6_made 1 s args wsX6_made RX6 := ⟨hx, hb, hml, hown, hts⟩
  have inX6 : ∀ w ∈ u_ws RX6 TX6 8, w ∈ wsX6_made := by decide +kernel
  have fl_53 := hts (.fieldLink RX6 53 "HopperCourt" "log" "LHopperCourt$Log;") (by decide +kernel)
  unfold wp_X6_made at hw
  refine lv_aload_n hx hb dX6_made_0 rfl (lv_at hl 0 rfl) ?_
  refine va_get (D := D) (ci := 6) (v := .ref (ad 22)) (C := RX6) (T := TX6) (N := 8) hx hb hts inX6 hown hK hP 0 rfl rfl 5 (by decide) fl_53 (fun _ h9 => h9) rfl dX6_made_1 ?_
  refine pcV (rest := []) (ci := 0) S0 (c_X0_size l D ad cs s.heap.size vL_size _ hw) (cwV 0 hts gX6_made_X0_size rfl rfl rfl (by decide +kernel) ⟨Nat.le_of_ble_eq_true rfl, Nat.le_of_ble_eq_true rfl⟩) hN hK hP hD [1] [] rfl rfl rfl 1 rfl rfl rfl rfl hl.1 (Nat.le_of_ble_eq_true rfl) ⟨Nat.le_of_ble_eq_true rfl, Nat.le_of_ble_eq_true rfl⟩ dX6_made_4 (fun r_1 hw => ?_)
  exact hret _ _ _ hw dX6_made_7
set_option maxHeartbeats 4000000 in
set_option maxRecDepth 100000 in
theorem c_X6_made (l : Launch) (D : va_G) (ad : Nat → Nat) (cs : Nat → ClassId) (sz : Nat) (vH_fill vH_patience vL_size : Int32) (Q : Int32 → Prop) (hw : wp_X6_made vH_fill vH_patience vL_size Q) :
  Met l yX6_made wsX6_made rm_X6_made (va_Pc [.ref (ad 0)] (PX D (cl_X6_made ad cs vH_fill vH_patience vL_size) (ty_X6_made cs) sz)) (vp_Si Q) 0 0 (fun _ => False) := by
  refine Met.ofW (cc := cX6_made) (maxL := 1) (ret := (some .int)) (by decide) rfl ?_
  intro p e s m args below meth c s₁ B hml hv
  obtain ⟨rfl, hsz, hP, hK, hD0, hN⟩ := hv
  subst hsz
  have hl := lv_entry ([.ref (ad 0)]) (n := 1) (Nat.le_of_ble_eq_true rfl)
  rw [lg_entry_eq]
  have hx := B.exec
  have hb := B.bytes
  have hr := B.returns
  exact b_X6_made l D ad cs vH_fill vH_patience vL_size Q hx hb hml (findClass_of_methodNamed B.named) (atoms_spec (ws := wsX6_made) B.pre) hN hP hK hD0.self (fun q h => Or.inr h) hl (A := va_A (cl_X6_made ad cs vH_fill vH_patience vL_size) s.heap.size) (fun r pc ls hq hd => W.iret (v := r) hx hb hr (fun t ht hW => ⟨r, rfl, hq, ht⟩) (fun _ h => nomatch h) hd) hw
abbrev rm_X6_bestMove : Room := { frames := 5, cells := 0, slots := 0, locals := 118 }
abbrev cl_X6_bestMove (ad : Nat → Nat) (cs : Nat → ClassId) (vH_fill vH_patience : Int32) (vS_rows vS_columns vS_camps vS_nexts vM_owners vR_hopsToEnd vR_level vR_queue vP_marbleCells vP_goalCells vP_steps vP_firstSums vP_lastSums vP_otherSums : Nat → Int32) (vE_placed vE_playing vE_out vE_turn : Int32) : va_W := [((ad 0), .inr (6, [.ref (ad 1), .ref (ad 6), .ref (ad 8), .ref (ad 12), .ref (ad 19), .ref (ad 22), .int vH_fill, .int vH_patience])), ((ad 1), .inr (5, [.ref (ad 2), .ref (ad 3), .ref (ad 4), .ref (ad 5)])), ((ad 2), .inl ((cs 2), 121, .inl vS_rows)), ((ad 3), .inl ((cs 3), 121, .inl vS_columns)), ((ad 4), .inl ((cs 4), 121, .inl vS_camps)), ((ad 5), .inl ((cs 5), 726, .inl vS_nexts)), ((ad 6), .inr (1, [.ref (ad 1), .ref (ad 7)])), ((ad 7), .inl ((cs 7), 121, .inl vM_owners)), ((ad 8), .inr (3, [.ref (ad 1), .ref (ad 6), .ref (ad 9), .ref (ad 10), .ref (ad 11)])), ((ad 9), .inl ((cs 9), 121, .inl vR_hopsToEnd)), ((ad 10), .inl ((cs 10), 121, .inl vR_level)), ((ad 11), .inl ((cs 11), 121, .inl vR_queue)), ((ad 12), .inr (2, [.ref (ad 1), .ref (ad 6), .ref (ad 13), .ref (ad 14), .ref (ad 15), .ref (ad 16), .ref (ad 17), .ref (ad 18)])), ((ad 13), .inl ((cs 13), 10, .inl vP_marbleCells)), ((ad 14), .inl ((cs 14), 10, .inl vP_goalCells)), ((ad 15), .inl ((cs 15), 100, .inl vP_steps)), ((ad 16), .inl ((cs 16), 1024, .inl vP_firstSums)), ((ad 17), .inl ((cs 17), 1024, .inl vP_lastSums)), ((ad 18), .inl ((cs 18), 100, .inl vP_otherSums)), ((ad 19), .inr (4, [.ref (ad 6), .ref (ad 20), .ref (ad 21), .int vE_placed, .int vE_playing, .int vE_out, .int vE_turn]))]
abbrev ty_X6_bestMove (cs : Nat → ClassId) : List (ClassId × FieldType) := [((cs 2), .int), ((cs 3), .int), ((cs 4), .int), ((cs 5), .int), ((cs 7), .int), ((cs 9), .int), ((cs 10), .int), ((cs 11), .int), ((cs 13), .int), ((cs 14), .int), ((cs 15), .int), ((cs 16), .int), ((cs 17), .int), ((cs 18), .int)]
def wb_X6_bestMove_62 (vS_rows vS_columns vR_hopsToEnd vP_goalCells vP_otherSums : Nat → Int32) (x4 x5 : Int32) (K62 : Int32 → Int32 → Prop) (P62 : Int32 → Int32 → Int32 → Prop) (x2 x3 x6 : Int32) : Prop :=
 (((121 : Int32) ≤ x6 → K62 x2 x3) ∧
 (¬ (121 : Int32) ≤ x6 → wp_X3_hopsTo vR_hopsToEnd x6 (fun r_2 =>
 ((¬ r_2 = (-1 : Int32) → wp_X2_sumWith vS_rows vS_columns vP_goalCells vP_otherSums x4 x6 (fun r_4 =>
 ((x3 ≤ r_4 → P62 x2 x3 (x6 + (1 : Int32))) ∧
 (¬ x3 ≤ r_4 → P62 ((x5 * (121 : Int32)) + x6) r_4 (x6 + (1 : Int32)))))) ∧
 (r_2 = (-1 : Int32) → P62 x2 x3 (x6 + (1 : Int32)))))))
def wl_X6_bestMove_62 (vS_rows vS_columns vR_hopsToEnd vP_goalCells vP_otherSums : Nat → Int32) (x4 x5 : Int32) (K62 : Int32 → Int32 → Prop) (x2 x3 x6 : Int32) : Prop := ∀ P62 : Int32 → Int32 → Int32 → Prop, (∀ (x2 x3 x6 : Int32), wb_X6_bestMove_62 vS_rows vS_columns vR_hopsToEnd vP_goalCells vP_otherSums x4 x5 K62 P62 x2 x3 x6 → P62 x2 x3 x6) → P62 x2 x3 x6
def wb_X6_bestMove_31 (vS_rows vS_columns vS_camps vS_nexts vM_owners vP_marbleCells vP_goalCells vP_otherSums : Nat → Int32) (x1 : Int32) (K31 : (Nat → Int32) → (Nat → Int32) → (Nat → Int32) → Int32 → Prop) (P31 : (Nat → Int32) → (Nat → Int32) → (Nat → Int32) → Int32 → Int32 → Int32 → Prop) (vR_hopsToEnd vR_level vR_queue : Nat → Int32) (x2 x3 x4 : Int32) : Prop :=
 (((10 : Int32) ≤ x4 → K31 vR_hopsToEnd vR_level vR_queue x2) ∧
 (¬ (10 : Int32) ≤ x4 → wp_X2_marbleCell vP_marbleCells x4 (fun r_7 =>
 wp_X3_search vS_camps vS_nexts vM_owners vR_hopsToEnd vR_level vR_queue x1 r_7 (fun vR_hopsToEnd_8 vR_level_9 vR_queue_10 =>
 wl_X6_bestMove_62 vS_rows vS_columns vR_hopsToEnd_8 vP_goalCells vP_otherSums x4 r_7 (fun x2_11 x3_12 => P31 vR_hopsToEnd_8 vR_level_9 vR_queue_10 x2_11 x3_12 (x4 + (1 : Int32))) x2 x3 (0 : Int32)))))
def wl_X6_bestMove_31 (vS_rows vS_columns vS_camps vS_nexts vM_owners vP_marbleCells vP_goalCells vP_otherSums : Nat → Int32) (x1 : Int32) (K31 : (Nat → Int32) → (Nat → Int32) → (Nat → Int32) → Int32 → Prop) (vR_hopsToEnd vR_level vR_queue : Nat → Int32) (x2 x3 x4 : Int32) : Prop := ∀ P31 : (Nat → Int32) → (Nat → Int32) → (Nat → Int32) → Int32 → Int32 → Int32 → Prop, (∀ (vR_hopsToEnd vR_level vR_queue : Nat → Int32) (x2 x3 x4 : Int32), wb_X6_bestMove_31 vS_rows vS_columns vS_camps vS_nexts vM_owners vP_marbleCells vP_goalCells vP_otherSums x1 K31 P31 vR_hopsToEnd vR_level vR_queue x2 x3 x4 → P31 vR_hopsToEnd vR_level vR_queue x2 x3 x4) → P31 vR_hopsToEnd vR_level vR_queue x2 x3 x4
def wp_X6_bestMove (vH_fill vH_patience : Int32) (vS_rows vS_columns vS_camps vS_nexts vM_owners vR_hopsToEnd vR_level vR_queue vP_marbleCells vP_goalCells vP_steps vP_firstSums vP_lastSums vP_otherSums : Nat → Int32) (vE_placed vE_playing vE_out vE_turn : Int32) (Q : Int32 → (Nat → Int32) → (Nat → Int32) → (Nat → Int32) → (Nat → Int32) → (Nat → Int32) → (Nat → Int32) → (Nat → Int32) → (Nat → Int32) → (Nat → Int32) → Prop) : Prop :=
 wp_X4_onTurn vE_placed vE_playing vE_out vE_turn (fun r_13 =>
 ((¬ r_13 = (-1 : Int32) → wp_X2_weighAllButOne vS_rows vS_columns vS_camps vM_owners vP_marbleCells vP_goalCells vP_steps vP_firstSums vP_lastSums vP_otherSums r_13 (fun vP_marbleCells_15 vP_goalCells_16 vP_steps_17 vP_firstSums_18 vP_lastSums_19 vP_otherSums_20 =>
 wl_X6_bestMove_31 vS_rows vS_columns vS_camps vS_nexts vM_owners vP_marbleCells_15 vP_goalCells_16 vP_otherSums_20 r_13 (fun vR_hopsToEnd_21 vR_level_22 vR_queue_23 x2_24 => Q x2_24 vR_hopsToEnd_21 vR_level_22 vR_queue_23 vP_marbleCells_15 vP_goalCells_16 vP_steps_17 vP_firstSums_18 vP_lastSums_19 vP_otherSums_20) vR_hopsToEnd vR_level vR_queue (-1 : Int32) (1000000 : Int32) (0 : Int32))) ∧
 (r_13 = (-1 : Int32) → Q (-1 : Int32) vR_hopsToEnd vR_level vR_queue vP_marbleCells vP_goalCells vP_steps vP_firstSums vP_lastSums vP_otherSums)))
set_option maxHeartbeats 4000000 in
set_option maxRecDepth 100000 in
theorem b_X6_bestMove {p : Program} {e : Env} {s : State} {m : MethodId} {args : Array Value} {below : List Frame} {meth : Method} {c : Code} {QQ : State → Prop} {A : Nat → Prop} {ls : Array Slot} (l : Launch) (D : va_G) (ad : Nat → Nat) (cs : Nat → ClassId) (vH_fill vH_patience : Int32) (vS_rows vS_columns vS_camps vS_nexts vM_owners vR_hopsToEnd vR_level vR_queue vP_marbleCells vP_goalCells vP_steps vP_firstSums vP_lastSums vP_otherSums : Nat → Int32) (vE_placed vE_playing vE_out vE_turn : Int32) (Q : Int32 → (Nat → Int32) → (Nat → Int32) → (Nat → Int32) → (Nat → Int32) → (Nat → Int32) → (Nat → Int32) → (Nat → Int32) → (Nat → Int32) → (Nat → Int32) → Prop) (hx : p.tables.exec = Jvm.exec) (hb : c.code = cX6_bestMove) (hml : c.maxLocals = 8) (hown : s.vm.findClass RX6 = some m.cls) (hts : ∀ w ∈ wsX6_bestMove, w.before args s = true) (hN : NW s) (hP : va_P D vwCl (cl_X6_bestMove ad cs vH_fill vH_patience vS_rows vS_columns vS_camps vS_nexts vM_owners vR_hopsToEnd vR_level vR_queue vP_marbleCells vP_goalCells vP_steps vP_firstSums vP_lastSums vP_otherSums vE_placed vE_playing vE_out vE_turn) s.heap) (hK : va_K D vwCl (ty_X6_bestMove cs) s) (hD : va_D A (cl_X6_bestMove ad cs vH_fill vH_patience vS_rows vS_columns vS_camps vS_nexts vM_owners vR_hopsToEnd vR_level vR_queue vP_marbleCells vP_goalCells vP_steps vP_firstSums vP_lastSums vP_otherSums vE_placed vE_playing vE_out vE_turn)) (hA : ∀ q : Nat, s.heap.size ≤ q → A q) (hl : lv_has ls 8 [(0, .ref (ad 0))])
  (hret : ∀ (r : Int32) (o0 : Nat → Int32) (o1 : Nat → Int32) (o2 : Nat → Int32) (o3 : Nat → Int32) (o4 : Nat → Int32) (o5 : Nat → Int32) (o6 : Nat → Int32) (o7 : Nat → Int32) (o8 : Nat → Int32) (H : Heap) (locs : List Loc) (pc : Nat) (ls : Array Slot), Q r o0 o1 o2 o3 o4 o5 o6 o7 o8 → va_P D vwCl (cl_X6_bestMove ad cs vH_fill vH_patience vS_rows vS_columns vS_camps vS_nexts vM_owners o0 o1 o2 o3 o4 o5 o6 o7 o8 vE_placed vE_playing vE_out vE_turn) H → va_D A (cl_X6_bestMove ad cs vH_fill vH_patience vS_rows vS_columns vS_camps vS_nexts vM_owners o0 o1 o2 o3 o4 o5 o6 o7 o8 vE_placed vE_playing vE_out vE_turn) → va_S A s.heap H locs → decode cX6_bestMove pc = .ok (.ireturn, 1) → W p l e rm_X6_bestMove s m args below meth c H locs 0 0 QQ (F0 m pc ls [.int r]))
  (hw : wp_X6_bestMove vH_fill vH_patience vS_rows vS_columns vS_camps vS_nexts vM_owners vR_hopsToEnd vR_level vR_queue vP_marbleCells vP_goalCells vP_steps vP_firstSums vP_lastSums vP_otherSums vE_placed vE_playing vE_out vE_turn Q) :
  W p l e rm_X6_bestMove s m args below meth c s.heap [] 0 0 QQ (F0 m 0 ls []) := by
  have S0 : CallFix p m c cX6_bestMove 8 s args wsX6_bestMove RX6 := ⟨hx, hb, hml, hown, hts⟩
  have inX6 : ∀ w ∈ u_ws RX6 TX6 8, w ∈ wsX6_bestMove := by decide +kernel
  have fl_30 := hts (.fieldLink RX6 30 "HopperCourt" "reach" "LHopperCourt$Reach;") (by decide +kernel)
  have fl_37 := hts (.fieldLink RX6 37 "HopperCourt" "pairing" "LHopperCourt$Pairing;") (by decide +kernel)
  have fl_46 := hts (.fieldLink RX6 46 "HopperCourt" "seats" "LHopperCourt$Seats;") (by decide +kernel)
  have hL62 : ∀ (vR_hopsToEnd vP_goalCells vP_otherSums : Nat → Int32) (x4 x5 : Int32) (K62 : Int32 → Int32 → Prop) (x2 x3 x6 : Int32) (vR_level vR_queue vP_marbleCells vP_steps vP_firstSums vP_lastSums : Nat → Int32) (x1 : Int32), wl_X6_bestMove_62 vS_rows vS_columns vR_hopsToEnd vP_goalCells vP_otherSums x4 x5 K62 x2 x3 x6 → (∀ (x2 x3 : Int32), K62 x2 x3 → ∀ (H : Heap) (locs : List Loc) (ls : Array Slot), va_P D vwCl (cl_X6_bestMove ad cs vH_fill vH_patience vS_rows vS_columns vS_camps vS_nexts vM_owners vR_hopsToEnd vR_level vR_queue vP_marbleCells vP_goalCells vP_steps vP_firstSums vP_lastSums vP_otherSums vE_placed vE_playing vE_out vE_turn) H → va_D A (cl_X6_bestMove ad cs vH_fill vH_patience vS_rows vS_columns vS_camps vS_nexts vM_owners vR_hopsToEnd vR_level vR_queue vP_marbleCells vP_goalCells vP_steps vP_firstSums vP_lastSums vP_otherSums vE_placed vE_playing vE_out vE_turn) → va_S A s.heap H locs → lv_has ls 8 [(0, .ref (ad 0)), (1, .int x1), (2, .int x2), (3, .int x3), (4, .int x4)] → W p l e rm_X6_bestMove s m args below meth c H locs 0 0 QQ (F0 m 122 ls [])) → ∀ (H : Heap) (locs : List Loc) (ls : Array Slot), va_P D vwCl (cl_X6_bestMove ad cs vH_fill vH_patience vS_rows vS_columns vS_camps vS_nexts vM_owners vR_hopsToEnd vR_level vR_queue vP_marbleCells vP_goalCells vP_steps vP_firstSums vP_lastSums vP_otherSums vE_placed vE_playing vE_out vE_turn) H → va_D A (cl_X6_bestMove ad cs vH_fill vH_patience vS_rows vS_columns vS_camps vS_nexts vM_owners vR_hopsToEnd vR_level vR_queue vP_marbleCells vP_goalCells vP_steps vP_firstSums vP_lastSums vP_otherSums vE_placed vE_playing vE_out vE_turn) → va_S A s.heap H locs → lv_has ls 8 [(0, .ref (ad 0)), (1, .int x1), (2, .int x2), (3, .int x3), (4, .int x4), (5, .int x5), (6, .int x6)] → W p l e rm_X6_bestMove s m args below meth c H locs 0 0 QQ (F0 m 62 ls []) := by
    intro vR_hopsToEnd vP_goalCells vP_otherSums x4 x5 K62 x2 x3 x6 vR_level vR_queue vP_marbleCells vP_steps vP_firstSums vP_lastSums x1 hw hK62
    unfold wl_X6_bestMove_62 at hw
    refine hw (fun (x2 x3 x6 : Int32) => ∀ (H : Heap) (locs : List Loc) (ls : Array Slot), va_P D vwCl (cl_X6_bestMove ad cs vH_fill vH_patience vS_rows vS_columns vS_camps vS_nexts vM_owners vR_hopsToEnd vR_level vR_queue vP_marbleCells vP_goalCells vP_steps vP_firstSums vP_lastSums vP_otherSums vE_placed vE_playing vE_out vE_turn) H → va_D A (cl_X6_bestMove ad cs vH_fill vH_patience vS_rows vS_columns vS_camps vS_nexts vM_owners vR_hopsToEnd vR_level vR_queue vP_marbleCells vP_goalCells vP_steps vP_firstSums vP_lastSums vP_otherSums vE_placed vE_playing vE_out vE_turn) → va_S A s.heap H locs → lv_has ls 8 [(0, .ref (ad 0)), (1, .int x1), (2, .int x2), (3, .int x3), (4, .int x4), (5, .int x5), (6, .int x6)] → W p l e rm_X6_bestMove s m args below meth c H locs 0 0 QQ (F0 m 62 ls [])) ?_
    intro x2 x3 x6 hw H locs ls hP hD hS hl
    unfold wb_X6_bestMove_62 at hw
    refine lv_iload hx hb dX6_bestMove_62 (lv_at hl 6 rfl) ?_
    refine lv_bipush (v := (121 : Int32)) hx hb dX6_bestMove_64 (by decide) ?_
    refine lv_icmp_ge (tgt := 122) hx hb dX6_bestMove_66 (by decide) (fun c_1 => ?_) (fun c_1 => ?_)
    · have hw := hw.1 c_1
      exact hK62 x2 x3 hw _ _ _ hP hD hS (lv_sub hl [0, 1, 2, 3, 4] rfl)
    · have hw := hw.2 c_1
      refine lv_aload_n hx hb dX6_bestMove_69 rfl (lv_at hl 0 rfl) ?_
      refine va_get (D := D) (ci := 6) (v := .ref (ad 8)) (C := RX6) (T := TX6) (N := 8) hx hb hts inX6 hown hK hP 0 rfl rfl 2 (by decide) fl_30 (fun _ h9 => h9) rfl dX6_bestMove_70 ?_
      refine lv_iload hx hb dX6_bestMove_73 (lv_at hl 6 rfl) ?_
      refine pcV (rest := []) (ci := 3) S0 (c_X3_hopsTo l D ad cs H.size vR_hopsToEnd x6 _ hw) (cwV 1 hts gX6_bestMove_X3_hopsTo rfl rfl rfl (by decide +kernel) ⟨Nat.le_of_ble_eq_true rfl, Nat.le_of_ble_eq_true rfl⟩) hN hK hP hD [8, 9] [5] rfl rfl rfl 8 rfl rfl rfl rfl hl.1 (Nat.le_of_ble_eq_true rfl) ⟨Nat.le_of_ble_eq_true rfl, Nat.le_of_ble_eq_true rfl⟩ dX6_bestMove_75 (fun r_2 hw => ?_)
      refine lv_iconst (v := (-1 : Int32)) hx hb dX6_bestMove_78 (by decide) ?_
      refine lv_icmp_ne (tgt := 85) hx hb dX6_bestMove_79 (by decide) (fun c_3 => ?_) (fun c_3 => ?_)
      · have hw := hw.1 c_3
        refine lv_aload_n hx hb dX6_bestMove_85 rfl (lv_at hl 0 rfl) ?_
        refine va_get (D := D) (ci := 6) (v := .ref (ad 12)) (C := RX6) (T := TX6) (N := 8) hx hb hts inX6 hown hK hP 0 rfl rfl 3 (by decide) fl_37 (fun _ h9 => h9) rfl dX6_bestMove_86 ?_
        refine lv_iload hx hb dX6_bestMove_89 (lv_at hl 4 rfl) ?_
        refine lv_iload hx hb dX6_bestMove_91 (lv_at hl 6 rfl) ?_
        refine pcV (rest := []) (ci := 2) S0 (c_X2_sumWith l D ad cs H.size vS_rows vS_columns vP_goalCells vP_otherSums x4 x6 _ hw) (cwV 2 hts gX6_bestMove_X2_sumWith rfl rfl rfl (by decide +kernel) ⟨Nat.le_of_ble_eq_true rfl, Nat.le_of_ble_eq_true rfl⟩) hN hK hP hD [1, 2, 3, 12, 14, 18] [0, 1, 9, 13] rfl rfl rfl 12 rfl rfl rfl rfl hl.1 (Nat.le_of_ble_eq_true rfl) ⟨Nat.le_of_ble_eq_true rfl, Nat.le_of_ble_eq_true rfl⟩ dX6_bestMove_93 (fun r_4 hw => ?_)
        refine lv_istore (lv' := [(7, .int r_4), (0, .ref (ad 0)), (1, .int x1), (2, .int x2), (3, .int x3), (4, .int x4), (5, .int x5), (6, .int x6)]) hx hb dX6_bestMove_96 hl (by decide) rfl (fun ls hl => ?_)
        refine lv_iload hx hb dX6_bestMove_98 (lv_at hl 0 rfl) ?_
        refine lv_iload_n hx hb dX6_bestMove_100 rfl (lv_at hl 4 rfl) ?_
        refine lv_icmp_ge (tgt := 116) hx hb dX6_bestMove_101 (by decide) (fun c_5 => ?_) (fun c_5 => ?_)
        · have hw := hw.1 c_5
          refine lv_iinc (v := (x6 + (1 : Int32))) (lv' := [(6, .int (x6 + (1 : Int32))), (7, .int r_4), (0, .ref (ad 0)), (1, .int x1), (2, .int x2), (3, .int x3), (4, .int x4), (5, .int x5)]) hx hb dX6_bestMove_116 hl (k := 7) rfl rfl (by decide) rfl (fun ls hl => ?_)
          refine lv_goto (tgt := 62) hx hb dX6_bestMove_119 (by decide) ?_
          exact hw _ _ _ hP hD hS (lv_sub hl [2, 3, 4, 5, 6, 7, 0] rfl)
        · have hw := hw.2 c_5
          refine lv_iload hx hb dX6_bestMove_104 (lv_at hl 0 rfl) ?_
          refine lv_istore_n (lv' := [(3, .int r_4), (7, .int r_4), (0, .ref (ad 0)), (1, .int x1), (2, .int x2), (4, .int x4), (5, .int x5), (6, .int x6)]) hx hb dX6_bestMove_106 rfl hl (by decide) rfl (fun ls hl => ?_)
          refine lv_iload hx hb dX6_bestMove_107 (lv_at hl 6 rfl) ?_
          refine lv_bipush (v := (121 : Int32)) hx hb dX6_bestMove_109 (by decide) ?_
          refine lv_imul hx hb dX6_bestMove_111 ?_
          refine lv_iload hx hb dX6_bestMove_112 (lv_at hl 7 rfl) ?_
          refine lv_iadd hx hb dX6_bestMove_114 ?_
          refine lv_istore_n (lv' := [(2, .int ((x5 * (121 : Int32)) + x6)), (3, .int r_4), (7, .int r_4), (0, .ref (ad 0)), (1, .int x1), (4, .int x4), (5, .int x5), (6, .int x6)]) hx hb dX6_bestMove_115 rfl hl (by decide) rfl (fun ls hl => ?_)
          refine lv_iinc (v := (x6 + (1 : Int32))) (lv' := [(6, .int (x6 + (1 : Int32))), (2, .int ((x5 * (121 : Int32)) + x6)), (3, .int r_4), (7, .int r_4), (0, .ref (ad 0)), (1, .int x1), (4, .int x4), (5, .int x5)]) hx hb dX6_bestMove_116 hl (k := 7) rfl rfl (by decide) rfl (fun ls hl => ?_)
          refine lv_goto (tgt := 62) hx hb dX6_bestMove_119 (by decide) ?_
          exact hw _ _ _ hP hD hS (lv_sub hl [4, 5, 1, 2, 6, 7, 0] rfl)
      · have hw := hw.2 c_3
        refine lv_goto (tgt := 116) hx hb dX6_bestMove_82 (by decide) ?_
        refine lv_iinc (v := (x6 + (1 : Int32))) (lv' := [(6, .int (x6 + (1 : Int32))), (0, .ref (ad 0)), (1, .int x1), (2, .int x2), (3, .int x3), (4, .int x4), (5, .int x5)]) hx hb dX6_bestMove_116 hl (k := 6) rfl rfl (by decide) rfl (fun ls hl => ?_)
        refine lv_goto (tgt := 62) hx hb dX6_bestMove_119 (by decide) ?_
        exact hw _ _ _ hP hD hS (lv_sub hl [1, 2, 3, 4, 5, 6, 0] rfl)
  have hL31 : ∀ (vP_marbleCells vP_goalCells vP_otherSums : Nat → Int32) (x1 : Int32) (K31 : (Nat → Int32) → (Nat → Int32) → (Nat → Int32) → Int32 → Prop) (vR_hopsToEnd vR_level vR_queue : Nat → Int32) (x2 x3 x4 : Int32) (vP_steps vP_firstSums vP_lastSums : Nat → Int32), wl_X6_bestMove_31 vS_rows vS_columns vS_camps vS_nexts vM_owners vP_marbleCells vP_goalCells vP_otherSums x1 K31 vR_hopsToEnd vR_level vR_queue x2 x3 x4 → (∀ (vR_hopsToEnd vR_level vR_queue : Nat → Int32) (x2 : Int32), K31 vR_hopsToEnd vR_level vR_queue x2 → ∀ (H : Heap) (locs : List Loc) (ls : Array Slot), va_P D vwCl (cl_X6_bestMove ad cs vH_fill vH_patience vS_rows vS_columns vS_camps vS_nexts vM_owners vR_hopsToEnd vR_level vR_queue vP_marbleCells vP_goalCells vP_steps vP_firstSums vP_lastSums vP_otherSums vE_placed vE_playing vE_out vE_turn) H → va_D A (cl_X6_bestMove ad cs vH_fill vH_patience vS_rows vS_columns vS_camps vS_nexts vM_owners vR_hopsToEnd vR_level vR_queue vP_marbleCells vP_goalCells vP_steps vP_firstSums vP_lastSums vP_otherSums vE_placed vE_playing vE_out vE_turn) → va_S A s.heap H locs → lv_has ls 8 [(2, .int x2)] → W p l e rm_X6_bestMove s m args below meth c H locs 0 0 QQ (F0 m 128 ls [])) → ∀ (H : Heap) (locs : List Loc) (ls : Array Slot), va_P D vwCl (cl_X6_bestMove ad cs vH_fill vH_patience vS_rows vS_columns vS_camps vS_nexts vM_owners vR_hopsToEnd vR_level vR_queue vP_marbleCells vP_goalCells vP_steps vP_firstSums vP_lastSums vP_otherSums vE_placed vE_playing vE_out vE_turn) H → va_D A (cl_X6_bestMove ad cs vH_fill vH_patience vS_rows vS_columns vS_camps vS_nexts vM_owners vR_hopsToEnd vR_level vR_queue vP_marbleCells vP_goalCells vP_steps vP_firstSums vP_lastSums vP_otherSums vE_placed vE_playing vE_out vE_turn) → va_S A s.heap H locs → lv_has ls 8 [(0, .ref (ad 0)), (1, .int x1), (2, .int x2), (3, .int x3), (4, .int x4)] → W p l e rm_X6_bestMove s m args below meth c H locs 0 0 QQ (F0 m 31 ls []) := by
    intro vP_marbleCells vP_goalCells vP_otherSums x1 K31 vR_hopsToEnd vR_level vR_queue x2 x3 x4 vP_steps vP_firstSums vP_lastSums hw hK31
    unfold wl_X6_bestMove_31 at hw
    refine hw (fun (vR_hopsToEnd vR_level vR_queue : Nat → Int32) (x2 x3 x4 : Int32) => ∀ (H : Heap) (locs : List Loc) (ls : Array Slot), va_P D vwCl (cl_X6_bestMove ad cs vH_fill vH_patience vS_rows vS_columns vS_camps vS_nexts vM_owners vR_hopsToEnd vR_level vR_queue vP_marbleCells vP_goalCells vP_steps vP_firstSums vP_lastSums vP_otherSums vE_placed vE_playing vE_out vE_turn) H → va_D A (cl_X6_bestMove ad cs vH_fill vH_patience vS_rows vS_columns vS_camps vS_nexts vM_owners vR_hopsToEnd vR_level vR_queue vP_marbleCells vP_goalCells vP_steps vP_firstSums vP_lastSums vP_otherSums vE_placed vE_playing vE_out vE_turn) → va_S A s.heap H locs → lv_has ls 8 [(0, .ref (ad 0)), (1, .int x1), (2, .int x2), (3, .int x3), (4, .int x4)] → W p l e rm_X6_bestMove s m args below meth c H locs 0 0 QQ (F0 m 31 ls [])) ?_
    intro vR_hopsToEnd vR_level vR_queue x2 x3 x4 hw H locs ls hP hD hS hl
    unfold wb_X6_bestMove_31 at hw
    refine lv_iload hx hb dX6_bestMove_31 (lv_at hl 4 rfl) ?_
    refine lv_bipush (v := (10 : Int32)) hx hb dX6_bestMove_33 (by decide) ?_
    refine lv_icmp_ge (tgt := 128) hx hb dX6_bestMove_35 (by decide) (fun c_6 => ?_) (fun c_6 => ?_)
    · have hw := hw.1 c_6
      exact hK31 vR_hopsToEnd vR_level vR_queue x2 hw _ _ _ hP hD hS (lv_sub hl [2] rfl)
    · have hw := hw.2 c_6
      refine lv_aload_n hx hb dX6_bestMove_38 rfl (lv_at hl 0 rfl) ?_
      refine va_get (D := D) (ci := 6) (v := .ref (ad 12)) (C := RX6) (T := TX6) (N := 8) hx hb hts inX6 hown hK hP 0 rfl rfl 3 (by decide) fl_37 (fun _ h9 => h9) rfl dX6_bestMove_39 ?_
      refine lv_iload hx hb dX6_bestMove_42 (lv_at hl 4 rfl) ?_
      refine pcV (rest := []) (ci := 2) S0 (c_X2_marbleCell l D ad cs H.size vP_marbleCells x4 _ hw) (cwV 1 hts gX6_bestMove_X2_marbleCell rfl rfl rfl (by decide +kernel) ⟨Nat.le_of_ble_eq_true rfl, Nat.le_of_ble_eq_true rfl⟩) hN hK hP hD [12, 13] [8] rfl rfl rfl 12 rfl rfl rfl rfl hl.1 (Nat.le_of_ble_eq_true rfl) ⟨Nat.le_of_ble_eq_true rfl, Nat.le_of_ble_eq_true rfl⟩ dX6_bestMove_44 (fun r_7 hw => ?_)
      refine lv_istore (lv' := [(5, .int r_7), (0, .ref (ad 0)), (1, .int x1), (2, .int x2), (3, .int x3), (4, .int x4)]) hx hb dX6_bestMove_47 hl (by decide) rfl (fun ls hl => ?_)
      refine lv_aload_n hx hb dX6_bestMove_49 rfl (lv_at hl 1 rfl) ?_
      refine va_get (D := D) (ci := 6) (v := .ref (ad 8)) (C := RX6) (T := TX6) (N := 8) hx hb hts inX6 hown hK hP 0 rfl rfl 2 (by decide) fl_30 (fun _ h9 => h9) rfl dX6_bestMove_50 ?_
      refine lv_iload_n hx hb dX6_bestMove_53 rfl (lv_at hl 2 rfl) ?_
      refine lv_iload hx hb dX6_bestMove_54 (lv_at hl 0 rfl) ?_
      refine pcVv (rest := []) (wr := [((ad 0), .inr (6, [.ref (ad 1), .ref (ad 6), .ref (ad 8), .ref (ad 12), .ref (ad 19), .ref (ad 22), .int vH_fill, .int vH_patience])), ((ad 2), .inl ((cs 2), 121, .inl vS_rows)), ((ad 3), .inl ((cs 3), 121, .inl vS_columns)), ((ad 12), .inr (2, [.ref (ad 1), .ref (ad 6), .ref (ad 13), .ref (ad 14), .ref (ad 15), .ref (ad 16), .ref (ad 17), .ref (ad 18)])), ((ad 13), .inl ((cs 13), 10, .inl vP_marbleCells)), ((ad 14), .inl ((cs 14), 10, .inl vP_goalCells)), ((ad 15), .inl ((cs 15), 100, .inl vP_steps)), ((ad 16), .inl ((cs 16), 1024, .inl vP_firstSums)), ((ad 17), .inl ((cs 17), 1024, .inl vP_lastSums)), ((ad 18), .inl ((cs 18), 100, .inl vP_otherSums)), ((ad 19), .inr (4, [.ref (ad 6), .ref (ad 20), .ref (ad 21), .int vE_placed, .int vE_playing, .int vE_out, .int vE_turn]))]) (ci := 3) S0 (c_X3_search l D ad cs H.size vS_camps vS_nexts vM_owners vR_hopsToEnd vR_level vR_queue x1 r_7 _ hw) (cwV 2 hts gX6_bestMove_X3_search rfl rfl rfl (by decide +kernel) ⟨Nat.le_of_ble_eq_true rfl, Nat.le_of_ble_eq_true rfl⟩) hN hK hP hD hS hA [1, 4, 5, 6, 7, 8, 9, 10, 11] [0, 2, 3, 12, 13, 14, 15, 16, 17, 18, 19] [2, 3, 4, 5, 6, 7] ⟨rfl, rfl, rfl, rfl, rfl, by decide⟩ 8 rfl rfl rfl rfl hl.1 (Nat.le_of_ble_eq_true rfl) ⟨Nat.le_of_ble_eq_true rfl, Nat.le_of_ble_eq_true rfl⟩ dX6_bestMove_56 (fun u H locs hw hP hD hS => ?_)
      obtain ⟨vR_hopsToEnd_8, vR_level_9, vR_queue_10⟩ := u
      dsimp only at hw
      have hP : va_P D vwCl (cl_X6_bestMove ad cs vH_fill vH_patience vS_rows vS_columns vS_camps vS_nexts vM_owners vR_hopsToEnd_8 vR_level_9 vR_queue_10 vP_marbleCells vP_goalCells vP_steps vP_firstSums vP_lastSums vP_otherSums vE_placed vE_playing vE_out vE_turn) H := hP.sub [0, 11, 1, 2, 12, 13, 14, 15, 16, 17, 18, 19, 3, 4, 5, 6, 7, 8, 9, 10] rfl
      have hD : va_D A (cl_X6_bestMove ad cs vH_fill vH_patience vS_rows vS_columns vS_camps vS_nexts vM_owners vR_hopsToEnd_8 vR_level_9 vR_queue_10 vP_marbleCells vP_goalCells vP_steps vP_firstSums vP_lastSums vP_otherSums vE_placed vE_playing vE_out vE_turn) := hD.sub [0, 11, 1, 2, 12, 13, 14, 15, 16, 17, 18, 19, 3, 4, 5, 6, 7, 8, 9, 10] (by decide) rfl
      refine lv_iconst (v := (0 : Int32)) hx hb dX6_bestMove_59 (by decide) ?_
      refine lv_istore (lv' := [(6, .int (0 : Int32)), (5, .int r_7), (0, .ref (ad 0)), (1, .int x1), (2, .int x2), (3, .int x3), (4, .int x4)]) hx hb dX6_bestMove_60 hl (by decide) rfl (fun ls hl => ?_)
      refine hL62 vR_hopsToEnd_8 vP_goalCells vP_otherSums x4 r_7 _ x2 x3 (0 : Int32) _ _ _ _ _ _ _ hw ?_ _ _ _ hP hD hS (lv_sub hl [2, 3, 4, 5, 6, 1, 0] rfl)
      intro x2_11 x3_12 hw H locs ls hP hD hS hl
      refine lv_iinc (v := (x4 + (1 : Int32))) (lv' := [(4, .int (x4 + (1 : Int32))), (0, .ref (ad 0)), (1, .int x1), (2, .int x2_11), (3, .int x3_12)]) hx hb dX6_bestMove_122 hl (k := 4) rfl rfl (by decide) rfl (fun ls hl => ?_)
      refine lv_goto (tgt := 31) hx hb dX6_bestMove_125 (by decide) ?_
      exact hw _ _ _ hP hD hS (lv_sub hl [1, 2, 3, 4, 0] rfl)
  obtain ⟨H, hH⟩ : ∃ H : Heap, H = s.heap := ⟨_, rfl⟩
  have hS : va_S A s.heap H [] := by rw [hH]; exact va_S.rf
  rw [← hH] at hP ⊢
  unfold wp_X6_bestMove at hw
  refine lv_aload_n hx hb dX6_bestMove_0 rfl (lv_at hl 0 rfl) ?_
  refine va_get (D := D) (ci := 6) (v := .ref (ad 19)) (C := RX6) (T := TX6) (N := 8) hx hb hts inX6 hown hK hP 0 rfl rfl 4 (by decide) fl_46 (fun _ h9 => h9) rfl dX6_bestMove_1 ?_
  refine pcV (rest := []) (ci := 4) S0 (c_X4_onTurn l D ad cs H.size vE_placed vE_playing vE_out vE_turn _ hw) (cwV 0 hts gX6_bestMove_X4_onTurn rfl rfl rfl (by decide +kernel) ⟨Nat.le_of_ble_eq_true rfl, Nat.le_of_ble_eq_true rfl⟩) hN hK hP hD [19] [] rfl rfl rfl 19 rfl rfl rfl rfl hl.1 (Nat.le_of_ble_eq_true rfl) ⟨Nat.le_of_ble_eq_true rfl, Nat.le_of_ble_eq_true rfl⟩ dX6_bestMove_4 (fun r_13 hw => ?_)
  refine lv_istore_n (lv' := [(1, .int r_13), (0, .ref (ad 0))]) hx hb dX6_bestMove_7 rfl hl (by decide) rfl (fun ls hl => ?_)
  refine lv_iload_n hx hb dX6_bestMove_8 rfl (lv_at hl 0 rfl) ?_
  refine lv_iconst (v := (-1 : Int32)) hx hb dX6_bestMove_9 (by decide) ?_
  refine lv_icmp_ne (tgt := 15) hx hb dX6_bestMove_10 (by decide) (fun c_14 => ?_) (fun c_14 => ?_)
  · have hw := hw.1 c_14
    refine lv_aload_n hx hb dX6_bestMove_15 rfl (lv_at hl 1 rfl) ?_
    refine va_get (D := D) (ci := 6) (v := .ref (ad 12)) (C := RX6) (T := TX6) (N := 8) hx hb hts inX6 hown hK hP 0 rfl rfl 3 (by decide) fl_37 (fun _ h9 => h9) rfl dX6_bestMove_16 ?_
    refine lv_iload_n hx hb dX6_bestMove_19 rfl (lv_at hl 0 rfl) ?_
    refine pcVv (rest := []) (wr := [((ad 0), .inr (6, [.ref (ad 1), .ref (ad 6), .ref (ad 8), .ref (ad 12), .ref (ad 19), .ref (ad 22), .int vH_fill, .int vH_patience])), ((ad 5), .inl ((cs 5), 726, .inl vS_nexts)), ((ad 8), .inr (3, [.ref (ad 1), .ref (ad 6), .ref (ad 9), .ref (ad 10), .ref (ad 11)])), ((ad 9), .inl ((cs 9), 121, .inl vR_hopsToEnd)), ((ad 10), .inl ((cs 10), 121, .inl vR_level)), ((ad 11), .inl ((cs 11), 121, .inl vR_queue)), ((ad 19), .inr (4, [.ref (ad 6), .ref (ad 20), .ref (ad 21), .int vE_placed, .int vE_playing, .int vE_out, .int vE_turn]))]) (ci := 2) S0 (c_X2_weighAllButOne l D ad cs H.size vS_rows vS_columns vS_camps vM_owners vP_marbleCells vP_goalCells vP_steps vP_firstSums vP_lastSums vP_otherSums r_13 _ hw) (cwV 1 hts gX6_bestMove_X2_weighAllButOne rfl rfl rfl (by decide +kernel) ⟨Nat.le_of_ble_eq_true rfl, Nat.le_of_ble_eq_true rfl⟩) hN hK hP hD hS hA [1, 2, 3, 4, 6, 7, 12, 13, 14, 15, 16, 17, 18] [0, 5, 8, 9, 10, 11, 19] [0, 1, 2, 4, 8, 9, 10, 11, 12, 13] ⟨rfl, rfl, rfl, rfl, rfl, by decide⟩ 12 rfl rfl rfl rfl hl.1 (Nat.le_of_ble_eq_true rfl) ⟨Nat.le_of_ble_eq_true rfl, Nat.le_of_ble_eq_true rfl⟩ dX6_bestMove_20 (fun u H locs hw hP hD hS => ?_)
    obtain ⟨vP_marbleCells_15, vP_goalCells_16, vP_steps_17, vP_firstSums_18, vP_lastSums_19, vP_otherSums_20⟩ := u
    dsimp only at hw
    have hP : va_P D vwCl (cl_X6_bestMove ad cs vH_fill vH_patience vS_rows vS_columns vS_camps vS_nexts vM_owners vR_hopsToEnd vR_level vR_queue vP_marbleCells_15 vP_goalCells_16 vP_steps_17 vP_firstSums_18 vP_lastSums_19 vP_otherSums_20 vE_placed vE_playing vE_out vE_turn) H := hP.sub [0, 7, 8, 9, 10, 1, 11, 12, 2, 3, 4, 5, 13, 14, 15, 16, 17, 18, 19, 6] rfl
    have hD : va_D A (cl_X6_bestMove ad cs vH_fill vH_patience vS_rows vS_columns vS_camps vS_nexts vM_owners vR_hopsToEnd vR_level vR_queue vP_marbleCells_15 vP_goalCells_16 vP_steps_17 vP_firstSums_18 vP_lastSums_19 vP_otherSums_20 vE_placed vE_playing vE_out vE_turn) := hD.sub [0, 7, 8, 9, 10, 1, 11, 12, 2, 3, 4, 5, 13, 14, 15, 16, 17, 18, 19, 6] (by decide) rfl
    refine lv_iconst (v := (-1 : Int32)) hx hb dX6_bestMove_23 (by decide) ?_
    refine lv_istore_n (lv' := [(2, .int (-1 : Int32)), (1, .int r_13), (0, .ref (ad 0))]) hx hb dX6_bestMove_24 rfl hl (by decide) rfl (fun ls hl => ?_)
    refine lv_ldc hx hb hown (hts (.constant RX6 202 (1000000)) (by decide +kernel)) dX6_bestMove_25 ?_
    refine lv_istore_n (lv' := [(3, .int (1000000 : Int32)), (2, .int (-1 : Int32)), (1, .int r_13), (0, .ref (ad 0))]) hx hb dX6_bestMove_27 rfl hl (by decide) rfl (fun ls hl => ?_)
    refine lv_iconst (v := (0 : Int32)) hx hb dX6_bestMove_28 (by decide) ?_
    refine lv_istore (lv' := [(4, .int (0 : Int32)), (3, .int (1000000 : Int32)), (2, .int (-1 : Int32)), (1, .int r_13), (0, .ref (ad 0))]) hx hb dX6_bestMove_29 hl (by decide) rfl (fun ls hl => ?_)
    refine hL31 vP_marbleCells_15 vP_goalCells_16 vP_otherSums_20 r_13 _ vR_hopsToEnd vR_level vR_queue (-1 : Int32) (1000000 : Int32) (0 : Int32) _ _ _ hw ?_ _ _ _ hP hD hS (lv_sub hl [4, 3, 2, 1, 0] rfl)
    intro vR_hopsToEnd_21 vR_level_22 vR_queue_23 x2_24 hw H locs ls hP hD hS hl
    refine lv_iload_n hx hb dX6_bestMove_128 rfl (lv_at hl 0 rfl) ?_
    exact hret _ _ _ _ _ _ _ _ _ _ _ _ _ _ hw hP hD hS dX6_bestMove_129
  · have hw := hw.2 c_14
    refine lv_iconst (v := (-1 : Int32)) hx hb dX6_bestMove_13 (by decide) ?_
    exact hret _ _ _ _ _ _ _ _ _ _ _ _ _ _ hw hP hD hS dX6_bestMove_14
set_option maxHeartbeats 4000000 in
set_option maxRecDepth 100000 in
theorem c_X6_bestMove (l : Launch) (D : va_G) (ad : Nat → Nat) (cs : Nat → ClassId) (sz : Nat) (vH_fill vH_patience : Int32) (vS_rows vS_columns vS_camps vS_nexts vM_owners vR_hopsToEnd vR_level vR_queue vP_marbleCells vP_goalCells vP_steps vP_firstSums vP_lastSums vP_otherSums : Nat → Int32) (vE_placed vE_playing vE_out vE_turn : Int32) (Q : Int32 → (Nat → Int32) → (Nat → Int32) → (Nat → Int32) → (Nat → Int32) → (Nat → Int32) → (Nat → Int32) → (Nat → Int32) → (Nat → Int32) → (Nat → Int32) → Prop) (hw : wp_X6_bestMove vH_fill vH_patience vS_rows vS_columns vS_camps vS_nexts vM_owners vR_hopsToEnd vR_level vR_queue vP_marbleCells vP_goalCells vP_steps vP_firstSums vP_lastSums vP_otherSums vE_placed vE_playing vE_out vE_turn Q) :
  Met l yX6_bestMove wsX6_bestMove rm_X6_bestMove (va_Pc [.ref (ad 0)] (PX D (cl_X6_bestMove ad cs vH_fill vH_patience vS_rows vS_columns vS_camps vS_nexts vM_owners vR_hopsToEnd vR_level vR_queue vP_marbleCells vP_goalCells vP_steps vP_firstSums vP_lastSums vP_otherSums vE_placed vE_playing vE_out vE_turn) (ty_X6_bestMove cs) sz)) (va_Qi (fun (r : Int32) (u : (Nat → Int32) × (Nat → Int32) × (Nat → Int32) × (Nat → Int32) × (Nat → Int32) × (Nat → Int32) × (Nat → Int32) × (Nat → Int32) × (Nat → Int32)) => Q r u.1 u.2.1 u.2.2.1 u.2.2.2.1 u.2.2.2.2.1 u.2.2.2.2.2.1 u.2.2.2.2.2.2.1 u.2.2.2.2.2.2.2.1 u.2.2.2.2.2.2.2.2) (fun (u : (Nat → Int32) × (Nat → Int32) × (Nat → Int32) × (Nat → Int32) × (Nat → Int32) × (Nat → Int32) × (Nat → Int32) × (Nat → Int32) × (Nat → Int32)) t => va_P D vwCl (cl_X6_bestMove ad cs vH_fill vH_patience vS_rows vS_columns vS_camps vS_nexts vM_owners u.1 u.2.1 u.2.2.1 u.2.2.2.1 u.2.2.2.2.1 u.2.2.2.2.2.1 u.2.2.2.2.2.2.1 u.2.2.2.2.2.2.2.1 u.2.2.2.2.2.2.2.2 vE_placed vE_playing vE_out vE_turn) t.heap ∧ va_D (va_A (cl_X6_bestMove ad cs vH_fill vH_patience vS_rows vS_columns vS_camps vS_nexts vM_owners vR_hopsToEnd vR_level vR_queue vP_marbleCells vP_goalCells vP_steps vP_firstSums vP_lastSums vP_otherSums vE_placed vE_playing vE_out vE_turn) sz) (cl_X6_bestMove ad cs vH_fill vH_patience vS_rows vS_columns vS_camps vS_nexts vM_owners u.1 u.2.1 u.2.2.1 u.2.2.2.1 u.2.2.2.2.1 u.2.2.2.2.2.1 u.2.2.2.2.2.2.1 u.2.2.2.2.2.2.2.1 u.2.2.2.2.2.2.2.2 vE_placed vE_playing vE_out vE_turn)) (va_A (cl_X6_bestMove ad cs vH_fill vH_patience vS_rows vS_columns vS_camps vS_nexts vM_owners vR_hopsToEnd vR_level vR_queue vP_marbleCells vP_goalCells vP_steps vP_firstSums vP_lastSums vP_otherSums vE_placed vE_playing vE_out vE_turn) sz)) 0 0 (va_A (cl_X6_bestMove ad cs vH_fill vH_patience vS_rows vS_columns vS_camps vS_nexts vM_owners vR_hopsToEnd vR_level vR_queue vP_marbleCells vP_goalCells vP_steps vP_firstSums vP_lastSums vP_otherSums vE_placed vE_playing vE_out vE_turn) sz) := by
  refine Met.ofW (cc := cX6_bestMove) (maxL := 8) (ret := (some .int)) (by decide) rfl ?_
  intro p e s m args below meth c s₁ B hml hv
  obtain ⟨rfl, hsz, hP, hK, hD0, hN⟩ := hv
  subst hsz
  have hl := lv_entry ([.ref (ad 0)]) (n := 8) (Nat.le_of_ble_eq_true rfl)
  rw [lg_entry_eq]
  have hx := B.exec
  have hb := B.bytes
  have hr := B.returns
  exact b_X6_bestMove l D ad cs vH_fill vH_patience vS_rows vS_columns vS_camps vS_nexts vM_owners vR_hopsToEnd vR_level vR_queue vP_marbleCells vP_goalCells vP_steps vP_firstSums vP_lastSums vP_otherSums vE_placed vE_playing vE_out vE_turn Q hx hb hml (findClass_of_methodNamed B.named) (atoms_spec (ws := wsX6_bestMove) B.pre) hN hP hK hD0.self (fun q h => Or.inr h) hl (fun r o0 o1 o2 o3 o4 o5 o6 o7 o8 H locs pc ls hq hP hD hS hd => W.iret (v := r) hx hb hr (fun t ht hW => ⟨⟨r, (o0, o1, o2, o3, o4, o5, o6, o7, o8), rfl, hq, by rw [ht]; exact hP, hD⟩, hS.F ht⟩) hS.2.2 hd) hw
abbrev rm_X6_bestFrom : Room := { frames := 6, cells := 0, slots := 0, locals := 145 }
abbrev cl_X6_bestFrom (ad : Nat → Nat) (cs : Nat → ClassId) (vH_fill vH_patience : Int32) (vS_rows vS_columns vS_camps vS_nexts vM_owners vR_hopsToEnd vR_level vR_queue vP_marbleCells vP_goalCells vP_steps vP_firstSums vP_lastSums vP_otherSums : Nat → Int32) (vE_placed vE_playing vE_out vE_turn : Int32) : va_W := [((ad 0), .inr (6, [.ref (ad 1), .ref (ad 6), .ref (ad 8), .ref (ad 12), .ref (ad 19), .ref (ad 22), .int vH_fill, .int vH_patience])), ((ad 1), .inr (5, [.ref (ad 2), .ref (ad 3), .ref (ad 4), .ref (ad 5)])), ((ad 2), .inl ((cs 2), 121, .inl vS_rows)), ((ad 3), .inl ((cs 3), 121, .inl vS_columns)), ((ad 4), .inl ((cs 4), 121, .inl vS_camps)), ((ad 5), .inl ((cs 5), 726, .inl vS_nexts)), ((ad 6), .inr (1, [.ref (ad 1), .ref (ad 7)])), ((ad 7), .inl ((cs 7), 121, .inl vM_owners)), ((ad 8), .inr (3, [.ref (ad 1), .ref (ad 6), .ref (ad 9), .ref (ad 10), .ref (ad 11)])), ((ad 9), .inl ((cs 9), 121, .inl vR_hopsToEnd)), ((ad 10), .inl ((cs 10), 121, .inl vR_level)), ((ad 11), .inl ((cs 11), 121, .inl vR_queue)), ((ad 12), .inr (2, [.ref (ad 1), .ref (ad 6), .ref (ad 13), .ref (ad 14), .ref (ad 15), .ref (ad 16), .ref (ad 17), .ref (ad 18)])), ((ad 13), .inl ((cs 13), 10, .inl vP_marbleCells)), ((ad 14), .inl ((cs 14), 10, .inl vP_goalCells)), ((ad 15), .inl ((cs 15), 100, .inl vP_steps)), ((ad 16), .inl ((cs 16), 1024, .inl vP_firstSums)), ((ad 17), .inl ((cs 17), 1024, .inl vP_lastSums)), ((ad 18), .inl ((cs 18), 100, .inl vP_otherSums)), ((ad 19), .inr (4, [.ref (ad 6), .ref (ad 20), .ref (ad 21), .int vE_placed, .int vE_playing, .int vE_out, .int vE_turn]))]
abbrev ty_X6_bestFrom (cs : Nat → ClassId) : List (ClassId × FieldType) := [((cs 2), .int), ((cs 3), .int), ((cs 4), .int), ((cs 5), .int), ((cs 7), .int), ((cs 9), .int), ((cs 10), .int), ((cs 11), .int), ((cs 13), .int), ((cs 14), .int), ((cs 15), .int), ((cs 16), .int), ((cs 17), .int), ((cs 18), .int)]
def wp_X6_bestFrom (vH_fill vH_patience : Int32) (vS_rows vS_columns vS_camps vS_nexts vM_owners vR_hopsToEnd vR_level vR_queue vP_marbleCells vP_goalCells vP_steps vP_firstSums vP_lastSums vP_otherSums : Nat → Int32) (vE_placed vE_playing vE_out vE_turn : Int32) (Q : Int32 → (Nat → Int32) → (Nat → Int32) → (Nat → Int32) → (Nat → Int32) → (Nat → Int32) → (Nat → Int32) → (Nat → Int32) → (Nat → Int32) → (Nat → Int32) → Prop) : Prop :=
 wp_X6_bestMove vH_fill vH_patience vS_rows vS_columns vS_camps vS_nexts vM_owners vR_hopsToEnd vR_level vR_queue vP_marbleCells vP_goalCells vP_steps vP_firstSums vP_lastSums vP_otherSums vE_placed vE_playing vE_out vE_turn (fun r_1 vR_hopsToEnd_2 vR_level_3 vR_queue_4 vP_marbleCells_5 vP_goalCells_6 vP_steps_7 vP_firstSums_8 vP_lastSums_9 vP_otherSums_10 =>
 ((¬ r_1 = (-1 : Int32) → Q (r_1 / (121 : Int32)) vR_hopsToEnd_2 vR_level_3 vR_queue_4 vP_marbleCells_5 vP_goalCells_6 vP_steps_7 vP_firstSums_8 vP_lastSums_9 vP_otherSums_10) ∧
 (r_1 = (-1 : Int32) → Q (-1 : Int32) vR_hopsToEnd_2 vR_level_3 vR_queue_4 vP_marbleCells_5 vP_goalCells_6 vP_steps_7 vP_firstSums_8 vP_lastSums_9 vP_otherSums_10)))
set_option maxHeartbeats 4000000 in
set_option maxRecDepth 100000 in
theorem b_X6_bestFrom {p : Program} {e : Env} {s : State} {m : MethodId} {args : Array Value} {below : List Frame} {meth : Method} {c : Code} {QQ : State → Prop} {A : Nat → Prop} {ls : Array Slot} (l : Launch) (D : va_G) (ad : Nat → Nat) (cs : Nat → ClassId) (vH_fill vH_patience : Int32) (vS_rows vS_columns vS_camps vS_nexts vM_owners vR_hopsToEnd vR_level vR_queue vP_marbleCells vP_goalCells vP_steps vP_firstSums vP_lastSums vP_otherSums : Nat → Int32) (vE_placed vE_playing vE_out vE_turn : Int32) (Q : Int32 → (Nat → Int32) → (Nat → Int32) → (Nat → Int32) → (Nat → Int32) → (Nat → Int32) → (Nat → Int32) → (Nat → Int32) → (Nat → Int32) → (Nat → Int32) → Prop) (hx : p.tables.exec = Jvm.exec) (hb : c.code = cX6_bestFrom) (hml : c.maxLocals = 2) (hown : s.vm.findClass RX6 = some m.cls) (hts : ∀ w ∈ wsX6_bestFrom, w.before args s = true) (hN : NW s) (hP : va_P D vwCl (cl_X6_bestFrom ad cs vH_fill vH_patience vS_rows vS_columns vS_camps vS_nexts vM_owners vR_hopsToEnd vR_level vR_queue vP_marbleCells vP_goalCells vP_steps vP_firstSums vP_lastSums vP_otherSums vE_placed vE_playing vE_out vE_turn) s.heap) (hK : va_K D vwCl (ty_X6_bestFrom cs) s) (hD : va_D A (cl_X6_bestFrom ad cs vH_fill vH_patience vS_rows vS_columns vS_camps vS_nexts vM_owners vR_hopsToEnd vR_level vR_queue vP_marbleCells vP_goalCells vP_steps vP_firstSums vP_lastSums vP_otherSums vE_placed vE_playing vE_out vE_turn)) (hA : ∀ q : Nat, s.heap.size ≤ q → A q) (hl : lv_has ls 2 [(0, .ref (ad 0))])
  (hret : ∀ (r : Int32) (o0 : Nat → Int32) (o1 : Nat → Int32) (o2 : Nat → Int32) (o3 : Nat → Int32) (o4 : Nat → Int32) (o5 : Nat → Int32) (o6 : Nat → Int32) (o7 : Nat → Int32) (o8 : Nat → Int32) (H : Heap) (locs : List Loc) (pc : Nat) (ls : Array Slot), Q r o0 o1 o2 o3 o4 o5 o6 o7 o8 → va_P D vwCl (cl_X6_bestFrom ad cs vH_fill vH_patience vS_rows vS_columns vS_camps vS_nexts vM_owners o0 o1 o2 o3 o4 o5 o6 o7 o8 vE_placed vE_playing vE_out vE_turn) H → va_D A (cl_X6_bestFrom ad cs vH_fill vH_patience vS_rows vS_columns vS_camps vS_nexts vM_owners o0 o1 o2 o3 o4 o5 o6 o7 o8 vE_placed vE_playing vE_out vE_turn) → va_S A s.heap H locs → decode cX6_bestFrom pc = .ok (.ireturn, 1) → W p l e rm_X6_bestFrom s m args below meth c H locs 0 0 QQ (F0 m pc ls [.int r]))
  (hw : wp_X6_bestFrom vH_fill vH_patience vS_rows vS_columns vS_camps vS_nexts vM_owners vR_hopsToEnd vR_level vR_queue vP_marbleCells vP_goalCells vP_steps vP_firstSums vP_lastSums vP_otherSums vE_placed vE_playing vE_out vE_turn Q) :
  W p l e rm_X6_bestFrom s m args below meth c s.heap [] 0 0 QQ (F0 m 0 ls []) := by
  have S0 : CallFix p m c cX6_bestFrom 2 s args wsX6_bestFrom RX6 := ⟨hx, hb, hml, hown, hts⟩
  obtain ⟨H, hH⟩ : ∃ H : Heap, H = s.heap := ⟨_, rfl⟩
  have hS : va_S A s.heap H [] := by rw [hH]; exact va_S.rf
  rw [← hH] at hP ⊢
  unfold wp_X6_bestFrom at hw
  refine lv_aload_n hx hb dX6_bestFrom_0 rfl (lv_at hl 0 rfl) ?_
  refine pcVi (rest := []) (wr := []) (ci := 6) S0 (c_X6_bestMove l D ad cs H.size vH_fill vH_patience vS_rows vS_columns vS_camps vS_nexts vM_owners vR_hopsToEnd vR_level vR_queue vP_marbleCells vP_goalCells vP_steps vP_firstSums vP_lastSums vP_otherSums vE_placed vE_playing vE_out vE_turn _ hw) (cwV 0 hts gX6_bestFrom_X6_bestMove rfl rfl rfl (by decide +kernel) ⟨Nat.le_of_ble_eq_true rfl, Nat.le_of_ble_eq_true rfl⟩) hN hK hP hD hS hA [0, 1, 2, 3, 4, 5, 6, 7, 8, 9, 10, 11, 12, 13, 14, 15, 16, 17, 18, 19] [] [0, 1, 2, 3, 4, 5, 6, 7, 8, 9, 10, 11, 12, 13] ⟨rfl, rfl, rfl, rfl, rfl, by decide⟩ 0 rfl rfl rfl rfl hl.1 (Nat.le_of_ble_eq_true rfl) ⟨Nat.le_of_ble_eq_true rfl, Nat.le_of_ble_eq_true rfl⟩ dX6_bestFrom_1 (fun r_1 u H locs hw hP hD hS => ?_)
  obtain ⟨vR_hopsToEnd_2, vR_level_3, vR_queue_4, vP_marbleCells_5, vP_goalCells_6, vP_steps_7, vP_firstSums_8, vP_lastSums_9, vP_otherSums_10⟩ := u
  dsimp only at hw
  have hP : va_P D vwCl (cl_X6_bestFrom ad cs vH_fill vH_patience vS_rows vS_columns vS_camps vS_nexts vM_owners vR_hopsToEnd_2 vR_level_3 vR_queue_4 vP_marbleCells_5 vP_goalCells_6 vP_steps_7 vP_firstSums_8 vP_lastSums_9 vP_otherSums_10 vE_placed vE_playing vE_out vE_turn) H := hP.sub [0, 1, 2, 3, 4, 5, 6, 7, 8, 9, 10, 11, 12, 13, 14, 15, 16, 17, 18, 19] rfl
  have hD : va_D A (cl_X6_bestFrom ad cs vH_fill vH_patience vS_rows vS_columns vS_camps vS_nexts vM_owners vR_hopsToEnd_2 vR_level_3 vR_queue_4 vP_marbleCells_5 vP_goalCells_6 vP_steps_7 vP_firstSums_8 vP_lastSums_9 vP_otherSums_10 vE_placed vE_playing vE_out vE_turn) := hD.sub [0, 1, 2, 3, 4, 5, 6, 7, 8, 9, 10, 11, 12, 13, 14, 15, 16, 17, 18, 19] (by decide) rfl
  refine lv_istore_n (lv' := [(1, .int r_1), (0, .ref (ad 0))]) hx hb dX6_bestFrom_4 rfl hl (by decide) rfl (fun ls hl => ?_)
  refine lv_iload_n hx hb dX6_bestFrom_5 rfl (lv_at hl 0 rfl) ?_
  refine lv_iconst (v := (-1 : Int32)) hx hb dX6_bestFrom_6 (by decide) ?_
  refine lv_icmp_ne (tgt := 14) hx hb dX6_bestFrom_7 (by decide) (fun c_11 => ?_) (fun c_11 => ?_)
  · have hw := hw.1 c_11
    refine lv_iload_n hx hb dX6_bestFrom_14 rfl (lv_at hl 0 rfl) ?_
    refine lv_bipush (v := (121 : Int32)) hx hb dX6_bestFrom_15 (by decide) ?_
    refine lv_idiv hx hb dX6_bestFrom_17 (by decide) ?_
    exact hret _ _ _ _ _ _ _ _ _ _ _ _ _ _ hw hP hD hS dX6_bestFrom_18
  · have hw := hw.2 c_11
    refine lv_iconst (v := (-1 : Int32)) hx hb dX6_bestFrom_10 (by decide) ?_
    refine lv_goto (tgt := 18) hx hb dX6_bestFrom_11 (by decide) ?_
    exact hret _ _ _ _ _ _ _ _ _ _ _ _ _ _ hw hP hD hS dX6_bestFrom_18
set_option maxHeartbeats 4000000 in
set_option maxRecDepth 100000 in
theorem c_X6_bestFrom (l : Launch) (D : va_G) (ad : Nat → Nat) (cs : Nat → ClassId) (sz : Nat) (vH_fill vH_patience : Int32) (vS_rows vS_columns vS_camps vS_nexts vM_owners vR_hopsToEnd vR_level vR_queue vP_marbleCells vP_goalCells vP_steps vP_firstSums vP_lastSums vP_otherSums : Nat → Int32) (vE_placed vE_playing vE_out vE_turn : Int32) (Q : Int32 → (Nat → Int32) → (Nat → Int32) → (Nat → Int32) → (Nat → Int32) → (Nat → Int32) → (Nat → Int32) → (Nat → Int32) → (Nat → Int32) → (Nat → Int32) → Prop) (hw : wp_X6_bestFrom vH_fill vH_patience vS_rows vS_columns vS_camps vS_nexts vM_owners vR_hopsToEnd vR_level vR_queue vP_marbleCells vP_goalCells vP_steps vP_firstSums vP_lastSums vP_otherSums vE_placed vE_playing vE_out vE_turn Q) :
  Met l yX6_bestFrom wsX6_bestFrom rm_X6_bestFrom (va_Pc [.ref (ad 0)] (PX D (cl_X6_bestFrom ad cs vH_fill vH_patience vS_rows vS_columns vS_camps vS_nexts vM_owners vR_hopsToEnd vR_level vR_queue vP_marbleCells vP_goalCells vP_steps vP_firstSums vP_lastSums vP_otherSums vE_placed vE_playing vE_out vE_turn) (ty_X6_bestFrom cs) sz)) (va_Qi (fun (r : Int32) (u : (Nat → Int32) × (Nat → Int32) × (Nat → Int32) × (Nat → Int32) × (Nat → Int32) × (Nat → Int32) × (Nat → Int32) × (Nat → Int32) × (Nat → Int32)) => Q r u.1 u.2.1 u.2.2.1 u.2.2.2.1 u.2.2.2.2.1 u.2.2.2.2.2.1 u.2.2.2.2.2.2.1 u.2.2.2.2.2.2.2.1 u.2.2.2.2.2.2.2.2) (fun (u : (Nat → Int32) × (Nat → Int32) × (Nat → Int32) × (Nat → Int32) × (Nat → Int32) × (Nat → Int32) × (Nat → Int32) × (Nat → Int32) × (Nat → Int32)) t => va_P D vwCl (cl_X6_bestFrom ad cs vH_fill vH_patience vS_rows vS_columns vS_camps vS_nexts vM_owners u.1 u.2.1 u.2.2.1 u.2.2.2.1 u.2.2.2.2.1 u.2.2.2.2.2.1 u.2.2.2.2.2.2.1 u.2.2.2.2.2.2.2.1 u.2.2.2.2.2.2.2.2 vE_placed vE_playing vE_out vE_turn) t.heap ∧ va_D (va_A (cl_X6_bestFrom ad cs vH_fill vH_patience vS_rows vS_columns vS_camps vS_nexts vM_owners vR_hopsToEnd vR_level vR_queue vP_marbleCells vP_goalCells vP_steps vP_firstSums vP_lastSums vP_otherSums vE_placed vE_playing vE_out vE_turn) sz) (cl_X6_bestFrom ad cs vH_fill vH_patience vS_rows vS_columns vS_camps vS_nexts vM_owners u.1 u.2.1 u.2.2.1 u.2.2.2.1 u.2.2.2.2.1 u.2.2.2.2.2.1 u.2.2.2.2.2.2.1 u.2.2.2.2.2.2.2.1 u.2.2.2.2.2.2.2.2 vE_placed vE_playing vE_out vE_turn)) (va_A (cl_X6_bestFrom ad cs vH_fill vH_patience vS_rows vS_columns vS_camps vS_nexts vM_owners vR_hopsToEnd vR_level vR_queue vP_marbleCells vP_goalCells vP_steps vP_firstSums vP_lastSums vP_otherSums vE_placed vE_playing vE_out vE_turn) sz)) 0 0 (va_A (cl_X6_bestFrom ad cs vH_fill vH_patience vS_rows vS_columns vS_camps vS_nexts vM_owners vR_hopsToEnd vR_level vR_queue vP_marbleCells vP_goalCells vP_steps vP_firstSums vP_lastSums vP_otherSums vE_placed vE_playing vE_out vE_turn) sz) := by
  refine Met.ofW (cc := cX6_bestFrom) (maxL := 2) (ret := (some .int)) (by decide) rfl ?_
  intro p e s m args below meth c s₁ B hml hv
  obtain ⟨rfl, hsz, hP, hK, hD0, hN⟩ := hv
  subst hsz
  have hl := lv_entry ([.ref (ad 0)]) (n := 2) (Nat.le_of_ble_eq_true rfl)
  rw [lg_entry_eq]
  have hx := B.exec
  have hb := B.bytes
  have hr := B.returns
  exact b_X6_bestFrom l D ad cs vH_fill vH_patience vS_rows vS_columns vS_camps vS_nexts vM_owners vR_hopsToEnd vR_level vR_queue vP_marbleCells vP_goalCells vP_steps vP_firstSums vP_lastSums vP_otherSums vE_placed vE_playing vE_out vE_turn Q hx hb hml (findClass_of_methodNamed B.named) (atoms_spec (ws := wsX6_bestFrom) B.pre) hN hP hK hD0.self (fun q h => Or.inr h) hl (fun r o0 o1 o2 o3 o4 o5 o6 o7 o8 H locs pc ls hq hP hD hS hd => W.iret (v := r) hx hb hr (fun t ht hW => ⟨⟨r, (o0, o1, o2, o3, o4, o5, o6, o7, o8), rfl, hq, by rw [ht]; exact hP, hD⟩, hS.F ht⟩) hS.2.2 hd) hw
abbrev rm_X6_bestTo : Room := { frames := 6, cells := 0, slots := 0, locals := 145 }
abbrev cl_X6_bestTo (ad : Nat → Nat) (cs : Nat → ClassId) (vH_fill vH_patience : Int32) (vS_rows vS_columns vS_camps vS_nexts vM_owners vR_hopsToEnd vR_level vR_queue vP_marbleCells vP_goalCells vP_steps vP_firstSums vP_lastSums vP_otherSums : Nat → Int32) (vE_placed vE_playing vE_out vE_turn : Int32) : va_W := [((ad 0), .inr (6, [.ref (ad 1), .ref (ad 6), .ref (ad 8), .ref (ad 12), .ref (ad 19), .ref (ad 22), .int vH_fill, .int vH_patience])), ((ad 1), .inr (5, [.ref (ad 2), .ref (ad 3), .ref (ad 4), .ref (ad 5)])), ((ad 2), .inl ((cs 2), 121, .inl vS_rows)), ((ad 3), .inl ((cs 3), 121, .inl vS_columns)), ((ad 4), .inl ((cs 4), 121, .inl vS_camps)), ((ad 5), .inl ((cs 5), 726, .inl vS_nexts)), ((ad 6), .inr (1, [.ref (ad 1), .ref (ad 7)])), ((ad 7), .inl ((cs 7), 121, .inl vM_owners)), ((ad 8), .inr (3, [.ref (ad 1), .ref (ad 6), .ref (ad 9), .ref (ad 10), .ref (ad 11)])), ((ad 9), .inl ((cs 9), 121, .inl vR_hopsToEnd)), ((ad 10), .inl ((cs 10), 121, .inl vR_level)), ((ad 11), .inl ((cs 11), 121, .inl vR_queue)), ((ad 12), .inr (2, [.ref (ad 1), .ref (ad 6), .ref (ad 13), .ref (ad 14), .ref (ad 15), .ref (ad 16), .ref (ad 17), .ref (ad 18)])), ((ad 13), .inl ((cs 13), 10, .inl vP_marbleCells)), ((ad 14), .inl ((cs 14), 10, .inl vP_goalCells)), ((ad 15), .inl ((cs 15), 100, .inl vP_steps)), ((ad 16), .inl ((cs 16), 1024, .inl vP_firstSums)), ((ad 17), .inl ((cs 17), 1024, .inl vP_lastSums)), ((ad 18), .inl ((cs 18), 100, .inl vP_otherSums)), ((ad 19), .inr (4, [.ref (ad 6), .ref (ad 20), .ref (ad 21), .int vE_placed, .int vE_playing, .int vE_out, .int vE_turn]))]
abbrev ty_X6_bestTo (cs : Nat → ClassId) : List (ClassId × FieldType) := [((cs 2), .int), ((cs 3), .int), ((cs 4), .int), ((cs 5), .int), ((cs 7), .int), ((cs 9), .int), ((cs 10), .int), ((cs 11), .int), ((cs 13), .int), ((cs 14), .int), ((cs 15), .int), ((cs 16), .int), ((cs 17), .int), ((cs 18), .int)]
def wp_X6_bestTo (vH_fill vH_patience : Int32) (vS_rows vS_columns vS_camps vS_nexts vM_owners vR_hopsToEnd vR_level vR_queue vP_marbleCells vP_goalCells vP_steps vP_firstSums vP_lastSums vP_otherSums : Nat → Int32) (vE_placed vE_playing vE_out vE_turn : Int32) (Q : Int32 → (Nat → Int32) → (Nat → Int32) → (Nat → Int32) → (Nat → Int32) → (Nat → Int32) → (Nat → Int32) → (Nat → Int32) → (Nat → Int32) → (Nat → Int32) → Prop) : Prop :=
 wp_X6_bestMove vH_fill vH_patience vS_rows vS_columns vS_camps vS_nexts vM_owners vR_hopsToEnd vR_level vR_queue vP_marbleCells vP_goalCells vP_steps vP_firstSums vP_lastSums vP_otherSums vE_placed vE_playing vE_out vE_turn (fun r_1 vR_hopsToEnd_2 vR_level_3 vR_queue_4 vP_marbleCells_5 vP_goalCells_6 vP_steps_7 vP_firstSums_8 vP_lastSums_9 vP_otherSums_10 =>
 ((¬ r_1 = (-1 : Int32) → Q (r_1 - r_1 / (121 : Int32) * (121 : Int32)) vR_hopsToEnd_2 vR_level_3 vR_queue_4 vP_marbleCells_5 vP_goalCells_6 vP_steps_7 vP_firstSums_8 vP_lastSums_9 vP_otherSums_10) ∧
 (r_1 = (-1 : Int32) → Q (-1 : Int32) vR_hopsToEnd_2 vR_level_3 vR_queue_4 vP_marbleCells_5 vP_goalCells_6 vP_steps_7 vP_firstSums_8 vP_lastSums_9 vP_otherSums_10)))
set_option maxHeartbeats 4000000 in
set_option maxRecDepth 100000 in
theorem b_X6_bestTo {p : Program} {e : Env} {s : State} {m : MethodId} {args : Array Value} {below : List Frame} {meth : Method} {c : Code} {QQ : State → Prop} {A : Nat → Prop} {ls : Array Slot} (l : Launch) (D : va_G) (ad : Nat → Nat) (cs : Nat → ClassId) (vH_fill vH_patience : Int32) (vS_rows vS_columns vS_camps vS_nexts vM_owners vR_hopsToEnd vR_level vR_queue vP_marbleCells vP_goalCells vP_steps vP_firstSums vP_lastSums vP_otherSums : Nat → Int32) (vE_placed vE_playing vE_out vE_turn : Int32) (Q : Int32 → (Nat → Int32) → (Nat → Int32) → (Nat → Int32) → (Nat → Int32) → (Nat → Int32) → (Nat → Int32) → (Nat → Int32) → (Nat → Int32) → (Nat → Int32) → Prop) (hx : p.tables.exec = Jvm.exec) (hb : c.code = cX6_bestTo) (hml : c.maxLocals = 2) (hown : s.vm.findClass RX6 = some m.cls) (hts : ∀ w ∈ wsX6_bestTo, w.before args s = true) (hN : NW s) (hP : va_P D vwCl (cl_X6_bestTo ad cs vH_fill vH_patience vS_rows vS_columns vS_camps vS_nexts vM_owners vR_hopsToEnd vR_level vR_queue vP_marbleCells vP_goalCells vP_steps vP_firstSums vP_lastSums vP_otherSums vE_placed vE_playing vE_out vE_turn) s.heap) (hK : va_K D vwCl (ty_X6_bestTo cs) s) (hD : va_D A (cl_X6_bestTo ad cs vH_fill vH_patience vS_rows vS_columns vS_camps vS_nexts vM_owners vR_hopsToEnd vR_level vR_queue vP_marbleCells vP_goalCells vP_steps vP_firstSums vP_lastSums vP_otherSums vE_placed vE_playing vE_out vE_turn)) (hA : ∀ q : Nat, s.heap.size ≤ q → A q) (hl : lv_has ls 2 [(0, .ref (ad 0))])
  (hret : ∀ (r : Int32) (o0 : Nat → Int32) (o1 : Nat → Int32) (o2 : Nat → Int32) (o3 : Nat → Int32) (o4 : Nat → Int32) (o5 : Nat → Int32) (o6 : Nat → Int32) (o7 : Nat → Int32) (o8 : Nat → Int32) (H : Heap) (locs : List Loc) (pc : Nat) (ls : Array Slot), Q r o0 o1 o2 o3 o4 o5 o6 o7 o8 → va_P D vwCl (cl_X6_bestTo ad cs vH_fill vH_patience vS_rows vS_columns vS_camps vS_nexts vM_owners o0 o1 o2 o3 o4 o5 o6 o7 o8 vE_placed vE_playing vE_out vE_turn) H → va_D A (cl_X6_bestTo ad cs vH_fill vH_patience vS_rows vS_columns vS_camps vS_nexts vM_owners o0 o1 o2 o3 o4 o5 o6 o7 o8 vE_placed vE_playing vE_out vE_turn) → va_S A s.heap H locs → decode cX6_bestTo pc = .ok (.ireturn, 1) → W p l e rm_X6_bestTo s m args below meth c H locs 0 0 QQ (F0 m pc ls [.int r]))
  (hw : wp_X6_bestTo vH_fill vH_patience vS_rows vS_columns vS_camps vS_nexts vM_owners vR_hopsToEnd vR_level vR_queue vP_marbleCells vP_goalCells vP_steps vP_firstSums vP_lastSums vP_otherSums vE_placed vE_playing vE_out vE_turn Q) :
  W p l e rm_X6_bestTo s m args below meth c s.heap [] 0 0 QQ (F0 m 0 ls []) := by
  have S0 : CallFix p m c cX6_bestTo 2 s args wsX6_bestTo RX6 := ⟨hx, hb, hml, hown, hts⟩
  obtain ⟨H, hH⟩ : ∃ H : Heap, H = s.heap := ⟨_, rfl⟩
  have hS : va_S A s.heap H [] := by rw [hH]; exact va_S.rf
  rw [← hH] at hP ⊢
  unfold wp_X6_bestTo at hw
  refine lv_aload_n hx hb dX6_bestTo_0 rfl (lv_at hl 0 rfl) ?_
  refine pcVi (rest := []) (wr := []) (ci := 6) S0 (c_X6_bestMove l D ad cs H.size vH_fill vH_patience vS_rows vS_columns vS_camps vS_nexts vM_owners vR_hopsToEnd vR_level vR_queue vP_marbleCells vP_goalCells vP_steps vP_firstSums vP_lastSums vP_otherSums vE_placed vE_playing vE_out vE_turn _ hw) (cwV 0 hts gX6_bestTo_X6_bestMove rfl rfl rfl (by decide +kernel) ⟨Nat.le_of_ble_eq_true rfl, Nat.le_of_ble_eq_true rfl⟩) hN hK hP hD hS hA [0, 1, 2, 3, 4, 5, 6, 7, 8, 9, 10, 11, 12, 13, 14, 15, 16, 17, 18, 19] [] [0, 1, 2, 3, 4, 5, 6, 7, 8, 9, 10, 11, 12, 13] ⟨rfl, rfl, rfl, rfl, rfl, by decide⟩ 0 rfl rfl rfl rfl hl.1 (Nat.le_of_ble_eq_true rfl) ⟨Nat.le_of_ble_eq_true rfl, Nat.le_of_ble_eq_true rfl⟩ dX6_bestTo_1 (fun r_1 u H locs hw hP hD hS => ?_)
  obtain ⟨vR_hopsToEnd_2, vR_level_3, vR_queue_4, vP_marbleCells_5, vP_goalCells_6, vP_steps_7, vP_firstSums_8, vP_lastSums_9, vP_otherSums_10⟩ := u
  dsimp only at hw
  have hP : va_P D vwCl (cl_X6_bestTo ad cs vH_fill vH_patience vS_rows vS_columns vS_camps vS_nexts vM_owners vR_hopsToEnd_2 vR_level_3 vR_queue_4 vP_marbleCells_5 vP_goalCells_6 vP_steps_7 vP_firstSums_8 vP_lastSums_9 vP_otherSums_10 vE_placed vE_playing vE_out vE_turn) H := hP.sub [0, 1, 2, 3, 4, 5, 6, 7, 8, 9, 10, 11, 12, 13, 14, 15, 16, 17, 18, 19] rfl
  have hD : va_D A (cl_X6_bestTo ad cs vH_fill vH_patience vS_rows vS_columns vS_camps vS_nexts vM_owners vR_hopsToEnd_2 vR_level_3 vR_queue_4 vP_marbleCells_5 vP_goalCells_6 vP_steps_7 vP_firstSums_8 vP_lastSums_9 vP_otherSums_10 vE_placed vE_playing vE_out vE_turn) := hD.sub [0, 1, 2, 3, 4, 5, 6, 7, 8, 9, 10, 11, 12, 13, 14, 15, 16, 17, 18, 19] (by decide) rfl
  refine lv_istore_n (lv' := [(1, .int r_1), (0, .ref (ad 0))]) hx hb dX6_bestTo_4 rfl hl (by decide) rfl (fun ls hl => ?_)
  refine lv_iload_n hx hb dX6_bestTo_5 rfl (lv_at hl 0 rfl) ?_
  refine lv_iconst (v := (-1 : Int32)) hx hb dX6_bestTo_6 (by decide) ?_
  refine lv_icmp_ne (tgt := 14) hx hb dX6_bestTo_7 (by decide) (fun c_11 => ?_) (fun c_11 => ?_)
  · have hw := hw.1 c_11
    refine lv_iload_n hx hb dX6_bestTo_14 rfl (lv_at hl 0 rfl) ?_
    refine lv_bipush (v := (121 : Int32)) hx hb dX6_bestTo_15 (by decide) ?_
    refine lv_irem hx hb dX6_bestTo_17 (by decide) ?_
    exact hret _ _ _ _ _ _ _ _ _ _ _ _ _ _ hw hP hD hS dX6_bestTo_18
  · have hw := hw.2 c_11
    refine lv_iconst (v := (-1 : Int32)) hx hb dX6_bestTo_10 (by decide) ?_
    refine lv_goto (tgt := 18) hx hb dX6_bestTo_11 (by decide) ?_
    exact hret _ _ _ _ _ _ _ _ _ _ _ _ _ _ hw hP hD hS dX6_bestTo_18
set_option maxHeartbeats 4000000 in
set_option maxRecDepth 100000 in
theorem c_X6_bestTo (l : Launch) (D : va_G) (ad : Nat → Nat) (cs : Nat → ClassId) (sz : Nat) (vH_fill vH_patience : Int32) (vS_rows vS_columns vS_camps vS_nexts vM_owners vR_hopsToEnd vR_level vR_queue vP_marbleCells vP_goalCells vP_steps vP_firstSums vP_lastSums vP_otherSums : Nat → Int32) (vE_placed vE_playing vE_out vE_turn : Int32) (Q : Int32 → (Nat → Int32) → (Nat → Int32) → (Nat → Int32) → (Nat → Int32) → (Nat → Int32) → (Nat → Int32) → (Nat → Int32) → (Nat → Int32) → (Nat → Int32) → Prop) (hw : wp_X6_bestTo vH_fill vH_patience vS_rows vS_columns vS_camps vS_nexts vM_owners vR_hopsToEnd vR_level vR_queue vP_marbleCells vP_goalCells vP_steps vP_firstSums vP_lastSums vP_otherSums vE_placed vE_playing vE_out vE_turn Q) :
  Met l yX6_bestTo wsX6_bestTo rm_X6_bestTo (va_Pc [.ref (ad 0)] (PX D (cl_X6_bestTo ad cs vH_fill vH_patience vS_rows vS_columns vS_camps vS_nexts vM_owners vR_hopsToEnd vR_level vR_queue vP_marbleCells vP_goalCells vP_steps vP_firstSums vP_lastSums vP_otherSums vE_placed vE_playing vE_out vE_turn) (ty_X6_bestTo cs) sz)) (va_Qi (fun (r : Int32) (u : (Nat → Int32) × (Nat → Int32) × (Nat → Int32) × (Nat → Int32) × (Nat → Int32) × (Nat → Int32) × (Nat → Int32) × (Nat → Int32) × (Nat → Int32)) => Q r u.1 u.2.1 u.2.2.1 u.2.2.2.1 u.2.2.2.2.1 u.2.2.2.2.2.1 u.2.2.2.2.2.2.1 u.2.2.2.2.2.2.2.1 u.2.2.2.2.2.2.2.2) (fun (u : (Nat → Int32) × (Nat → Int32) × (Nat → Int32) × (Nat → Int32) × (Nat → Int32) × (Nat → Int32) × (Nat → Int32) × (Nat → Int32) × (Nat → Int32)) t => va_P D vwCl (cl_X6_bestTo ad cs vH_fill vH_patience vS_rows vS_columns vS_camps vS_nexts vM_owners u.1 u.2.1 u.2.2.1 u.2.2.2.1 u.2.2.2.2.1 u.2.2.2.2.2.1 u.2.2.2.2.2.2.1 u.2.2.2.2.2.2.2.1 u.2.2.2.2.2.2.2.2 vE_placed vE_playing vE_out vE_turn) t.heap ∧ va_D (va_A (cl_X6_bestTo ad cs vH_fill vH_patience vS_rows vS_columns vS_camps vS_nexts vM_owners vR_hopsToEnd vR_level vR_queue vP_marbleCells vP_goalCells vP_steps vP_firstSums vP_lastSums vP_otherSums vE_placed vE_playing vE_out vE_turn) sz) (cl_X6_bestTo ad cs vH_fill vH_patience vS_rows vS_columns vS_camps vS_nexts vM_owners u.1 u.2.1 u.2.2.1 u.2.2.2.1 u.2.2.2.2.1 u.2.2.2.2.2.1 u.2.2.2.2.2.2.1 u.2.2.2.2.2.2.2.1 u.2.2.2.2.2.2.2.2 vE_placed vE_playing vE_out vE_turn)) (va_A (cl_X6_bestTo ad cs vH_fill vH_patience vS_rows vS_columns vS_camps vS_nexts vM_owners vR_hopsToEnd vR_level vR_queue vP_marbleCells vP_goalCells vP_steps vP_firstSums vP_lastSums vP_otherSums vE_placed vE_playing vE_out vE_turn) sz)) 0 0 (va_A (cl_X6_bestTo ad cs vH_fill vH_patience vS_rows vS_columns vS_camps vS_nexts vM_owners vR_hopsToEnd vR_level vR_queue vP_marbleCells vP_goalCells vP_steps vP_firstSums vP_lastSums vP_otherSums vE_placed vE_playing vE_out vE_turn) sz) := by
  refine Met.ofW (cc := cX6_bestTo) (maxL := 2) (ret := (some .int)) (by decide) rfl ?_
  intro p e s m args below meth c s₁ B hml hv
  obtain ⟨rfl, hsz, hP, hK, hD0, hN⟩ := hv
  subst hsz
  have hl := lv_entry ([.ref (ad 0)]) (n := 2) (Nat.le_of_ble_eq_true rfl)
  rw [lg_entry_eq]
  have hx := B.exec
  have hb := B.bytes
  have hr := B.returns
  exact b_X6_bestTo l D ad cs vH_fill vH_patience vS_rows vS_columns vS_camps vS_nexts vM_owners vR_hopsToEnd vR_level vR_queue vP_marbleCells vP_goalCells vP_steps vP_firstSums vP_lastSums vP_otherSums vE_placed vE_playing vE_out vE_turn Q hx hb hml (findClass_of_methodNamed B.named) (atoms_spec (ws := wsX6_bestTo) B.pre) hN hP hK hD0.self (fun q h => Or.inr h) hl (fun r o0 o1 o2 o3 o4 o5 o6 o7 o8 H locs pc ls hq hP hD hS hd => W.iret (v := r) hx hb hr (fun t ht hW => ⟨⟨r, (o0, o1, o2, o3, o4, o5, o6, o7, o8), rfl, hq, by rw [ht]; exact hP, hD⟩, hS.F ht⟩) hS.2.2 hd) hw
