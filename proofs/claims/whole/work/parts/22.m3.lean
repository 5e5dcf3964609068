abbrev rm_X2_collect : Room := { frames := 2, cells := 0, slots := 0, locals := 41 }
abbrev cl_X2_collect (ad : Nat → Nat) (cs : Nat → ClassId) (vS_camps vM_owners vP_marbleCells vP_goalCells : Nat → Int32) : va_W := [((ad 1), .inr (5, [.ref (ad 2), .ref (ad 3), .ref (ad 4), .ref (ad 5)])), ((ad 4), .inl ((cs 4), 121, .inl vS_camps)), ((ad 6), .inr (1, [.ref (ad 1), .ref (ad 7)])), ((ad 7), .inl ((cs 7), 121, .inl vM_owners)), ((ad 12), .inr (2, [.ref (ad 1), .ref (ad 6), .ref (ad 13), .ref (ad 14), .ref (ad 15), .ref (ad 16), .ref (ad 17), .ref (ad 18)])), ((ad 13), .inl ((cs 13), 10, .inl vP_marbleCells)), ((ad 14), .inl ((cs 14), 10, .inl vP_goalCells))]
abbrev ty_X2_collect (cs : Nat → ClassId) : List (ClassId × FieldType) := [((cs 4), .int), ((cs 7), .int), ((cs 13), .int), ((cs 14), .int)]
def wJ_X2_collect_50 (vS_camps vP_marbleCells vP_goalCells : Nat → Int32) (x2 x3 x4 x5 : Int32) (P13 : (Nat → Int32) → (Nat → Int32) → Int32 → Int32 → Int32 → Prop) : Prop :=
 wp_X5_camp vS_camps x5 (fun r_1 =>
 ((¬ r_1 = x2 → P13 vP_marbleCells vP_goalCells x3 x4 (x5 + (1 : Int32))) ∧
 (r_1 = x2 → (((10 : Int32) ≤ x4 → P13 vP_marbleCells vP_goalCells x3 x4 (x5 + (1 : Int32))) ∧
 (¬ (10 : Int32) ≤ x4 → (vp_in x4 10 ∧
 P13 vP_marbleCells (upd vP_goalCells x4.toNatClampNeg x5) x3 (x4 + (1 : Int32)) (x5 + (1 : Int32))))))))
def wb_X2_collect_13 (vS_camps vM_owners : Nat → Int32) (x1 x2 : Int32) (K13 : (Nat → Int32) → (Nat → Int32) → Prop) (P13 : (Nat → Int32) → (Nat → Int32) → Int32 → Int32 → Int32 → Prop) (vP_marbleCells vP_goalCells : Nat → Int32) (x3 x4 x5 : Int32) : Prop :=
 (((121 : Int32) ≤ x5 → K13 vP_marbleCells vP_goalCells) ∧
 (¬ (121 : Int32) ≤ x5 → wp_X1_owner vM_owners x5 (fun r_6 =>
 ((¬ r_6 = x1 → wJ_X2_collect_50 vS_camps vP_marbleCells vP_goalCells x2 x3 x4 x5 P13) ∧
 (r_6 = x1 → (((10 : Int32) ≤ x3 → wJ_X2_collect_50 vS_camps vP_marbleCells vP_goalCells x2 x3 x4 x5 P13) ∧
 (¬ (10 : Int32) ≤ x3 → (vp_in x3 10 ∧
 wJ_X2_collect_50 vS_camps (upd vP_marbleCells x3.toNatClampNeg x5) vP_goalCells x2 (x3 + (1 : Int32)) x4 x5 P13))))))))
def wl_X2_collect_13 (vS_camps vM_owners : Nat → Int32) (x1 x2 : Int32) (K13 : (Nat → Int32) → (Nat → Int32) → Prop) (vP_marbleCells vP_goalCells : Nat → Int32) (x3 x4 x5 : Int32) : Prop := ∀ P13 : (Nat → Int32) → (Nat → Int32) → Int32 → Int32 → Int32 → Prop, (∀ (vP_marbleCells vP_goalCells : Nat → Int32) (x3 x4 x5 : Int32), wb_X2_collect_13 vS_camps vM_owners x1 x2 K13 P13 vP_marbleCells vP_goalCells x3 x4 x5 → P13 vP_marbleCells vP_goalCells x3 x4 x5) → P13 vP_marbleCells vP_goalCells x3 x4 x5
def wp_X2_collect (vS_camps vM_owners vP_marbleCells vP_goalCells : Nat → Int32) (x1 : Int32) (Q : (Nat → Int32) → (Nat → Int32) → Prop) : Prop :=
 wp_X6_goalOf x1 (fun r_10 =>
 wl_X2_collect_13 vS_camps vM_owners x1 r_10 (fun vP_marbleCells_11 vP_goalCells_12 => Q vP_marbleCells_11 vP_goalCells_12) vP_marbleCells vP_goalCells (0 : Int32) (0 : Int32) (0 : Int32))
set_option maxHeartbeats 4000000 in
set_option maxRecDepth 100000 in
theorem b_X2_collect {p : Program} {e : Env} {s : State} {m : MethodId} {args : Array Value} {below : List Frame} {meth : Method} {c : Code} {QQ : State → Prop} {A : Nat → Prop} {ls : Array Slot} (l : Launch) (D : va_G) (ad : Nat → Nat) (cs : Nat → ClassId) (vS_camps vM_owners vP_marbleCells vP_goalCells : Nat → Int32) (x1 : Int32) (Q : (Nat → Int32) → (Nat → Int32) → Prop) (hx : p.tables.exec = Jvm.exec) (hb : c.code = cX2_collect) (hml : c.maxLocals = 6) (hown : s.vm.findClass RX2 = some m.cls) (hts : ∀ w ∈ wsX2_collect, w.before args s = true) (hN : NW s) (hP : va_P D vwCl (cl_X2_collect ad cs vS_camps vM_owners vP_marbleCells vP_goalCells) s.heap) (hK : va_K D vwCl (ty_X2_collect cs) s) (hD : va_D A (cl_X2_collect ad cs vS_camps vM_owners vP_marbleCells vP_goalCells)) (hA : ∀ q : Nat, s.heap.size ≤ q → A q) (hl : lv_has ls 6 [(0, .ref (ad 12)), (1, .int x1)])
  (hret : ∀ (o0 : Nat → Int32) (o1 : Nat → Int32) (H : Heap) (locs : List Loc) (pc : Nat) (ls : Array Slot), Q o0 o1 → va_P D vwCl (cl_X2_collect ad cs vS_camps vM_owners o0 o1) H → va_D A (cl_X2_collect ad cs vS_camps vM_owners o0 o1) → va_S A s.heap H locs → decode cX2_collect pc = .ok (.return_, 1) → W p l e rm_X2_collect s m args below meth c H locs 0 0 QQ (F0 m pc ls []))
  (hw : wp_X2_collect vS_camps vM_owners vP_marbleCells vP_goalCells x1 Q) :
  W p l e rm_X2_collect s m args below meth c s.heap [] 0 0 QQ (F0 m 0 ls []) := by
  have S0 : CallFix p m c cX2_collect 6 s args wsX2_collect RX2 := ⟨hx, hb, hml, hown, hts⟩
  have inX2 : ∀ w ∈ u_ws RX2 TX2 8, w ∈ wsX2_collect := by decide +kernel
  have fl_15 := hts (.fieldLink RX2 15 "HopperCourt$Pairing" "goalCells" "[I") (by decide +kernel)
  have fl_30 := hts (.fieldLink RX2 30 "HopperCourt$Pairing" "star" "LHopperCourt$Star;") (by decide +kernel)
  have fl_34 := hts (.fieldLink RX2 34 "HopperCourt$Pairing" "marbles" "LHopperCourt$Marbles;") (by decide +kernel)
  have fl_9 := hts (.fieldLink RX2 9 "HopperCourt$Pairing" "marbleCells" "[I") (by decide +kernel)
  have hJ50 : ∀ (vP_marbleCells vP_goalCells : Nat → Int32) (x2 x3 x4 x5 : Int32) (P13 : (Nat → Int32) → (Nat → Int32) → Int32 → Int32 → Int32 → Prop) (x1 : Int32), wJ_X2_collect_50 vS_camps vP_marbleCells vP_goalCells x2 x3 x4 x5 P13 → (∀ (vP_marbleCells vP_goalCells : Nat → Int32) (x3 x4 x5 : Int32), P13 vP_marbleCells vP_goalCells x3 x4 x5 → ∀ (H : Heap) (locs : List Loc) (ls : Array Slot), va_P D vwCl (cl_X2_collect ad cs vS_camps vM_owners vP_marbleCells vP_goalCells) H → va_D A (cl_X2_collect ad cs vS_camps vM_owners vP_marbleCells vP_goalCells) → va_S A s.heap H locs → lv_has ls 6 [(0, .ref (ad 12)), (1, .int x1), (2, .int x2), (3, .int x3), (4, .int x4), (5, .int x5)] → W p l e rm_X2_collect s m args below meth c H locs 0 0 QQ (F0 m 13 ls [])) → ∀ (H : Heap) (locs : List Loc) (ls : Array Slot), va_P D vwCl (cl_X2_collect ad cs vS_camps vM_owners vP_marbleCells vP_goalCells) H → va_D A (cl_X2_collect ad cs vS_camps vM_owners vP_marbleCells vP_goalCells) → va_S A s.heap H locs → lv_has ls 6 [(0, .ref (ad 12)), (1, .int x1), (2, .int x2), (3, .int x3), (4, .int x4), (5, .int x5)] → W p l e rm_X2_collect s m args below meth c H locs 0 0 QQ (F0 m 50 ls []) := by
    intro vP_marbleCells vP_goalCells x2 x3 x4 x5 P13 x1 hw hB13 H locs ls hP hD hS hl
    unfold wJ_X2_collect_50 at hw
    refine lv_aload_n hx hb dX2_collect_50 rfl (lv_at hl 0 rfl) ?_
    refine va_get (D := D) (ci := 2) (v := .ref (ad 1)) (C := RX2) (T := TX2) (N := 8) hx hb hts inX2 hown hK hP 4 rfl rfl 0 (by decide) fl_30 (fun _ h9 => h9) rfl dX2_collect_51 ?_
    refine lv_iload hx hb dX2_collect_54 (lv_at hl 5 rfl) ?_
    refine pcV (rest := []) (ci := 5) S0 (c_X5_camp l D ad cs H.size vS_camps x5 _ hw) (cwV 1 hts gX2_collect_X5_camp rfl rfl rfl (by decide +kernel) ⟨Nat.le_of_ble_eq_true rfl, Nat.le_of_ble_eq_true rfl⟩) hN hK hP hD [0, 1] [0] rfl rfl rfl 0 rfl rfl rfl rfl hl.1 (Nat.le_of_ble_eq_true rfl) ⟨Nat.le_of_ble_eq_true rfl, Nat.le_of_ble_eq_true rfl⟩ dX2_collect_56 (fun r_1 hw => ?_)
    refine lv_iload_n hx hb dX2_collect_59 rfl (lv_at hl 2 rfl) ?_
    refine lv_icmp_ne (tgt := 82) hx hb dX2_collect_60 (by decide) (fun c_2 => ?_) (fun c_2 => ?_)
    · have hw := hw.1 c_2
      refine lv_iinc (v := (x5 + (1 : Int32))) (lv' := [(5, .int (x5 + (1 : Int32))), (0, .ref (ad 12)), (1, .int x1), (2, .int x2), (3, .int x3), (4, .int x4)]) hx hb dX2_collect_82 hl (k := 5) rfl rfl (by decide) rfl (fun ls hl => ?_)
      refine lv_goto (tgt := 13) hx hb dX2_collect_85 (by decide) ?_
      exact hB13 vP_marbleCells vP_goalCells x3 x4 (x5 + (1 : Int32)) hw _ _ _ hP hD hS (lv_sub hl [1, 2, 3, 4, 5, 0] rfl)
    · have hw := hw.2 c_2
      refine lv_iload hx hb dX2_collect_63 (lv_at hl 4 rfl) ?_
      refine lv_bipush (v := (10 : Int32)) hx hb dX2_collect_65 (by decide) ?_
      refine lv_icmp_ge (tgt := 82) hx hb dX2_collect_67 (by decide) (fun c_3 => ?_) (fun c_3 => ?_)
      · have hw := hw.1 c_3
        refine lv_iinc (v := (x5 + (1 : Int32))) (lv' := [(5, .int (x5 + (1 : Int32))), (0, .ref (ad 12)), (1, .int x1), (2, .int x2), (3, .int x3), (4, .int x4)]) hx hb dX2_collect_82 hl (k := 5) rfl rfl (by decide) rfl (fun ls hl => ?_)
        refine lv_goto (tgt := 13) hx hb dX2_collect_85 (by decide) ?_
        exact hB13 vP_marbleCells vP_goalCells x3 x4 (x5 + (1 : Int32)) hw _ _ _ hP hD hS (lv_sub hl [1, 2, 3, 4, 5, 0] rfl)
      · have hw := hw.2 c_3
        refine lv_aload_n hx hb dX2_collect_70 rfl (lv_at hl 0 rfl) ?_
        refine va_get (D := D) (ci := 2) (v := .ref (ad 14)) (C := RX2) (T := TX2) (N := 8) hx hb hts inX2 hown hK hP 4 rfl rfl 3 (by decide) fl_15 (fun _ h9 => h9) rfl dX2_collect_71 ?_
        refine lv_iload hx hb dX2_collect_74 (lv_at hl 4 rfl) ?_
        refine lv_iload hx hb dX2_collect_76 (lv_at hl 5 rfl) ?_
        obtain ⟨h_4, hw⟩ := hw
        refine va_iast hx hb hK hP hD hS 6 3 rfl rfl h_4 dX2_collect_78 (fun H locs hP hD hS => ?_)
        have hP : va_P D vwCl (cl_X2_collect ad cs vS_camps vM_owners vP_marbleCells (upd vP_goalCells x4.toNatClampNeg x5)) H := hP
        have hD : va_D A (cl_X2_collect ad cs vS_camps vM_owners vP_marbleCells (upd vP_goalCells x4.toNatClampNeg x5)) := hD
        refine lv_iinc (v := (x4 + (1 : Int32))) (lv' := [(4, .int (x4 + (1 : Int32))), (0, .ref (ad 12)), (1, .int x1), (2, .int x2), (3, .int x3), (5, .int x5)]) hx hb dX2_collect_79 hl (k := 4) rfl rfl (by decide) rfl (fun ls hl => ?_)
        refine lv_iinc (v := (x5 + (1 : Int32))) (lv' := [(5, .int (x5 + (1 : Int32))), (4, .int (x4 + (1 : Int32))), (0, .ref (ad 12)), (1, .int x1), (2, .int x2), (3, .int x3)]) hx hb dX2_collect_82 hl (k := 5) rfl rfl (by decide) rfl (fun ls hl => ?_)
        refine lv_goto (tgt := 13) hx hb dX2_collect_85 (by decide) ?_
        exact hB13 vP_marbleCells (upd vP_goalCells x4.toNatClampNeg x5) x3 (x4 + (1 : Int32)) (x5 + (1 : Int32)) hw _ _ _ hP hD hS (lv_sub hl [2, 3, 4, 5, 1, 0] rfl)
  have hL13 : ∀ (x1 x2 : Int32) (K13 : (Nat → Int32) → (Nat → Int32) → Prop) (vP_marbleCells vP_goalCells : Nat → Int32) (x3 x4 x5 : Int32), wl_X2_collect_13 vS_camps vM_owners x1 x2 K13 vP_marbleCells vP_goalCells x3 x4 x5 → (∀ (vP_marbleCells vP_goalCells : Nat → Int32), K13 vP_marbleCells vP_goalCells → ∀ (H : Heap) (locs : List Loc) (ls : Array Slot), va_P D vwCl (cl_X2_collect ad cs vS_camps vM_owners vP_marbleCells vP_goalCells) H → va_D A (cl_X2_collect ad cs vS_camps vM_owners vP_marbleCells vP_goalCells) → va_S A s.heap H locs → lv_has ls 6 [] → W p l e rm_X2_collect s m args below meth c H locs 0 0 QQ (F0 m 88 ls [])) → ∀ (H : Heap) (locs : List Loc) (ls : Array Slot), va_P D vwCl (cl_X2_collect ad cs vS_camps vM_owners vP_marbleCells vP_goalCells) H → va_D A (cl_X2_collect ad cs vS_camps vM_owners vP_marbleCells vP_goalCells) → va_S A s.heap H locs → lv_has ls 6 [(0, .ref (ad 12)), (1, .int x1), (2, .int x2), (3, .int x3), (4, .int x4), (5, .int x5)] → W p l e rm_X2_collect s m args below meth c H locs 0 0 QQ (F0 m 13 ls []) := by
    intro x1 x2 K13 vP_marbleCells vP_goalCells x3 x4 x5 hw hK13
    unfold wl_X2_collect_13 at hw
    refine hw (fun (vP_marbleCells vP_goalCells : Nat → Int32) (x3 x4 x5 : Int32) => ∀ (H : Heap) (locs : List Loc) (ls : Array Slot), va_P D vwCl (cl_X2_collect ad cs vS_camps vM_owners vP_marbleCells vP_goalCells) H → va_D A (cl_X2_collect ad cs vS_camps vM_owners vP_marbleCells vP_goalCells) → va_S A s.heap H locs → lv_has ls 6 [(0, .ref (ad 12)), (1, .int x1), (2, .int x2), (3, .int x3), (4, .int x4), (5, .int x5)] → W p l e rm_X2_collect s m args below meth c H locs 0 0 QQ (F0 m 13 ls [])) ?_
    intro vP_marbleCells vP_goalCells x3 x4 x5 hw H locs ls hP hD hS hl
    unfold wb_X2_collect_13 at hw
    refine lv_iload hx hb dX2_collect_13 (lv_at hl 5 rfl) ?_
    refine lv_bipush (v := (121 : Int32)) hx hb dX2_collect_15 (by decide) ?_
    refine lv_icmp_ge (tgt := 88) hx hb dX2_collect_17 (by decide) (fun c_5 => ?_) (fun c_5 => ?_)
    · have hw := hw.1 c_5
      exact hK13 vP_marbleCells vP_goalCells hw _ _ _ hP hD hS (lv_sub hl [] rfl)
    · have hw := hw.2 c_5
      refine lv_aload_n hx hb dX2_collect_20 rfl (lv_at hl 0 rfl) ?_
      refine va_get (D := D) (ci := 2) (v := .ref (ad 6)) (C := RX2) (T := TX2) (N := 8) hx hb hts inX2 hown hK hP 4 rfl rfl 1 (by decide) fl_34 (fun _ h9 => h9) rfl dX2_collect_21 ?_
      refine lv_iload hx hb dX2_collect_24 (lv_at hl 5 rfl) ?_
      refine pcV (rest := []) (ci := 1) S0 (c_X1_owner l D ad cs H.size vM_owners x5 _ hw) (cwV 1 hts gX2_collect_X1_owner rfl rfl rfl (by decide +kernel) ⟨Nat.le_of_ble_eq_true rfl, Nat.le_of_ble_eq_true rfl⟩) hN hK hP hD [2, 3] [1] rfl rfl rfl 2 rfl rfl rfl rfl hl.1 (Nat.le_of_ble_eq_true rfl) ⟨Nat.le_of_ble_eq_true rfl, Nat.le_of_ble_eq_true rfl⟩ dX2_collect_26 (fun r_6 hw => ?_)
      refine lv_iload_n hx hb dX2_collect_29 rfl (lv_at hl 1 rfl) ?_
      refine lv_icmp_ne (tgt := 50) hx hb dX2_collect_30 (by decide) (fun c_7 => ?_) (fun c_7 => ?_)
      · have hw := hw.1 c_7
        exact hJ50 vP_marbleCells vP_goalCells x2 x3 x4 x5 _ _ hw (fun _ _ _ _ _ h => h) _ _ _ hP hD hS (lv_sub hl [0, 1, 2, 3, 4, 5] rfl)
      · have hw := hw.2 c_7
        refine lv_iload_n hx hb dX2_collect_33 rfl (lv_at hl 3 rfl) ?_
        refine lv_bipush (v := (10 : Int32)) hx hb dX2_collect_34 (by decide) ?_
        refine lv_icmp_ge (tgt := 50) hx hb dX2_collect_36 (by decide) (fun c_8 => ?_) (fun c_8 => ?_)
        · have hw := hw.1 c_8
          exact hJ50 vP_marbleCells vP_goalCells x2 x3 x4 x5 _ _ hw (fun _ _ _ _ _ h => h) _ _ _ hP hD hS (lv_sub hl [0, 1, 2, 3, 4, 5] rfl)
        · have hw := hw.2 c_8
          refine lv_aload_n hx hb dX2_collect_39 rfl (lv_at hl 0 rfl) ?_
          refine va_get (D := D) (ci := 2) (v := .ref (ad 13)) (C := RX2) (T := TX2) (N := 8) hx hb hts inX2 hown hK hP 4 rfl rfl 2 (by decide) fl_9 (fun _ h9 => h9) rfl dX2_collect_40 ?_
          refine lv_iload_n hx hb dX2_collect_43 rfl (lv_at hl 3 rfl) ?_
          refine lv_iload hx hb dX2_collect_44 (lv_at hl 5 rfl) ?_
          obtain ⟨h_9, hw⟩ := hw
          refine va_iast hx hb hK hP hD hS 5 2 rfl rfl h_9 dX2_collect_46 (fun H locs hP hD hS => ?_)
          have hP : va_P D vwCl (cl_X2_collect ad cs vS_camps vM_owners (upd vP_marbleCells x3.toNatClampNeg x5) vP_goalCells) H := hP
          have hD : va_D A (cl_X2_collect ad cs vS_camps vM_owners (upd vP_marbleCells x3.toNatClampNeg x5) vP_goalCells) := hD
          refine lv_iinc (v := (x3 + (1 : Int32))) (lv' := [(3, .int (x3 + (1 : Int32))), (0, .ref (ad 12)), (1, .int x1), (2, .int x2), (4, .int x4), (5, .int x5)]) hx hb dX2_collect_47 hl (k := 3) rfl rfl (by decide) rfl (fun ls hl => ?_)
          exact hJ50 (upd vP_marbleCells x3.toNatClampNeg x5) vP_goalCells x2 (x3 + (1 : Int32)) x4 x5 _ _ hw (fun _ _ _ _ _ h => h) _ _ _ hP hD hS (lv_sub hl [1, 2, 3, 0, 4, 5] rfl)
  obtain ⟨H, hH⟩ : ∃ H : Heap, H = s.heap := ⟨_, rfl⟩
  have hS : va_S A s.heap H [] := by rw [hH]; exact va_S.rf
  rw [← hH] at hP ⊢
  unfold wp_X2_collect at hw
  refine lv_iload_n hx hb dX2_collect_0 rfl (lv_at hl 1 rfl) ?_
  refine pcSN (rest := []) S0 (c_X6_goalOf l D ad cs H.size x1 _ hw) ⟨va_cnB (host := RX6) 1 hts gX2_collect_X6_goalOf_n68 rfl rfl rfl hN.2.2.2.2.1 (hts (.initialized RX6) (by decide +kernel)) (by decide +kernel) ⟨Nat.le_of_ble_eq_true rfl, Nat.le_of_ble_eq_true rfl⟩, hts (.static yX6_goalOf) (by decide +kernel), trivial⟩ hN hK hP hD [] [] rfl rfl rfl rfl rfl hl.1 (Nat.le_of_ble_eq_true rfl) ⟨Nat.le_of_ble_eq_true rfl, Nat.le_of_ble_eq_true rfl⟩ dX2_collect_1 (fun r_10 hw => ?_)
  refine lv_istore_n (lv' := [(2, .int r_10), (0, .ref (ad 12)), (1, .int x1)]) hx hb dX2_collect_4 rfl hl (by decide) rfl (fun ls hl => ?_)
  refine lv_iconst (v := (0 : Int32)) hx hb dX2_collect_5 (by decide) ?_
  refine lv_istore_n (lv' := [(3, .int (0 : Int32)), (2, .int r_10), (0, .ref (ad 12)), (1, .int x1)]) hx hb dX2_collect_6 rfl hl (by decide) rfl (fun ls hl => ?_)
  refine lv_iconst (v := (0 : Int32)) hx hb dX2_collect_7 (by decide) ?_
  refine lv_istore (lv' := [(4, .int (0 : Int32)), (3, .int (0 : Int32)), (2, .int r_10), (0, .ref (ad 12)), (1, .int x1)]) hx hb dX2_collect_8 hl (by decide) rfl (fun ls hl => ?_)
  refine lv_iconst (v := (0 : Int32)) hx hb dX2_collect_10 (by decide) ?_
  refine lv_istore (lv' := [(5, .int (0 : Int32)), (4, .int (0 : Int32)), (3, .int (0 : Int32)), (2, .int r_10), (0, .ref (ad 12)), (1, .int x1)]) hx hb dX2_collect_11 hl (by decide) rfl (fun ls hl => ?_)
  refine hL13 x1 r_10 _ vP_marbleCells vP_goalCells (0 : Int32) (0 : Int32) (0 : Int32) hw ?_ _ _ _ hP hD hS (lv_sub hl [4, 5, 3, 2, 1, 0] rfl)
  intro vP_marbleCells_11 vP_goalCells_12 hw H locs ls hP hD hS hl
  exact hret _ _ _ _ _ _ hw hP hD hS dX2_collect_88
set_option maxHeartbeats 4000000 in
set_option maxRecDepth 100000 in
theorem c_X2_collect (l : Launch) (D : va_G) (ad : Nat → Nat) (cs : Nat → ClassId) (sz : Nat) (vS_camps vM_owners vP_marbleCells vP_goalCells : Nat → Int32) (x1 : Int32) (Q : (Nat → Int32) → (Nat → Int32) → Prop) (hw : wp_X2_collect vS_camps vM_owners vP_marbleCells vP_goalCells x1 Q) :
  Met l yX2_collect wsX2_collect rm_X2_collect (va_Pc [.ref (ad 12), .int x1] (PX D (cl_X2_collect ad cs vS_camps vM_owners vP_marbleCells vP_goalCells) (ty_X2_collect cs) sz)) (va_Qv (fun (u : (Nat → Int32) × (Nat → Int32)) => Q u.1 u.2) (fun (u : (Nat → Int32) × (Nat → Int32)) t => va_P D vwCl (cl_X2_collect ad cs vS_camps vM_owners u.1 u.2) t.heap ∧ va_D (va_A (cl_X2_collect ad cs vS_camps vM_owners vP_marbleCells vP_goalCells) sz) (cl_X2_collect ad cs vS_camps vM_owners u.1 u.2)) (va_A (cl_X2_collect ad cs vS_camps vM_owners vP_marbleCells vP_goalCells) sz)) 0 0 (va_A (cl_X2_collect ad cs vS_camps vM_owners vP_marbleCells vP_goalCells) sz) := by
  refine Met.ofW (cc := cX2_collect) (maxL := 6) (ret := none) (by decide) rfl ?_
  intro p e s m args below meth c s₁ B hml hv
  obtain ⟨rfl, hsz, hP, hK, hD0, hN⟩ := hv
  subst hsz
  have hl := lv_entry ([.ref (ad 12), .int x1]) (n := 6) (Nat.le_of_ble_eq_true rfl)
  rw [lg_entry_eq]
  have hx := B.exec
  have hb := B.bytes
  have hr := B.returns
  exact b_X2_collect l D ad cs vS_camps vM_owners vP_marbleCells vP_goalCells x1 Q hx hb hml (findClass_of_methodNamed B.named) (atoms_spec (ws := wsX2_collect) B.pre) hN hP hK hD0.self (fun q h => Or.inr h) hl (fun o0 o1 H locs pc ls hq hP hD hS hd => W.vret hx hb hr (fun t ht hW => ⟨⟨(o0, o1), rfl, hq, by rw [ht]; exact hP, hD⟩, hS.F ht⟩) hS.2.2 hd) hw
abbrev rm_X2_measure : Room := { frames := 3, cells := 0, slots := 0, locals := 66 }
abbrev cl_X2_measure (ad : Nat → Nat) (cs : Nat → ClassId) (vS_rows vS_columns vS_camps vM_owners vP_marbleCells vP_goalCells vP_steps : Nat → Int32) : va_W := [((ad 1), .inr (5, [.ref (ad 2), .ref (ad 3), .ref (ad 4), .ref (ad 5)])), ((ad 2), .inl ((cs 2), 121, .inl vS_rows)), ((ad 3), .inl ((cs 3), 121, .inl vS_columns)), ((ad 4), .inl ((cs 4), 121, .inl vS_camps)), ((ad 6), .inr (1, [.ref (ad 1), .ref (ad 7)])), ((ad 7), .inl ((cs 7), 121, .inl vM_owners)), ((ad 12), .inr (2, [.ref (ad 1), .ref (ad 6), .ref (ad 13), .ref (ad 14), .ref (ad 15), .ref (ad 16), .ref (ad 17), .ref (ad 18)])), ((ad 13), .inl ((cs 13), 10, .inl vP_marbleCells)), ((ad 14), .inl ((cs 14), 10, .inl vP_goalCells)), ((ad 15), .inl ((cs 15), 100, .inl vP_steps))]
abbrev ty_X2_measure (cs : Nat → ClassId) : List (ClassId × FieldType) := [((cs 2), .int), ((cs 3), .int), ((cs 4), .int), ((cs 7), .int), ((cs 13), .int), ((cs 14), .int), ((cs 15), .int)]
def wb_X2_measure_15 (vS_rows vS_columns vP_marbleCells vP_goalCells : Nat → Int32) (x2 : Int32) (K15 : (Nat → Int32) → Prop) (P15 : (Nat → Int32) → Int32 → Prop) (vP_steps : Nat → Int32) (x3 : Int32) : Prop :=
 (((10 : Int32) ≤ x3 → K15 vP_steps) ∧
 (¬ (10 : Int32) ≤ x3 → (vp_in x2 10 ∧
 (vp_in x3 10 ∧
 wp_X5_steps vS_rows vS_columns (vP_marbleCells x2.toNatClampNeg) (vP_goalCells x3.toNatClampNeg) (fun r_4 =>
 (vp_in ((x2 * (10 : Int32)) + x3) 100 ∧
 P15 (upd vP_steps ((x2 * (10 : Int32)) + x3).toNatClampNeg r_4) (x3 + (1 : Int32))))))))
def wl_X2_measure_15 (vS_rows vS_columns vP_marbleCells vP_goalCells : Nat → Int32) (x2 : Int32) (K15 : (Nat → Int32) → Prop) (vP_steps : Nat → Int32) (x3 : Int32) : Prop := ∀ P15 : (Nat → Int32) → Int32 → Prop, (∀ (vP_steps : Nat → Int32) (x3 : Int32), wb_X2_measure_15 vS_rows vS_columns vP_marbleCells vP_goalCells x2 K15 P15 vP_steps x3 → P15 vP_steps x3) → P15 vP_steps x3
def wb_X2_measure_7 (vS_rows vS_columns vP_marbleCells vP_goalCells : Nat → Int32) (K7 : (Nat → Int32) → Prop) (P7 : (Nat → Int32) → Int32 → Prop) (vP_steps : Nat → Int32) (x2 : Int32) : Prop :=
 (((10 : Int32) ≤ x2 → K7 vP_steps) ∧
 (¬ (10 : Int32) ≤ x2 → wl_X2_measure_15 vS_rows vS_columns vP_marbleCells vP_goalCells x2 (fun vP_steps_7 => P7 vP_steps_7 (x2 + (1 : Int32))) vP_steps (0 : Int32)))
def wl_X2_measure_7 (vS_rows vS_columns vP_marbleCells vP_goalCells : Nat → Int32) (K7 : (Nat → Int32) → Prop) (vP_steps : Nat → Int32) (x2 : Int32) : Prop := ∀ P7 : (Nat → Int32) → Int32 → Prop, (∀ (vP_steps : Nat → Int32) (x2 : Int32), wb_X2_measure_7 vS_rows vS_columns vP_marbleCells vP_goalCells K7 P7 vP_steps x2 → P7 vP_steps x2) → P7 vP_steps x2
def wp_X2_measure (vS_rows vS_columns vS_camps vM_owners vP_marbleCells vP_goalCells vP_steps : Nat → Int32) (x1 : Int32) (Q : (Nat → Int32) → (Nat → Int32) → (Nat → Int32) → Prop) : Prop :=
 wp_X2_collect vS_camps vM_owners vP_marbleCells vP_goalCells x1 (fun vP_marbleCells_8 vP_goalCells_9 =>
 wl_X2_measure_7 vS_rows vS_columns vP_marbleCells_8 vP_goalCells_9 (fun vP_steps_10 => Q vP_marbleCells_8 vP_goalCells_9 vP_steps_10) vP_steps (0 : Int32))
set_option maxHeartbeats 4000000 in
set_option maxRecDepth 100000 in
theorem b_X2_measure {p : Program} {e : Env} {s : State} {m : MethodId} {args : Array Value} {below : List Frame} {meth : Method} {c : Code} {QQ : State → Prop} {A : Nat → Prop} {ls : Array Slot} (l : Launch) (D : va_G) (ad : Nat → Nat) (cs : Nat → ClassId) (vS_rows vS_columns vS_camps vM_owners vP_marbleCells vP_goalCells vP_steps : Nat → Int32) (x1 : Int32) (Q : (Nat → Int32) → (Nat → Int32) → (Nat → Int32) → Prop) (hx : p.tables.exec = Jvm.exec) (hb : c.code = cX2_measure) (hml : c.maxLocals = 4) (hown : s.vm.findClass RX2 = some m.cls) (hts : ∀ w ∈ wsX2_measure, w.before args s = true) (hN : NW s) (hP : va_P D vwCl (cl_X2_measure ad cs vS_rows vS_columns vS_camps vM_owners vP_marbleCells vP_goalCells vP_steps) s.heap) (hK : va_K D vwCl (ty_X2_measure cs) s) (hD : va_D A (cl_X2_measure ad cs vS_rows vS_columns vS_camps vM_owners vP_marbleCells vP_goalCells vP_steps)) (hA : ∀ q : Nat, s.heap.size ≤ q → A q) (hl : lv_has ls 4 [(0, .ref (ad 12)), (1, .int x1)])
  (hret : ∀ (o0 : Nat → Int32) (o1 : Nat → Int32) (o2 : Nat → Int32) (H : Heap) (locs : List Loc) (pc : Nat) (ls : Array Slot), Q o0 o1 o2 → va_P D vwCl (cl_X2_measure ad cs vS_rows vS_columns vS_camps vM_owners o0 o1 o2) H → va_D A (cl_X2_measure ad cs vS_rows vS_columns vS_camps vM_owners o0 o1 o2) → va_S A s.heap H locs → decode cX2_measure pc = .ok (.return_, 1) → W p l e rm_X2_measure s m args below meth c H locs 0 0 QQ (F0 m pc ls []))
  (hw : wp_X2_measure vS_rows vS_columns vS_camps vM_owners vP_marbleCells vP_goalCells vP_steps x1 Q) :
  W p l e rm_X2_measure s m args below meth c s.heap [] 0 0 QQ (F0 m 0 ls []) := by
  have S0 : CallFix p m c cX2_measure 4 s args wsX2_measure RX2 := ⟨hx, hb, hml, hown, hts⟩
  have inX2 : ∀ w ∈ u_ws RX2 TX2 8, w ∈ wsX2_measure := by decide +kernel
  have fl_15 := hts (.fieldLink RX2 15 "HopperCourt$Pairing" "goalCells" "[I") (by decide +kernel)
  have fl_18 := hts (.fieldLink RX2 18 "HopperCourt$Pairing" "steps" "[I") (by decide +kernel)
  have fl_30 := hts (.fieldLink RX2 30 "HopperCourt$Pairing" "star" "LHopperCourt$Star;") (by decide +kernel)
  have fl_9 := hts (.fieldLink RX2 9 "HopperCourt$Pairing" "marbleCells" "[I") (by decide +kernel)
  have hL15 : ∀ (vP_marbleCells vP_goalCells : Nat → Int32) (x2 : Int32) (K15 : (Nat → Int32) → Prop) (vP_steps : Nat → Int32) (x3 : Int32), wl_X2_measure_15 vS_rows vS_columns vP_marbleCells vP_goalCells x2 K15 vP_steps x3 → (∀ (vP_steps : Nat → Int32), K15 vP_steps → ∀ (H : Heap) (locs : List Loc) (ls : Array Slot), va_P D vwCl (cl_X2_measure ad cs vS_rows vS_columns vS_camps vM_owners vP_marbleCells vP_goalCells vP_steps) H → va_D A (cl_X2_measure ad cs vS_rows vS_columns vS_camps vM_owners vP_marbleCells vP_goalCells vP_steps) → va_S A s.heap H locs → lv_has ls 4 [(0, .ref (ad 12)), (2, .int x2)] → W p l e rm_X2_measure s m args below meth c H locs 0 0 QQ (F0 m 57 ls [])) → ∀ (H : Heap) (locs : List Loc) (ls : Array Slot), va_P D vwCl (cl_X2_measure ad cs vS_rows vS_columns vS_camps vM_owners vP_marbleCells vP_goalCells vP_steps) H → va_D A (cl_X2_measure ad cs vS_rows vS_columns vS_camps vM_owners vP_marbleCells vP_goalCells vP_steps) → va_S A s.heap H locs → lv_has ls 4 [(0, .ref (ad 12)), (2, .int x2), (3, .int x3)] → W p l e rm_X2_measure s m args below meth c H locs 0 0 QQ (F0 m 15 ls []) := by
    intro vP_marbleCells vP_goalCells x2 K15 vP_steps x3 hw hK15
    unfold wl_X2_measure_15 at hw
    refine hw (fun (vP_steps : Nat → Int32) (x3 : Int32) => ∀ (H : Heap) (locs : List Loc) (ls : Array Slot), va_P D vwCl (cl_X2_measure ad cs vS_rows vS_columns vS_camps vM_owners vP_marbleCells vP_goalCells vP_steps) H → va_D A (cl_X2_measure ad cs vS_rows vS_columns vS_camps vM_owners vP_marbleCells vP_goalCells vP_steps) → va_S A s.heap H locs → lv_has ls 4 [(0, .ref (ad 12)), (2, .int x2), (3, .int x3)] → W p l e rm_X2_measure s m args below meth c H locs 0 0 QQ (F0 m 15 ls [])) ?_
    intro vP_steps x3 hw H locs ls hP hD hS hl
    unfold wb_X2_measure_15 at hw
    refine lv_iload_n hx hb dX2_measure_15 rfl (lv_at hl 2 rfl) ?_
    refine lv_bipush (v := (10 : Int32)) hx hb dX2_measure_16 (by decide) ?_
    refine lv_icmp_ge (tgt := 57) hx hb dX2_measure_18 (by decide) (fun c_1 => ?_) (fun c_1 => ?_)
    · have hw := hw.1 c_1
      exact hK15 vP_steps hw _ _ _ hP hD hS (lv_sub hl [0, 1] rfl)
    · have hw := hw.2 c_1
      refine lv_aload_n hx hb dX2_measure_21 rfl (lv_at hl 0 rfl) ?_
      refine va_get (D := D) (ci := 2) (v := .ref (ad 15)) (C := RX2) (T := TX2) (N := 8) hx hb hts inX2 hown hK hP 6 rfl rfl 4 (by decide) fl_18 (fun _ h9 => h9) rfl dX2_measure_22 ?_
      refine lv_iload_n hx hb dX2_measure_25 rfl (lv_at hl 1 rfl) ?_
      refine lv_bipush (v := (10 : Int32)) hx hb dX2_measure_26 (by decide) ?_
      refine lv_imul hx hb dX2_measure_28 ?_
      refine lv_iload_n hx hb dX2_measure_29 rfl (lv_at hl 2 rfl) ?_
      refine lv_iadd hx hb dX2_measure_30 ?_
      refine lv_aload_n hx hb dX2_measure_31 rfl (lv_at hl 0 rfl) ?_
      refine va_get (D := D) (ci := 2) (v := .ref (ad 1)) (C := RX2) (T := TX2) (N := 8) hx hb hts inX2 hown hK hP 6 rfl rfl 0 (by decide) fl_30 (fun _ h9 => h9) rfl dX2_measure_32 ?_
      refine lv_aload_n hx hb dX2_measure_35 rfl (lv_at hl 0 rfl) ?_
      refine va_get (D := D) (ci := 2) (v := .ref (ad 13)) (C := RX2) (T := TX2) (N := 8) hx hb hts inX2 hown hK hP 6 rfl rfl 2 (by decide) fl_9 (fun _ h9 => h9) rfl dX2_measure_36 ?_
      refine lv_iload_n hx hb dX2_measure_39 rfl (lv_at hl 1 rfl) ?_
      obtain ⟨h_2, hw⟩ := hw
      refine va_iald hx hb hK hP 7 4 rfl rfl h_2 dX2_measure_40 ?_
      refine lv_aload_n hx hb dX2_measure_41 rfl (lv_at hl 0 rfl) ?_
      refine va_get (D := D) (ci := 2) (v := .ref (ad 14)) (C := RX2) (T := TX2) (N := 8) hx hb hts inX2 hown hK hP 6 rfl rfl 3 (by decide) fl_15 (fun _ h9 => h9) rfl dX2_measure_42 ?_
      refine lv_iload_n hx hb dX2_measure_45 rfl (lv_at hl 2 rfl) ?_
      obtain ⟨h_3, hw⟩ := hw
      refine va_iald hx hb hK hP 8 5 rfl rfl h_3 dX2_measure_46 ?_
      refine pcV (rest := [.int ((x2 * (10 : Int32)) + x3), .ref (ad 15)]) (ci := 5) S0 (c_X5_steps l D ad cs H.size vS_rows vS_columns (vP_marbleCells x2.toNatClampNeg) (vP_goalCells x3.toNatClampNeg) _ hw) (cwV 2 hts gX2_measure_X5_steps rfl rfl rfl (by decide +kernel) ⟨Nat.le_of_ble_eq_true rfl, Nat.le_of_ble_eq_true rfl⟩) hN hK hP hD [0, 1, 2] [0, 1] rfl rfl rfl 0 rfl rfl rfl rfl hl.1 (Nat.le_of_ble_eq_true rfl) ⟨Nat.le_of_ble_eq_true rfl, Nat.le_of_ble_eq_true rfl⟩ dX2_measure_47 (fun r_4 hw => ?_)
      obtain ⟨h_5, hw⟩ := hw
      refine va_iast hx hb hK hP hD hS 9 6 rfl rfl h_5 dX2_measure_50 (fun H locs hP hD hS => ?_)
      have hP : va_P D vwCl (cl_X2_measure ad cs vS_rows vS_columns vS_camps vM_owners vP_marbleCells vP_goalCells (upd vP_steps ((x2 * (10 : Int32)) + x3).toNatClampNeg r_4)) H := hP
      have hD : va_D A (cl_X2_measure ad cs vS_rows vS_columns vS_camps vM_owners vP_marbleCells vP_goalCells (upd vP_steps ((x2 * (10 : Int32)) + x3).toNatClampNeg r_4)) := hD
      refine lv_iinc (v := (x3 + (1 : Int32))) (lv' := [(3, .int (x3 + (1 : Int32))), (0, .ref (ad 12)), (2, .int x2)]) hx hb dX2_measure_51 hl (k := 2) rfl rfl (by decide) rfl (fun ls hl => ?_)
      refine lv_goto (tgt := 15) hx hb dX2_measure_54 (by decide) ?_
      exact hw _ _ _ hP hD hS (lv_sub hl [1, 2, 0] rfl)
  have hL7 : ∀ (vP_marbleCells vP_goalCells : Nat → Int32) (K7 : (Nat → Int32) → Prop) (vP_steps : Nat → Int32) (x2 : Int32), wl_X2_measure_7 vS_rows vS_columns vP_marbleCells vP_goalCells K7 vP_steps x2 → (∀ (vP_steps : Nat → Int32), K7 vP_steps → ∀ (H : Heap) (locs : List Loc) (ls : Array Slot), va_P D vwCl (cl_X2_measure ad cs vS_rows vS_columns vS_camps vM_owners vP_marbleCells vP_goalCells vP_steps) H → va_D A (cl_X2_measure ad cs vS_rows vS_columns vS_camps vM_owners vP_marbleCells vP_goalCells vP_steps) → va_S A s.heap H locs → lv_has ls 4 [] → W p l e rm_X2_measure s m args below meth c H locs 0 0 QQ (F0 m 63 ls [])) → ∀ (H : Heap) (locs : List Loc) (ls : Array Slot), va_P D vwCl (cl_X2_measure ad cs vS_rows vS_columns vS_camps vM_owners vP_marbleCells vP_goalCells vP_steps) H → va_D A (cl_X2_measure ad cs vS_rows vS_columns vS_camps vM_owners vP_marbleCells vP_goalCells vP_steps) → va_S A s.heap H locs → lv_has ls 4 [(0, .ref (ad 12)), (2, .int x2)] → W p l e rm_X2_measure s m args below meth c H locs 0 0 QQ (F0 m 7 ls []) := by
    intro vP_marbleCells vP_goalCells K7 vP_steps x2 hw hK7
    unfold wl_X2_measure_7 at hw
    refine hw (fun (vP_steps : Nat → Int32) (x2 : Int32) => ∀ (H : Heap) (locs : List Loc) (ls : Array Slot), va_P D vwCl (cl_X2_measure ad cs vS_rows vS_columns vS_camps vM_owners vP_marbleCells vP_goalCells vP_steps) H → va_D A (cl_X2_measure ad cs vS_rows vS_columns vS_camps vM_owners vP_marbleCells vP_goalCells vP_steps) → va_S A s.heap H locs → lv_has ls 4 [(0, .ref (ad 12)), (2, .int x2)] → W p l e rm_X2_measure s m args below meth c H locs 0 0 QQ (F0 m 7 ls [])) ?_
    intro vP_steps x2 hw H locs ls hP hD hS hl
    unfold wb_X2_measure_7 at hw
    refine lv_iload_n hx hb dX2_measure_7 rfl (lv_at hl 1 rfl) ?_
    refine lv_bipush (v := (10 : Int32)) hx hb dX2_measure_8 (by decide) ?_
    refine lv_icmp_ge (tgt := 63) hx hb dX2_measure_10 (by decide) (fun c_6 => ?_) (fun c_6 => ?_)
    · have hw := hw.1 c_6
      exact hK7 vP_steps hw _ _ _ hP hD hS (lv_sub hl [] rfl)
    · have hw := hw.2 c_6
      refine lv_iconst (v := (0 : Int32)) hx hb dX2_measure_13 (by decide) ?_
      refine lv_istore_n (lv' := [(3, .int (0 : Int32)), (0, .ref (ad 12)), (2, .int x2)]) hx hb dX2_measure_14 rfl hl (by decide) rfl (fun ls hl => ?_)
      refine hL15 vP_marbleCells vP_goalCells x2 _ vP_steps (0 : Int32) hw ?_ _ _ _ hP hD hS (lv_sub hl [1, 2, 0] rfl)
      intro vP_steps_7 hw H locs ls hP hD hS hl
      refine lv_iinc (v := (x2 + (1 : Int32))) (lv' := [(2, .int (x2 + (1 : Int32))), (0, .ref (ad 12))]) hx hb dX2_measure_57 hl (k := 1) rfl rfl (by decide) rfl (fun ls hl => ?_)
      refine lv_goto (tgt := 7) hx hb dX2_measure_60 (by decide) ?_
      exact hw _ _ _ hP hD hS (lv_sub hl [1, 0] rfl)
  obtain ⟨H, hH⟩ : ∃ H : Heap, H = s.heap := ⟨_, rfl⟩
  have hS : va_S A s.heap H [] := by rw [hH]; exact va_S.rf
  rw [← hH] at hP ⊢
  unfold wp_X2_measure at hw
  refine lv_aload_n hx hb dX2_measure_0 rfl (lv_at hl 0 rfl) ?_
  refine lv_iload_n hx hb dX2_measure_1 rfl (lv_at hl 1 rfl) ?_
  refine pcVv (rest := []) (wr := [((ad 2), .inl ((cs 2), 121, .inl vS_rows)), ((ad 3), .inl ((cs 3), 121, .inl vS_columns)), ((ad 15), .inl ((cs 15), 100, .inl vP_steps))]) (ci := 2) S0 (c_X2_collect l D ad cs H.size vS_camps vM_owners vP_marbleCells vP_goalCells x1 _ hw) (cwV 1 hts gX2_measure_X2_collect rfl rfl rfl (by decide +kernel) ⟨Nat.le_of_ble_eq_true rfl, Nat.le_of_ble_eq_true rfl⟩) hN hK hP hD hS hA [0, 3, 4, 5, 6, 7, 8] [1, 2, 9] [2, 3, 4, 5] ⟨rfl, rfl, rfl, rfl, rfl, by decide⟩ 6 rfl rfl rfl rfl hl.1 (Nat.le_of_ble_eq_true rfl) ⟨Nat.le_of_ble_eq_true rfl, Nat.le_of_ble_eq_true rfl⟩ dX2_measure_2 (fun u H locs hw hP hD hS => ?_)
  obtain ⟨vP_marbleCells_8, vP_goalCells_9⟩ := u
  dsimp only at hw
  have hP : va_P D vwCl (cl_X2_measure ad cs vS_rows vS_columns vS_camps vM_owners vP_marbleCells_8 vP_goalCells_9 vP_steps) H := hP.sub [3, 0, 1, 4, 5, 6, 7, 8, 9, 2] rfl
  have hD : va_D A (cl_X2_measure ad cs vS_rows vS_columns vS_camps vM_owners vP_marbleCells_8 vP_goalCells_9 vP_steps) := hD.sub [3, 0, 1, 4, 5, 6, 7, 8, 9, 2] (by decide) rfl
  refine lv_iconst (v := (0 : Int32)) hx hb dX2_measure_5 (by decide) ?_
  refine lv_istore_n (lv' := [(2, .int (0 : Int32)), (0, .ref (ad 12)), (1, .int x1)]) hx hb dX2_measure_6 rfl hl (by decide) rfl (fun ls hl => ?_)
  refine hL7 vP_marbleCells_8 vP_goalCells_9 _ vP_steps (0 : Int32) hw ?_ _ _ _ hP hD hS (lv_sub hl [1, 0] rfl)
  intro vP_steps_10 hw H locs ls hP hD hS hl
  exact hret _ _ _ _ _ _ _ hw hP hD hS dX2_measure_63
set_option maxHeartbeats 4000000 in
set_option maxRecDepth 100000 in
theorem c_X2_measure (l : Launch) (D : va_G) (ad : Nat → Nat) (cs : Nat → ClassId) (sz : Nat) (vS_rows vS_columns vS_camps vM_owners vP_marbleCells vP_goalCells vP_steps : Nat → Int32) (x1 : Int32) (Q : (Nat → Int32) → (Nat → Int32) → (Nat → Int32) → Prop) (hw : wp_X2_measure vS_rows vS_columns vS_camps vM_owners vP_marbleCells vP_goalCells vP_steps x1 Q) :
  Met l yX2_measure wsX2_measure rm_X2_measure (va_Pc [.ref (ad 12), .int x1] (PX D (cl_X2_measure ad cs vS_rows vS_columns vS_camps vM_owners vP_marbleCells vP_goalCells vP_steps) (ty_X2_measure cs) sz)) (va_Qv (fun (u : (Nat → Int32) × (Nat → Int32) × (Nat → Int32)) => Q u.1 u.2.1 u.2.2) (fun (u : (Nat → Int32) × (Nat → Int32) × (Nat → Int32)) t => va_P D vwCl (cl_X2_measure ad cs vS_rows vS_columns vS_camps vM_owners u.1 u.2.1 u.2.2) t.heap ∧ va_D (va_A (cl_X2_measure ad cs vS_rows vS_columns vS_camps vM_owners vP_marbleCells vP_goalCells vP_steps) sz) (cl_X2_measure ad cs vS_rows vS_columns vS_camps vM_owners u.1 u.2.1 u.2.2)) (va_A (cl_X2_measure ad cs vS_rows vS_columns vS_camps vM_owners vP_marbleCells vP_goalCells vP_steps) sz)) 0 0 (va_A (cl_X2_measure ad cs vS_rows vS_columns vS_camps vM_owners vP_marbleCells vP_goalCells vP_steps) sz) := by
  refine Met.ofW (cc := cX2_measure) (maxL := 4) (ret := none) (by decide) rfl ?_
  intro p e s m args below meth c s₁ B hml hv
  obtain ⟨rfl, hsz, hP, hK, hD0, hN⟩ := hv
  subst hsz
  have hl := lv_entry ([.ref (ad 12), .int x1]) (n := 4) (Nat.le_of_ble_eq_true rfl)
  rw [lg_entry_eq]
  have hx := B.exec
  have hb := B.bytes
  have hr := B.returns
  exact b_X2_measure l D ad cs vS_rows vS_columns vS_camps vM_owners vP_marbleCells vP_goalCells vP_steps x1 Q hx hb hml (findClass_of_methodNamed B.named) (atoms_spec (ws := wsX2_measure) B.pre) hN hP hK hD0.self (fun q h => Or.inr h) hl (fun o0 o1 o2 H locs pc ls hq hP hD hS hd => W.vret hx hb hr (fun t ht hW => ⟨⟨(o0, o1, o2), rfl, hq, by rw [ht]; exact hP, hD⟩, hS.F ht⟩) hS.2.2 hd) hw
abbrev rm_X2_leastWith : Room := { frames := 1, cells := 0, slots := 0, locals := 21 }
abbrev cl_X2_leastWith (ad : Nat → Nat) (cs : Nat → ClassId) (aA : Nat) (cA : ClassId) (vP_steps vA : Nat → Int32) : va_W := [((ad 12), .inr (2, [.ref (ad 1), .ref (ad 6), .ref (ad 13), .ref (ad 14), .ref (ad 15), .ref (ad 16), .ref (ad 17), .ref (ad 18)])), ((ad 15), .inl ((cs 15), 100, .inl vP_steps)), (aA, .inl (cA, 1024, .inl vA))]
abbrev ty_X2_leastWith (cs : Nat → ClassId) (cA : ClassId) : List (ClassId × FieldType) := [((cs 15), .int), (cA, .int)]
def wb_X2_leastWith_7 (vP_steps vA : Nat → Int32) (x2 x3 : Int32) (K7 : Int32 → Prop) (P7 : Int32 → Int32 → Prop) (x4 x5 : Int32) : Prop :=
 (((10 : Int32) ≤ x5 → K7 x4) ∧
 (¬ (10 : Int32) ≤ x5 → ((¬ ((x2 >>> (x5 &&& 31)) &&& (1 : Int32)) = (1 : Int32) → P7 x4 (x5 + (1 : Int32))) ∧
 (((x2 >>> (x5 &&& 31)) &&& (1 : Int32)) = (1 : Int32) → (vp_in (x2 - ((1 : Int32) <<< (x5 &&& 31))) 1024 ∧
 (vp_in ((x3 * (10 : Int32)) + x5) 100 ∧
 P7 (if ((vA (x2 - ((1 : Int32) <<< (x5 &&& 31))).toNatClampNeg) + (vP_steps ((x3 * (10 : Int32)) + x5).toNatClampNeg)) < x4 then ((vA (x2 - ((1 : Int32) <<< (x5 &&& 31))).toNatClampNeg) + (vP_steps ((x3 * (10 : Int32)) + x5).toNatClampNeg)) else x4) (x5 + (1 : Int32))))))))
def wl_X2_leastWith_7 (vP_steps vA : Nat → Int32) (x2 x3 : Int32) (K7 : Int32 → Prop) (x4 x5 : Int32) : Prop := ∀ P7 : Int32 → Int32 → Prop, (∀ (x4 x5 : Int32), wb_X2_leastWith_7 vP_steps vA x2 x3 K7 P7 x4 x5 → P7 x4 x5) → P7 x4 x5
def wp_X2_leastWith (vP_steps vA : Nat → Int32) (x2 x3 : Int32) (Q : Int32 → Prop) : Prop :=
 wl_X2_leastWith_7 vP_steps vA x2 x3 (fun x4_5 => Q x4_5) (1000000 : Int32) (0 : Int32)
set_option maxHeartbeats 4000000 in
set_option maxRecDepth 100000 in
theorem b_X2_leastWith {p : Program} {e : Env} {s : State} {m : MethodId} {args : Array Value} {below : List Frame} {meth : Method} {c : Code} {QQ : State → Prop} {A : Nat → Prop} {ls : Array Slot} (l : Launch) (D : va_G) (ad : Nat → Nat) (cs : Nat → ClassId) (aA : Nat) (cA : ClassId) (vP_steps vA : Nat → Int32) (x2 x3 : Int32) (Q : Int32 → Prop) (hx : p.tables.exec = Jvm.exec) (hb : c.code = cX2_leastWith) (hml : c.maxLocals = 7) (hown : s.vm.findClass RX2 = some m.cls) (hts : ∀ w ∈ wsX2_leastWith, w.before args s = true) (hN : NW s) (hP : va_P D vwCl (cl_X2_leastWith ad cs aA cA vP_steps vA) s.heap) (hK : va_K D vwCl (ty_X2_leastWith cs cA) s) (hD : va_D A (cl_X2_leastWith ad cs aA cA vP_steps vA)) (hA : ∀ q : Nat, s.heap.size ≤ q → A q) (hl : lv_has ls 7 [(0, .ref (ad 12)), (1, .ref aA), (2, .int x2), (3, .int x3)])
  (hret : ∀ (r : Int32) (pc : Nat) (ls : Array Slot), Q r → decode cX2_leastWith pc = .ok (.ireturn, 1) → W p l e rm_X2_leastWith s m args below meth c s.heap [] 0 0 QQ (F0 m pc ls [.int r]))
  (hw : wp_X2_leastWith vP_steps vA x2 x3 Q) :
  W p l e rm_X2_leastWith s m args below meth c s.heap [] 0 0 QQ (F0 m 0 ls []) := by
  have S0 : CallFix p m c cX2_leastWith 7 s args wsX2_leastWith RX2 := ⟨hx, hb, hml, hown, hts⟩
  have inX2 : ∀ w ∈ u_ws RX2 TX2 8, w ∈ wsX2_leastWith := by decide +kernel
  have fl_18 := hts (.fieldLink RX2 18 "HopperCourt$Pairing" "steps" "[I") (by decide +kernel)
  have hL7 : ∀ (x2 x3 : Int32) (K7 : Int32 → Prop) (x4 x5 : Int32), wl_X2_leastWith_7 vP_steps vA x2 x3 K7 x4 x5 → (∀ (x4 : Int32), K7 x4 → ∀ (ls : Array Slot), lv_has ls 7 [(4, .int x4)] → W p l e rm_X2_leastWith s m args below meth c s.heap [] 0 0 QQ (F0 m 62 ls [])) → ∀ (ls : Array Slot), lv_has ls 7 [(0, .ref (ad 12)), (1, .ref aA), (2, .int x2), (3, .int x3), (4, .int x4), (5, .int x5)] → W p l e rm_X2_leastWith s m args below meth c s.heap [] 0 0 QQ (F0 m 7 ls []) := by
    intro x2 x3 K7 x4 x5 hw hK7
    unfold wl_X2_leastWith_7 at hw
    refine hw (fun (x4 x5 : Int32) => ∀ (ls : Array Slot), lv_has ls 7 [(0, .ref (ad 12)), (1, .ref aA), (2, .int x2), (3, .int x3), (4, .int x4), (5, .int x5)] → W p l e rm_X2_leastWith s m args below meth c s.heap [] 0 0 QQ (F0 m 7 ls [])) ?_
    intro x4 x5 hw ls hl
    unfold wb_X2_leastWith_7 at hw
    refine lv_iload hx hb dX2_leastWith_7 (lv_at hl 5 rfl) ?_
    refine lv_bipush (v := (10 : Int32)) hx hb dX2_leastWith_9 (by decide) ?_
    refine lv_icmp_ge (tgt := 62) hx hb dX2_leastWith_11 (by decide) (fun c_1 => ?_) (fun c_1 => ?_)
    · have hw := hw.1 c_1
      exact hK7 x4 hw _ (lv_sub hl [4] rfl)
    · have hw := hw.2 c_1
      refine lv_iload_n hx hb dX2_leastWith_14 rfl (lv_at hl 2 rfl) ?_
      refine lv_iload hx hb dX2_leastWith_15 (lv_at hl 5 rfl) ?_
      refine lv_ishr hx hb dX2_leastWith_17 ?_
      refine lv_iconst (v := (1 : Int32)) hx hb dX2_leastWith_18 (by decide) ?_
      refine lv_iand hx hb dX2_leastWith_19 ?_
      refine lv_iconst (v := (1 : Int32)) hx hb dX2_leastWith_20 (by decide) ?_
      refine lv_icmp_ne (tgt := 56) hx hb dX2_leastWith_21 (by decide) (fun c_2 => ?_) (fun c_2 => ?_)
      · have hw := hw.1 c_2
        refine lv_iinc (v := (x5 + (1 : Int32))) (lv' := [(5, .int (x5 + (1 : Int32))), (0, .ref (ad 12)), (1, .ref aA), (2, .int x2), (3, .int x3), (4, .int x4)]) hx hb dX2_leastWith_56 hl (k := 5) rfl rfl (by decide) rfl (fun ls hl => ?_)
        refine lv_goto (tgt := 7) hx hb dX2_leastWith_59 (by decide) ?_
        exact hw _ (lv_sub hl [1, 2, 3, 4, 5, 0] rfl)
      · have hw := hw.2 c_2
        refine lv_aload_n hx hb dX2_leastWith_24 rfl (lv_at hl 1 rfl) ?_
        refine lv_iload_n hx hb dX2_leastWith_25 rfl (lv_at hl 2 rfl) ?_
        refine lv_iconst (v := (1 : Int32)) hx hb dX2_leastWith_26 (by decide) ?_
        refine lv_iload hx hb dX2_leastWith_27 (lv_at hl 5 rfl) ?_
        refine lv_ishl hx hb dX2_leastWith_29 ?_
        refine lv_isub hx hb dX2_leastWith_30 ?_
        obtain ⟨h_3, hw⟩ := hw
        refine va_iald hx hb hK hP 2 1 rfl rfl h_3 dX2_leastWith_31 ?_
        refine lv_istore (lv' := [(6, .int (vA (x2 - ((1 : Int32) <<< (x5 &&& 31))).toNatClampNeg)), (0, .ref (ad 12)), (1, .ref aA), (2, .int x2), (3, .int x3), (4, .int x4), (5, .int x5)]) hx hb dX2_leastWith_32 hl (by decide) rfl (fun ls hl => ?_)
        refine lv_iload hx hb dX2_leastWith_34 (lv_at hl 5 rfl) ?_
        refine lv_iload hx hb dX2_leastWith_36 (lv_at hl 0 rfl) ?_
        refine lv_aload_n hx hb dX2_leastWith_38 rfl (lv_at hl 1 rfl) ?_
        refine va_get (D := D) (ci := 2) (v := .ref (ad 15)) (C := RX2) (T := TX2) (N := 8) hx hb hts inX2 hown hK hP 0 rfl rfl 4 (by decide) fl_18 (fun _ h9 => h9) rfl dX2_leastWith_39 ?_
        refine lv_iload_n hx hb dX2_leastWith_42 rfl (lv_at hl 4 rfl) ?_
        refine lv_bipush (v := (10 : Int32)) hx hb dX2_leastWith_43 (by decide) ?_
        refine lv_imul hx hb dX2_leastWith_45 ?_
        refine lv_iload hx hb dX2_leastWith_46 (lv_at hl 6 rfl) ?_
        refine lv_iadd hx hb dX2_leastWith_48 ?_
        obtain ⟨h_4, hw⟩ := hw
        refine va_iald hx hb hK hP 1 0 rfl rfl h_4 dX2_leastWith_49 ?_
        refine lv_iadd hx hb dX2_leastWith_50 ?_
        refine va_mmin hx hb (hml.trans hl.1.symm) hown (hts (.methodLink RX2 55 Lib.Math.min.name) (by decide +kernel)) (hts (.static Lib.Math.min.name) (by decide +kernel)) (hts (.initialized "java/lang/Math") (by decide +kernel)) (hts (.code Lib.Math.min.name Lib.Math.min.code 2 (some .int)) (by decide +kernel)) (Nat.le_of_ble_eq_true rfl) (Nat.le_of_ble_eq_true rfl) (Nat.le_of_ble_eq_true rfl) (Nat.le_of_ble_eq_true rfl) dX2_leastWith_51 ?_
        refine lv_istore (lv' := [(4, .int (if ((vA (x2 - ((1 : Int32) <<< (x5 &&& 31))).toNatClampNeg) + (vP_steps ((x3 * (10 : Int32)) + x5).toNatClampNeg)) < x4 then ((vA (x2 - ((1 : Int32) <<< (x5 &&& 31))).toNatClampNeg) + (vP_steps ((x3 * (10 : Int32)) + x5).toNatClampNeg)) else x4)), (6, .int (vA (x2 - ((1 : Int32) <<< (x5 &&& 31))).toNatClampNeg)), (0, .ref (ad 12)), (1, .ref aA), (2, .int x2), (3, .int x3), (5, .int x5)]) hx hb dX2_leastWith_54 hl (by decide) rfl (fun ls hl => ?_)
        refine lv_iinc (v := (x5 + (1 : Int32))) (lv' := [(5, .int (x5 + (1 : Int32))), (4, .int (if ((vA (x2 - ((1 : Int32) <<< (x5 &&& 31))).toNatClampNeg) + (vP_steps ((x3 * (10 : Int32)) + x5).toNatClampNeg)) < x4 then ((vA (x2 - ((1 : Int32) <<< (x5 &&& 31))).toNatClampNeg) + (vP_steps ((x3 * (10 : Int32)) + x5).toNatClampNeg)) else x4)), (6, .int (vA (x2 - ((1 : Int32) <<< (x5 &&& 31))).toNatClampNeg)), (0, .ref (ad 12)), (1, .ref aA), (2, .int x2), (3, .int x3)]) hx hb dX2_leastWith_56 hl (k := 6) rfl rfl (by decide) rfl (fun ls hl => ?_)
        refine lv_goto (tgt := 7) hx hb dX2_leastWith_59 (by decide) ?_
        exact hw _ (lv_sub hl [3, 4, 5, 6, 1, 0] rfl)
  unfold wp_X2_leastWith at hw
  refine lv_ldc hx hb hown (hts (.constant RX2 48 (1000000)) (by decide +kernel)) dX2_leastWith_0 ?_
  refine lv_istore (lv' := [(4, .int (1000000 : Int32)), (0, .ref (ad 12)), (1, .ref aA), (2, .int x2), (3, .int x3)]) hx hb dX2_leastWith_2 hl (by decide) rfl (fun ls hl => ?_)
  refine lv_iconst (v := (0 : Int32)) hx hb dX2_leastWith_4 (by decide) ?_
  refine lv_istore (lv' := [(5, .int (0 : Int32)), (4, .int (1000000 : Int32)), (0, .ref (ad 12)), (1, .ref aA), (2, .int x2), (3, .int x3)]) hx hb dX2_leastWith_5 hl (by decide) rfl (fun ls hl => ?_)
  refine hL7 x2 x3 _ (1000000 : Int32) (0 : Int32) hw ?_ _ (lv_sub hl [2, 3, 4, 5, 1, 0] rfl)
  intro x4_5 hw ls hl
  refine lv_iload hx hb dX2_leastWith_62 (lv_at hl 0 rfl) ?_
  exact hret _ _ _ hw dX2_leastWith_64
set_option maxHeartbeats 4000000 in
set_option maxRecDepth 100000 in
theorem c_X2_leastWith (l : Launch) (D : va_G) (ad : Nat → Nat) (cs : Nat → ClassId) (aA : Nat) (cA : ClassId) (sz : Nat) (vP_steps vA : Nat → Int32) (x2 x3 : Int32) (Q : Int32 → Prop) (hw : wp_X2_leastWith vP_steps vA x2 x3 Q) :
  Met l yX2_leastWith wsX2_leastWith rm_X2_leastWith (va_Pc [.ref (ad 12), .ref aA, .int x2, .int x3] (PX D (cl_X2_leastWith ad cs aA cA vP_steps vA) (ty_X2_leastWith cs cA) sz)) (vp_Si Q) 0 0 (fun _ => False) := by
  refine Met.ofW (cc := cX2_leastWith) (maxL := 7) (ret := (some .int)) (by decide) rfl ?_
  intro p e s m args below meth c s₁ B hml hv
  obtain ⟨rfl, hsz, hP, hK, hD0, hN⟩ := hv
  subst hsz
  have hl := lv_entry ([.ref (ad 12), .ref aA, .int x2, .int x3]) (n := 7) (Nat.le_of_ble_eq_true rfl)
  rw [lg_entry_eq]
  have hx := B.exec
  have hb := B.bytes
  have hr := B.returns
  exact b_X2_leastWith l D ad cs aA cA vP_steps vA x2 x3 Q hx hb hml (findClass_of_methodNamed B.named) (atoms_spec (ws := wsX2_leastWith) B.pre) hN hP hK hD0.self (fun q h => Or.inr h) hl (A := va_A (cl_X2_leastWith ad cs aA cA vP_steps vA) s.heap.size) (fun r pc ls hq hd => W.iret (v := r) hx hb hr (fun t ht hW => ⟨r, rfl, hq, ht⟩) (fun _ h => nomatch h) hd) hw
abbrev rm_X2_sumFirst : Room := { frames := 2, cells := 0, slots := 0, locals := 47 }
abbrev cl_X2_sumFirst (ad : Nat → Nat) (cs : Nat → ClassId) (vP_steps vP_firstSums : Nat → Int32) : va_W := [((ad 12), .inr (2, [.ref (ad 1), .ref (ad 6), .ref (ad 13), .ref (ad 14), .ref (ad 15), .ref (ad 16), .ref (ad 17), .ref (ad 18)])), ((ad 15), .inl ((cs 15), 100, .inl vP_steps)), ((ad 16), .inl ((cs 16), 1024, .inl vP_firstSums))]
abbrev ty_X2_sumFirst (cs : Nat → ClassId) : List (ClassId × FieldType) := [((cs 15), .int), ((cs 16), .int)]
def wb_X2_sumFirst_9 (vP_steps : Nat → Int32) (K9 : (Nat → Int32) → Prop) (P9 : (Nat → Int32) → Int32 → Prop) (vP_firstSums : Nat → Int32) (x1 : Int32) : Prop :=
 (((1024 : Int32) ≤ x1 → K9 vP_firstSums) ∧
 (¬ (1024 : Int32) ≤ x1 → wp_J6_bitCount_0f7a4 x1 (fun r_2 =>
 wp_X2_leastWith vP_steps vP_firstSums x1 (r_2 - (1 : Int32)) (fun r_3 =>
 (vp_in x1 1024 ∧
 P9 (upd vP_firstSums x1.toNatClampNeg r_3) (x1 + (1 : Int32)))))))
def wl_X2_sumFirst_9 (vP_steps : Nat → Int32) (K9 : (Nat → Int32) → Prop) (vP_firstSums : Nat → Int32) (x1 : Int32) : Prop := ∀ P9 : (Nat → Int32) → Int32 → Prop, (∀ (vP_firstSums : Nat → Int32) (x1 : Int32), wb_X2_sumFirst_9 vP_steps K9 P9 vP_firstSums x1 → P9 vP_firstSums x1) → P9 vP_firstSums x1
def wp_X2_sumFirst (vP_steps vP_firstSums : Nat → Int32) (Q : (Nat → Int32) → Prop) : Prop :=
 (vp_in (0 : Int32) 1024 ∧
 wl_X2_sumFirst_9 vP_steps (fun vP_firstSums_6 => Q vP_firstSums_6) (upd vP_firstSums (0 : Int32).toNatClampNeg (0 : Int32)) (1 : Int32))
set_option maxHeartbeats 4000000 in
set_option maxRecDepth 100000 in
theorem b_X2_sumFirst {p : Program} {e : Env} {s : State} {m : MethodId} {args : Array Value} {below : List Frame} {meth : Method} {c : Code} {QQ : State → Prop} {A : Nat → Prop} {ls : Array Slot} (l : Launch) (D : va_G) (ad : Nat → Nat) (cs : Nat → ClassId) (vP_steps vP_firstSums : Nat → Int32) (Q : (Nat → Int32) → Prop) (hx : p.tables.exec = Jvm.exec) (hb : c.code = cX2_sumFirst) (hml : c.maxLocals = 2) (hown : s.vm.findClass RX2 = some m.cls) (hts : ∀ w ∈ wsX2_sumFirst, w.before args s = true) (hN : NW s) (hP : va_P D vwCl (cl_X2_sumFirst ad cs vP_steps vP_firstSums) s.heap) (hK : va_K D vwCl (ty_X2_sumFirst cs) s) (hD : va_D A (cl_X2_sumFirst ad cs vP_steps vP_firstSums)) (hA : ∀ q : Nat, s.heap.size ≤ q → A q) (hl : lv_has ls 2 [(0, .ref (ad 12))])
  (hret : ∀ (o0 : Nat → Int32) (H : Heap) (locs : List Loc) (pc : Nat) (ls : Array Slot), Q o0 → va_P D vwCl (cl_X2_sumFirst ad cs vP_steps o0) H → va_D A (cl_X2_sumFirst ad cs vP_steps o0) → va_S A s.heap H locs → decode cX2_sumFirst pc = .ok (.return_, 1) → W p l e rm_X2_sumFirst s m args below meth c H locs 0 0 QQ (F0 m pc ls []))
  (hw : wp_X2_sumFirst vP_steps vP_firstSums Q) :
  W p l e rm_X2_sumFirst s m args below meth c s.heap [] 0 0 QQ (F0 m 0 ls []) := by
  have S0 : CallFix p m c cX2_sumFirst 2 s args wsX2_sumFirst RX2 := ⟨hx, hb, hml, hown, hts⟩
  have inX2 : ∀ w ∈ u_ws RX2 TX2 8, w ∈ wsX2_sumFirst := by decide +kernel
  have fl_21 := hts (.fieldLink RX2 21 "HopperCourt$Pairing" "firstSums" "[I") (by decide +kernel)
  have hL9 : ∀ (K9 : (Nat → Int32) → Prop) (vP_firstSums : Nat → Int32) (x1 : Int32), wl_X2_sumFirst_9 vP_steps K9 vP_firstSums x1 → (∀ (vP_firstSums : Nat → Int32), K9 vP_firstSums → ∀ (H : Heap) (locs : List Loc) (ls : Array Slot), va_P D vwCl (cl_X2_sumFirst ad cs vP_steps vP_firstSums) H → va_D A (cl_X2_sumFirst ad cs vP_steps vP_firstSums) → va_S A s.heap H locs → lv_has ls 2 [] → W p l e rm_X2_sumFirst s m args below meth c H locs 0 0 QQ (F0 m 43 ls [])) → ∀ (H : Heap) (locs : List Loc) (ls : Array Slot), va_P D vwCl (cl_X2_sumFirst ad cs vP_steps vP_firstSums) H → va_D A (cl_X2_sumFirst ad cs vP_steps vP_firstSums) → va_S A s.heap H locs → lv_has ls 2 [(0, .ref (ad 12)), (1, .int x1)] → W p l e rm_X2_sumFirst s m args below meth c H locs 0 0 QQ (F0 m 9 ls []) := by
    intro K9 vP_firstSums x1 hw hK9
    unfold wl_X2_sumFirst_9 at hw
    refine hw (fun (vP_firstSums : Nat → Int32) (x1 : Int32) => ∀ (H : Heap) (locs : List Loc) (ls : Array Slot), va_P D vwCl (cl_X2_sumFirst ad cs vP_steps vP_firstSums) H → va_D A (cl_X2_sumFirst ad cs vP_steps vP_firstSums) → va_S A s.heap H locs → lv_has ls 2 [(0, .ref (ad 12)), (1, .int x1)] → W p l e rm_X2_sumFirst s m args below meth c H locs 0 0 QQ (F0 m 9 ls [])) ?_
    intro vP_firstSums x1 hw H locs ls hP hD hS hl
    unfold wb_X2_sumFirst_9 at hw
    refine lv_iload_n hx hb dX2_sumFirst_9 rfl (lv_at hl 1 rfl) ?_
    refine lv_sipush (v := (1024 : Int32)) hx hb dX2_sumFirst_10 (by decide) ?_
    refine lv_icmp_ge (tgt := 43) hx hb dX2_sumFirst_13 (by decide) (fun c_1 => ?_) (fun c_1 => ?_)
    · have hw := hw.1 c_1
      exact hK9 vP_firstSums hw _ _ _ hP hD hS (lv_sub hl [] rfl)
    · have hw := hw.2 c_1
      refine lv_aload_n hx hb dX2_sumFirst_16 rfl (lv_at hl 0 rfl) ?_
      refine va_get (D := D) (ci := 2) (v := .ref (ad 16)) (C := RX2) (T := TX2) (N := 8) hx hb hts inX2 hown hK hP 0 rfl rfl 5 (by decide) fl_21 (fun _ h9 => h9) rfl dX2_sumFirst_17 ?_
      refine lv_iload_n hx hb dX2_sumFirst_20 rfl (lv_at hl 1 rfl) ?_
      refine lv_aload_n hx hb dX2_sumFirst_21 rfl (lv_at hl 0 rfl) ?_
      refine lv_aload_n hx hb dX2_sumFirst_22 rfl (lv_at hl 0 rfl) ?_
      refine va_get (D := D) (ci := 2) (v := .ref (ad 16)) (C := RX2) (T := TX2) (N := 8) hx hb hts inX2 hown hK hP 0 rfl rfl 5 (by decide) fl_21 (fun _ h9 => h9) rfl dX2_sumFirst_23 ?_
      refine lv_iload_n hx hb dX2_sumFirst_26 rfl (lv_at hl 1 rfl) ?_
      refine lv_iload_n hx hb dX2_sumFirst_27 rfl (lv_at hl 1 rfl) ?_
      refine pcS (rest := [.int x1, .ref (ad 16), .ref (ad 12), .int x1, .ref (ad 16)]) S0 (c_J6_bitCount_0f7a4 l D ad cs H.size x1 _ hw) (va_cwS 1 hts gX2_sumFirst_J6_bitCount_0f7a4 rfl rfl rfl (by decide +kernel) ⟨Nat.le_of_ble_eq_true rfl, Nat.le_of_ble_eq_true rfl⟩) hN hK hP hD [] [] rfl rfl rfl rfl rfl hl.1 (Nat.le_of_ble_eq_true rfl) ⟨Nat.le_of_ble_eq_true rfl, Nat.le_of_ble_eq_true rfl⟩ dX2_sumFirst_28 (fun r_2 hw => ?_)
      refine lv_iconst (v := (1 : Int32)) hx hb dX2_sumFirst_31 (by decide) ?_
      refine lv_isub hx hb dX2_sumFirst_32 ?_
      refine pcV (rest := [.int x1, .ref (ad 16)]) (ci := 2) S0 (c_X2_leastWith l D ad cs (ad 16) (cs 16) H.size vP_steps vP_firstSums x1 (r_2 - (1 : Int32)) _ hw) (cwV 3 hts gX2_sumFirst_X2_leastWith rfl rfl rfl (by decide +kernel) ⟨Nat.le_of_ble_eq_true rfl, Nat.le_of_ble_eq_true rfl⟩) hN hK hP hD [0, 1, 2] [0, 1] rfl rfl rfl 0 rfl rfl rfl rfl hl.1 (Nat.le_of_ble_eq_true rfl) ⟨Nat.le_of_ble_eq_true rfl, Nat.le_of_ble_eq_true rfl⟩ dX2_sumFirst_33 (fun r_3 hw => ?_)
      obtain ⟨h_4, hw⟩ := hw
      refine va_iast hx hb hK hP hD hS 2 1 rfl rfl h_4 dX2_sumFirst_36 (fun H locs hP hD hS => ?_)
      have hP : va_P D vwCl (cl_X2_sumFirst ad cs vP_steps (upd vP_firstSums x1.toNatClampNeg r_3)) H := hP
      have hD : va_D A (cl_X2_sumFirst ad cs vP_steps (upd vP_firstSums x1.toNatClampNeg r_3)) := hD
      refine lv_iinc (v := (x1 + (1 : Int32))) (lv' := [(1, .int (x1 + (1 : Int32))), (0, .ref (ad 12))]) hx hb dX2_sumFirst_37 hl (k := 1) rfl rfl (by decide) rfl (fun ls hl => ?_)
      refine lv_goto (tgt := 9) hx hb dX2_sumFirst_40 (by decide) ?_
      exact hw _ _ _ hP hD hS (lv_sub hl [1, 0] rfl)
  obtain ⟨H, hH⟩ : ∃ H : Heap, H = s.heap := ⟨_, rfl⟩
  have hS : va_S A s.heap H [] := by rw [hH]; exact va_S.rf
  rw [← hH] at hP ⊢
  unfold wp_X2_sumFirst at hw
  refine lv_aload_n hx hb dX2_sumFirst_0 rfl (lv_at hl 0 rfl) ?_
  refine va_get (D := D) (ci := 2) (v := .ref (ad 16)) (C := RX2) (T := TX2) (N := 8) hx hb hts inX2 hown hK hP 0 rfl rfl 5 (by decide) fl_21 (fun _ h9 => h9) rfl dX2_sumFirst_1 ?_
  refine lv_iconst (v := (0 : Int32)) hx hb dX2_sumFirst_4 (by decide) ?_
  refine lv_iconst (v := (0 : Int32)) hx hb dX2_sumFirst_5 (by decide) ?_
  obtain ⟨h_5, hw⟩ := hw
  refine va_iast hx hb hK hP hD hS 2 1 rfl rfl h_5 dX2_sumFirst_6 (fun H locs hP hD hS => ?_)
  have hP : va_P D vwCl (cl_X2_sumFirst ad cs vP_steps (upd vP_firstSums (0 : Int32).toNatClampNeg (0 : Int32))) H := hP
  have hD : va_D A (cl_X2_sumFirst ad cs vP_steps (upd vP_firstSums (0 : Int32).toNatClampNeg (0 : Int32))) := hD
  refine lv_iconst (v := (1 : Int32)) hx hb dX2_sumFirst_7 (by decide) ?_
  refine lv_istore_n (lv' := [(1, .int (1 : Int32)), (0, .ref (ad 12))]) hx hb dX2_sumFirst_8 rfl hl (by decide) rfl (fun ls hl => ?_)
  refine hL9 _ (upd vP_firstSums (0 : Int32).toNatClampNeg (0 : Int32)) (1 : Int32) hw ?_ _ _ _ hP hD hS (lv_sub hl [1, 0] rfl)
  intro vP_firstSums_6 hw H locs ls hP hD hS hl
  exact hret _ _ _ _ _ hw hP hD hS dX2_sumFirst_43
set_option maxHeartbeats 4000000 in
set_option maxRecDepth 100000 in
theorem c_X2_sumFirst (l : Launch) (D : va_G) (ad : Nat → Nat) (cs : Nat → ClassId) (sz : Nat) (vP_steps vP_firstSums : Nat → Int32) (Q : (Nat → Int32) → Prop) (hw : wp_X2_sumFirst vP_steps vP_firstSums Q) :
  Met l yX2_sumFirst wsX2_sumFirst rm_X2_sumFirst (va_Pc [.ref (ad 12)] (PX D (cl_X2_sumFirst ad cs vP_steps vP_firstSums) (ty_X2_sumFirst cs) sz)) (va_Qv (fun (u : (Nat → Int32)) => Q u) (fun (u : (Nat → Int32)) t => va_P D vwCl (cl_X2_sumFirst ad cs vP_steps u) t.heap ∧ va_D (va_A (cl_X2_sumFirst ad cs vP_steps vP_firstSums) sz) (cl_X2_sumFirst ad cs vP_steps u)) (va_A (cl_X2_sumFirst ad cs vP_steps vP_firstSums) sz)) 0 0 (va_A (cl_X2_sumFirst ad cs vP_steps vP_firstSums) sz) := by
  refine Met.ofW (cc := cX2_sumFirst) (maxL := 2) (ret := none) (by decide) rfl ?_
  intro p e s m args below meth c s₁ B hml hv
  obtain ⟨rfl, hsz, hP, hK, hD0, hN⟩ := hv
  subst hsz
  have hl := lv_entry ([.ref (ad 12)]) (n := 2) (Nat.le_of_ble_eq_true rfl)
  rw [lg_entry_eq]
  have hx := B.exec
  have hb := B.bytes
  have hr := B.returns
  exact b_X2_sumFirst l D ad cs vP_steps vP_firstSums Q hx hb hml (findClass_of_methodNamed B.named) (atoms_spec (ws := wsX2_sumFirst) B.pre) hN hP hK hD0.self (fun q h => Or.inr h) hl (fun o0 H locs pc ls hq hP hD hS hd => W.vret hx hb hr (fun t ht hW => ⟨⟨o0, rfl, hq, by rw [ht]; exact hP, hD⟩, hS.F ht⟩) hS.2.2 hd) hw
abbrev rm_X2_leastSum : Room := { frames := 4, cells := 0, slots := 0, locals := 89 }
abbrev cl_X2_leastSum (ad : Nat → Nat) (cs : Nat → ClassId) (vS_rows vS_columns vS_camps vM_owners vP_marbleCells vP_goalCells vP_steps vP_firstSums : Nat → Int32) : va_W := [((ad 1), .inr (5, [.ref (ad 2), .ref (ad 3), .ref (ad 4), .ref (ad 5)])), ((ad 2), .inl ((cs 2), 121, .inl vS_rows)), ((ad 3), .inl ((cs 3), 121, .inl vS_columns)), ((ad 4), .inl ((cs 4), 121, .inl vS_camps)), ((ad 6), .inr (1, [.ref (ad 1), .ref (ad 7)])), ((ad 7), .inl ((cs 7), 121, .inl vM_owners)), ((ad 12), .inr (2, [.ref (ad 1), .ref (ad 6), .ref (ad 13), .ref (ad 14), .ref (ad 15), .ref (ad 16), .ref (ad 17), .ref (ad 18)])), ((ad 13), .inl ((cs 13), 10, .inl vP_marbleCells)), ((ad 14), .inl ((cs 14), 10, .inl vP_goalCells)), ((ad 15), .inl ((cs 15), 100, .inl vP_steps)), ((ad 16), .inl ((cs 16), 1024, .inl vP_firstSums))]
abbrev ty_X2_leastSum (cs : Nat → ClassId) : List (ClassId × FieldType) := [((cs 2), .int), ((cs 3), .int), ((cs 4), .int), ((cs 7), .int), ((cs 13), .int), ((cs 14), .int), ((cs 15), .int), ((cs 16), .int)]
def wp_X2_leastSum (vS_rows vS_columns vS_camps vM_owners vP_marbleCells vP_goalCells vP_steps vP_firstSums : Nat → Int32) (x1 : Int32) (Q : Int32 → (Nat → Int32) → (Nat → Int32) → (Nat → Int32) → (Nat → Int32) → Prop) : Prop :=
 wp_X2_measure vS_rows vS_columns vS_camps vM_owners vP_marbleCells vP_goalCells vP_steps x1 (fun vP_marbleCells_1 vP_goalCells_2 vP_steps_3 =>
 wp_X2_sumFirst vP_steps_3 vP_firstSums (fun vP_firstSums_4 =>
 (vp_in (1023 : Int32) 1024 ∧
 Q (vP_firstSums_4 (1023 : Int32).toNatClampNeg) vP_marbleCells_1 vP_goalCells_2 vP_steps_3 vP_firstSums_4)))
set_option maxHeartbeats 4000000 in
set_option maxRecDepth 100000 in
theorem b_X2_leastSum {p : Program} {e : Env} {s : State} {m : MethodId} {args : Array Value} {below : List Frame} {meth : Method} {c : Code} {QQ : State → Prop} {A : Nat → Prop} {ls : Array Slot} (l : Launch) (D : va_G) (ad : Nat → Nat) (cs : Nat → ClassId) (vS_rows vS_columns vS_camps vM_owners vP_marbleCells vP_goalCells vP_steps vP_firstSums : Nat → Int32) (x1 : Int32) (Q : Int32 → (Nat → Int32) → (Nat → Int32) → (Nat → Int32) → (Nat → Int32) → Prop) (hx : p.tables.exec = Jvm.exec) (hb : c.code = cX2_leastSum) (hml : c.maxLocals = 2) (hown : s.vm.findClass RX2 = some m.cls) (hts : ∀ w ∈ wsX2_leastSum, w.before args s = true) (hN : NW s) (hP : va_P D vwCl (cl_X2_leastSum ad cs vS_rows vS_columns vS_camps vM_owners vP_marbleCells vP_goalCells vP_steps vP_firstSums) s.heap) (hK : va_K D vwCl (ty_X2_leastSum cs) s) (hD : va_D A (cl_X2_leastSum ad cs vS_rows vS_columns vS_camps vM_owners vP_marbleCells vP_goalCells vP_steps vP_firstSums)) (hA : ∀ q : Nat, s.heap.size ≤ q → A q) (hl : lv_has ls 2 [(0, .ref (ad 12)), (1, .int x1)])
  (hret : ∀ (r : Int32) (o0 : Nat → Int32) (o1 : Nat → Int32) (o2 : Nat → Int32) (o3 : Nat → Int32) (H : Heap) (locs : List Loc) (pc : Nat) (ls : Array Slot), Q r o0 o1 o2 o3 → va_P D vwCl (cl_X2_leastSum ad cs vS_rows vS_columns vS_camps vM_owners o0 o1 o2 o3) H → va_D A (cl_X2_leastSum ad cs vS_rows vS_columns vS_camps vM_owners o0 o1 o2 o3) → va_S A s.heap H locs → decode cX2_leastSum pc = .ok (.ireturn, 1) → W p l e rm_X2_leastSum s m args below meth c H locs 0 0 QQ (F0 m pc ls [.int r]))
  (hw : wp_X2_leastSum vS_rows vS_columns vS_camps vM_owners vP_marbleCells vP_goalCells vP_steps vP_firstSums x1 Q) :
  W p l e rm_X2_leastSum s m args below meth c s.heap [] 0 0 QQ (F0 m 0 ls []) := by
  have S0 : CallFix p m c cX2_leastSum 2 s args wsX2_leastSum RX2 := ⟨hx, hb, hml, hown, hts⟩
  have inX2 : ∀ w ∈ u_ws RX2 TX2 8, w ∈ wsX2_leastSum := by decide +kernel
  have fl_21 := hts (.fieldLink RX2 21 "HopperCourt$Pairing" "firstSums" "[I") (by decide +kernel)
  obtain ⟨H, hH⟩ : ∃ H : Heap, H = s.heap := ⟨_, rfl⟩
  have hS : va_S A s.heap H [] := by rw [hH]; exact va_S.rf
  rw [← hH] at hP ⊢
  unfold wp_X2_leastSum at hw
  refine lv_aload_n hx hb dX2_leastSum_0 rfl (lv_at hl 0 rfl) ?_
  refine lv_iload_n hx hb dX2_leastSum_1 rfl (lv_at hl 1 rfl) ?_
  refine pcVv (rest := []) (wr := [((ad 16), .inl ((cs 16), 1024, .inl vP_firstSums))]) (ci := 2) S0 (c_X2_measure l D ad cs H.size vS_rows vS_columns vS_camps vM_owners vP_marbleCells vP_goalCells vP_steps x1 _ hw) (cwV 1 hts gX2_leastSum_X2_measure rfl rfl rfl (by decide +kernel) ⟨Nat.le_of_ble_eq_true rfl, Nat.le_of_ble_eq_true rfl⟩) hN hK hP hD hS hA [0, 1, 2, 3, 4, 5, 6, 7, 8, 9] [10] [0, 1, 2, 3, 4, 5, 6] ⟨rfl, rfl, rfl, rfl, rfl, by decide⟩ 6 rfl rfl rfl rfl hl.1 (Nat.le_of_ble_eq_true rfl) ⟨Nat.le_of_ble_eq_true rfl, Nat.le_of_ble_eq_true rfl⟩ dX2_leastSum_2 (fun u H locs hw hP hD hS => ?_)
  obtain ⟨vP_marbleCells_1, vP_goalCells_2, vP_steps_3⟩ := u
  dsimp only at hw
  have hP : va_P D vwCl (cl_X2_leastSum ad cs vS_rows vS_columns vS_camps vM_owners vP_marbleCells_1 vP_goalCells_2 vP_steps_3 vP_firstSums) H := hP.sub [1, 2, 3, 4, 5, 6, 7, 8, 9, 10, 0] rfl
  have hD : va_D A (cl_X2_leastSum ad cs vS_rows vS_columns vS_camps vM_owners vP_marbleCells_1 vP_goalCells_2 vP_steps_3 vP_firstSums) := hD.sub [1, 2, 3, 4, 5, 6, 7, 8, 9, 10, 0] (by decide) rfl
  refine lv_aload_n hx hb dX2_leastSum_5 rfl (lv_at hl 0 rfl) ?_
  refine pcVv (rest := []) (wr := [((ad 1), .inr (5, [.ref (ad 2), .ref (ad 3), .ref (ad 4), .ref (ad 5)])), ((ad 2), .inl ((cs 2), 121, .inl vS_rows)), ((ad 3), .inl ((cs 3), 121, .inl vS_columns)), ((ad 4), .inl ((cs 4), 121, .inl vS_camps)), ((ad 6), .inr (1, [.ref (ad 1), .ref (ad 7)])), ((ad 7), .inl ((cs 7), 121, .inl vM_owners)), ((ad 13), .inl ((cs 13), 10, .inl vP_marbleCells_1)), ((ad 14), .inl ((cs 14), 10, .inl vP_goalCells_2))]) (ci := 2) S0 (c_X2_sumFirst l D ad cs H.size vP_steps_3 vP_firstSums _ hw) (cwV 0 hts gX2_leastSum_X2_sumFirst rfl rfl rfl (by decide +kernel) ⟨Nat.le_of_ble_eq_true rfl, Nat.le_of_ble_eq_true rfl⟩) hN hK hP hD hS hA [6, 9, 10] [0, 1, 2, 3, 4, 5, 7, 8] [6, 7] ⟨rfl, rfl, rfl, rfl, rfl, by decide⟩ 6 rfl rfl rfl rfl hl.1 (Nat.le_of_ble_eq_true rfl) ⟨Nat.le_of_ble_eq_true rfl, Nat.le_of_ble_eq_true rfl⟩ dX2_leastSum_6 (fun u H locs hw hP hD hS => ?_)
  obtain ⟨vP_firstSums_4, rfl⟩ : ∃ z, z = u := ⟨_, rfl⟩
  have hP : va_P D vwCl (cl_X2_leastSum ad cs vS_rows vS_columns vS_camps vM_owners vP_marbleCells_1 vP_goalCells_2 vP_steps_3 vP_firstSums_4) H := hP.sub [0, 1, 2, 3, 4, 5, 8, 6, 7, 9, 10] rfl
  have hD : va_D A (cl_X2_leastSum ad cs vS_rows vS_columns vS_camps vM_owners vP_marbleCells_1 vP_goalCells_2 vP_steps_3 vP_firstSums_4) := hD.sub [0, 1, 2, 3, 4, 5, 8, 6, 7, 9, 10] (by decide) rfl
  refine lv_aload_n hx hb dX2_leastSum_9 rfl (lv_at hl 0 rfl) ?_
  refine va_get (D := D) (ci := 2) (v := .ref (ad 16)) (C := RX2) (T := TX2) (N := 8) hx hb hts inX2 hown hK hP 6 rfl rfl 5 (by decide) fl_21 (fun _ h9 => h9) rfl dX2_leastSum_10 ?_
  refine lv_sipush (v := (1023 : Int32)) hx hb dX2_leastSum_13 (by decide) ?_
  obtain ⟨h_5, hw⟩ := hw
  refine va_iald hx hb hK hP 10 7 rfl rfl h_5 dX2_leastSum_16 ?_
  exact hret _ _ _ _ _ _ _ _ _ hw hP hD hS dX2_leastSum_17
set_option maxHeartbeats 4000000 in
set_option maxRecDepth 100000 in
theorem c_X2_leastSum (l : Launch) (D : va_G) (ad : Nat → Nat) (cs : Nat → ClassId) (sz : Nat) (vS_rows vS_columns vS_camps vM_owners vP_marbleCells vP_goalCells vP_steps vP_firstSums : Nat → Int32) (x1 : Int32) (Q : Int32 → (Nat → Int32) → (Nat → Int32) → (Nat → Int32) → (Nat → Int32) → Prop) (hw : wp_X2_leastSum vS_rows vS_columns vS_camps vM_owners vP_marbleCells vP_goalCells vP_steps vP_firstSums x1 Q) :
  Met l yX2_leastSum wsX2_leastSum rm_X2_leastSum (va_Pc [.ref (ad 12), .int x1] (PX D (cl_X2_leastSum ad cs vS_rows vS_columns vS_camps vM_owners vP_marbleCells vP_goalCells vP_steps vP_firstSums) (ty_X2_leastSum cs) sz)) (va_Qi (fun (r : Int32) (u : (Nat → Int32) × (Nat → Int32) × (Nat → Int32) × (Nat → Int32)) => Q r u.1 u.2.1 u.2.2.1 u.2.2.2) (fun (u : (Nat → Int32) × (Nat → Int32) × (Nat → Int32) × (Nat → Int32)) t => va_P D vwCl (cl_X2_leastSum ad cs vS_rows vS_columns vS_camps vM_owners u.1 u.2.1 u.2.2.1 u.2.2.2) t.heap ∧ va_D (va_A (cl_X2_leastSum ad cs vS_rows vS_columns vS_camps vM_owners vP_marbleCells vP_goalCells vP_steps vP_firstSums) sz) (cl_X2_leastSum ad cs vS_rows vS_columns vS_camps vM_owners u.1 u.2.1 u.2.2.1 u.2.2.2)) (va_A (cl_X2_leastSum ad cs vS_rows vS_columns vS_camps vM_owners vP_marbleCells vP_goalCells vP_steps vP_firstSums) sz)) 0 0 (va_A (cl_X2_leastSum ad cs vS_rows vS_columns vS_camps vM_owners vP_marbleCells vP_goalCells vP_steps vP_firstSums) sz) := by
  refine Met.ofW (cc := cX2_leastSum) (maxL := 2) (ret := (some .int)) (by decide) rfl ?_
  intro p e s m args below meth c s₁ B hml hv
  obtain ⟨rfl, hsz, hP, hK, hD0, hN⟩ := hv
  subst hsz
  have hl := lv_entry ([.ref (ad 12), .int x1]) (n := 2) (Nat.le_of_ble_eq_true rfl)
  rw [lg_entry_eq]
  have hx := B.exec
  have hb := B.bytes
  have hr := B.returns
  exact b_X2_leastSum l D ad cs vS_rows vS_columns vS_camps vM_owners vP_marbleCells vP_goalCells vP_steps vP_firstSums x1 Q hx hb hml (findClass_of_methodNamed B.named) (atoms_spec (ws := wsX2_leastSum) B.pre) hN hP hK hD0.self (fun q h => Or.inr h) hl (fun r o0 o1 o2 o3 H locs pc ls hq hP hD hS hd => W.iret (v := r) hx hb hr (fun t ht hW => ⟨⟨r, (o0, o1, o2, o3), rfl, hq, by rw [ht]; exact hP, hD⟩, hS.F ht⟩) hS.2.2 hd) hw
abbrev rm_X2_sumLast : Room := { frames := 2, cells := 0, slots := 0, locals := 47 }
abbrev cl_X2_sumLast (ad : Nat → Nat) (cs : Nat → ClassId) (vP_steps vP_lastSums : Nat → Int32) : va_W := [((ad 12), .inr (2, [.ref (ad 1), .ref (ad 6), .ref (ad 13), .ref (ad 14), .ref (ad 15), .ref (ad 16), .ref (ad 17), .ref (ad 18)])), ((ad 15), .inl ((cs 15), 100, .inl vP_steps)), ((ad 17), .inl ((cs 17), 1024, .inl vP_lastSums))]
abbrev ty_X2_sumLast (cs : Nat → ClassId) : List (ClassId × FieldType) := [((cs 15), .int), ((cs 17), .int)]
def wb_X2_sumLast_9 (vP_steps : Nat → Int32) (K9 : (Nat → Int32) → Prop) (P9 : (Nat → Int32) → Int32 → Prop) (vP_lastSums : Nat → Int32) (x1 : Int32) : Prop :=
 (((1024 : Int32) ≤ x1 → K9 vP_lastSums) ∧
 (¬ (1024 : Int32) ≤ x1 → wp_J6_bitCount_0f7a4 x1 (fun r_2 =>
 wp_X2_leastWith vP_steps vP_lastSums x1 ((10 : Int32) - r_2) (fun r_3 =>
 (vp_in x1 1024 ∧
 P9 (upd vP_lastSums x1.toNatClampNeg r_3) (x1 + (1 : Int32)))))))
def wl_X2_sumLast_9 (vP_steps : Nat → Int32) (K9 : (Nat → Int32) → Prop) (vP_lastSums : Nat → Int32) (x1 : Int32) : Prop := ∀ P9 : (Nat → Int32) → Int32 → Prop, (∀ (vP_lastSums : Nat → Int32) (x1 : Int32), wb_X2_sumLast_9 vP_steps K9 P9 vP_lastSums x1 → P9 vP_lastSums x1) → P9 vP_lastSums x1
def wp_X2_sumLast (vP_steps vP_lastSums : Nat → Int32) (Q : (Nat → Int32) → Prop) : Prop :=
 (vp_in (0 : Int32) 1024 ∧
 wl_X2_sumLast_9 vP_steps (fun vP_lastSums_6 => Q vP_lastSums_6) (upd vP_lastSums (0 : Int32).toNatClampNeg (0 : Int32)) (1 : Int32))
set_option maxHeartbeats 4000000 in
set_option maxRecDepth 100000 in
theorem b_X2_sumLast {p : Program} {e : Env} {s : State} {m : MethodId} {args : Array Value} {below : List Frame} {meth : Method} {c : Code} {QQ : State → Prop} {A : Nat → Prop} {ls : Array Slot} (l : Launch) (D : va_G) (ad : Nat → Nat) (cs : Nat → ClassId) (vP_steps vP_lastSums : Nat → Int32) (Q : (Nat → Int32) → Prop) (hx : p.tables.exec = Jvm.exec) (hb : c.code = cX2_sumLast) (hml : c.maxLocals = 2) (hown : s.vm.findClass RX2 = some m.cls) (hts : ∀ w ∈ wsX2_sumLast, w.before args s = true) (hN : NW s) (hP : va_P D vwCl (cl_X2_sumLast ad cs vP_steps vP_lastSums) s.heap) (hK : va_K D vwCl (ty_X2_sumLast cs) s) (hD : va_D A (cl_X2_sumLast ad cs vP_steps vP_lastSums)) (hA : ∀ q : Nat, s.heap.size ≤ q → A q) (hl : lv_has ls 2 [(0, .ref (ad 12))])
  (hret : ∀ (o0 : Nat → Int32) (H : Heap) (locs : List Loc) (pc : Nat) (ls : Array Slot), Q o0 → va_P D vwCl (cl_X2_sumLast ad cs vP_steps o0) H → va_D A (cl_X2_sumLast ad cs vP_steps o0) → va_S A s.heap H locs → decode cX2_sumLast pc = .ok (.return_, 1) → W p l e rm_X2_sumLast s m args below meth c H locs 0 0 QQ (F0 m pc ls []))
  (hw : wp_X2_sumLast vP_steps vP_lastSums Q) :
  W p l e rm_X2_sumLast s m args below meth c s.heap [] 0 0 QQ (F0 m 0 ls []) := by
  have S0 : CallFix p m c cX2_sumLast 2 s args wsX2_sumLast RX2 := ⟨hx, hb, hml, hown, hts⟩
  have inX2 : ∀ w ∈ u_ws RX2 TX2 8, w ∈ wsX2_sumLast := by decide +kernel
  have fl_24 := hts (.fieldLink RX2 24 "HopperCourt$Pairing" "lastSums" "[I") (by decide +kernel)
  have hL9 : ∀ (K9 : (Nat → Int32) → Prop) (vP_lastSums : Nat → Int32) (x1 : Int32), wl_X2_sumLast_9 vP_steps K9 vP_lastSums x1 → (∀ (vP_lastSums : Nat → Int32), K9 vP_lastSums → ∀ (H : Heap) (locs : List Loc) (ls : Array Slot), va_P D vwCl (cl_X2_sumLast ad cs vP_steps vP_lastSums) H → va_D A (cl_X2_sumLast ad cs vP_steps vP_lastSums) → va_S A s.heap H locs → lv_has ls 2 [] → W p l e rm_X2_sumLast s m args below meth c H locs 0 0 QQ (F0 m 44 ls [])) → ∀ (H : Heap) (locs : List Loc) (ls : Array Slot), va_P D vwCl (cl_X2_sumLast ad cs vP_steps vP_lastSums) H → va_D A (cl_X2_sumLast ad cs vP_steps vP_lastSums) → va_S A s.heap H locs → lv_has ls 2 [(0, .ref (ad 12)), (1, .int x1)] → W p l e rm_X2_sumLast s m args below meth c H locs 0 0 QQ (F0 m 9 ls []) := by
    intro K9 vP_lastSums x1 hw hK9
    unfold wl_X2_sumLast_9 at hw
    refine hw (fun (vP_lastSums : Nat → Int32) (x1 : Int32) => ∀ (H : Heap) (locs : List Loc) (ls : Array Slot), va_P D vwCl (cl_X2_sumLast ad cs vP_steps vP_lastSums) H → va_D A (cl_X2_sumLast ad cs vP_steps vP_lastSums) → va_S A s.heap H locs → lv_has ls 2 [(0, .ref (ad 12)), (1, .int x1)] → W p l e rm_X2_sumLast s m args below meth c H locs 0 0 QQ (F0 m 9 ls [])) ?_
    intro vP_lastSums x1 hw H locs ls hP hD hS hl
    unfold wb_X2_sumLast_9 at hw
    refine lv_iload_n hx hb dX2_sumLast_9 rfl (lv_at hl 1 rfl) ?_
    refine lv_sipush (v := (1024 : Int32)) hx hb dX2_sumLast_10 (by decide) ?_
    refine lv_icmp_ge (tgt := 44) hx hb dX2_sumLast_13 (by decide) (fun c_1 => ?_) (fun c_1 => ?_)
    · have hw := hw.1 c_1
      exact hK9 vP_lastSums hw _ _ _ hP hD hS (lv_sub hl [] rfl)
    · have hw := hw.2 c_1
      refine lv_aload_n hx hb dX2_sumLast_16 rfl (lv_at hl 0 rfl) ?_
      refine va_get (D := D) (ci := 2) (v := .ref (ad 17)) (C := RX2) (T := TX2) (N := 8) hx hb hts inX2 hown hK hP 0 rfl rfl 6 (by decide) fl_24 (fun _ h9 => h9) rfl dX2_sumLast_17 ?_
      refine lv_iload_n hx hb dX2_sumLast_20 rfl (lv_at hl 1 rfl) ?_
      refine lv_aload_n hx hb dX2_sumLast_21 rfl (lv_at hl 0 rfl) ?_
      refine lv_aload_n hx hb dX2_sumLast_22 rfl (lv_at hl 0 rfl) ?_
      refine va_get (D := D) (ci := 2) (v := .ref (ad 17)) (C := RX2) (T := TX2) (N := 8) hx hb hts inX2 hown hK hP 0 rfl rfl 6 (by decide) fl_24 (fun _ h9 => h9) rfl dX2_sumLast_23 ?_
      refine lv_iload_n hx hb dX2_sumLast_26 rfl (lv_at hl 1 rfl) ?_
      refine lv_bipush (v := (10 : Int32)) hx hb dX2_sumLast_27 (by decide) ?_
      refine lv_iload_n hx hb dX2_sumLast_29 rfl (lv_at hl 1 rfl) ?_
      refine pcS (rest := [.int (10 : Int32), .int x1, .ref (ad 17), .ref (ad 12), .int x1, .ref (ad 17)]) S0 (c_J6_bitCount_0f7a4 l D ad cs H.size x1 _ hw) (va_cwS 1 hts gX2_sumLast_J6_bitCount_0f7a4 rfl rfl rfl (by decide +kernel) ⟨Nat.le_of_ble_eq_true rfl, Nat.le_of_ble_eq_true rfl⟩) hN hK hP hD [] [] rfl rfl rfl rfl rfl hl.1 (Nat.le_of_ble_eq_true rfl) ⟨Nat.le_of_ble_eq_true rfl, Nat.le_of_ble_eq_true rfl⟩ dX2_sumLast_30 (fun r_2 hw => ?_)
      refine lv_isub hx hb dX2_sumLast_33 ?_
      refine pcV (rest := [.int x1, .ref (ad 17)]) (ci := 2) S0 (c_X2_leastWith l D ad cs (ad 17) (cs 17) H.size vP_steps vP_lastSums x1 ((10 : Int32) - r_2) _ hw) (cwV 3 hts gX2_sumLast_X2_leastWith rfl rfl rfl (by decide +kernel) ⟨Nat.le_of_ble_eq_true rfl, Nat.le_of_ble_eq_true rfl⟩) hN hK hP hD [0, 1, 2] [0, 1] rfl rfl rfl 0 rfl rfl rfl rfl hl.1 (Nat.le_of_ble_eq_true rfl) ⟨Nat.le_of_ble_eq_true rfl, Nat.le_of_ble_eq_true rfl⟩ dX2_sumLast_34 (fun r_3 hw => ?_)
      obtain ⟨h_4, hw⟩ := hw
      refine va_iast hx hb hK hP hD hS 2 1 rfl rfl h_4 dX2_sumLast_37 (fun H locs hP hD hS => ?_)
      have hP : va_P D vwCl (cl_X2_sumLast ad cs vP_steps (upd vP_lastSums x1.toNatClampNeg r_3)) H := hP
      have hD : va_D A (cl_X2_sumLast ad cs vP_steps (upd vP_lastSums x1.toNatClampNeg r_3)) := hD
      refine lv_iinc (v := (x1 + (1 : Int32))) (lv' := [(1, .int (x1 + (1 : Int32))), (0, .ref (ad 12))]) hx hb dX2_sumLast_38 hl (k := 1) rfl rfl (by decide) rfl (fun ls hl => ?_)
      refine lv_goto (tgt := 9) hx hb dX2_sumLast_41 (by decide) ?_
      exact hw _ _ _ hP hD hS (lv_sub hl [1, 0] rfl)
  obtain ⟨H, hH⟩ : ∃ H : Heap, H = s.heap := ⟨_, rfl⟩
  have hS : va_S A s.heap H [] := by rw [hH]; exact va_S.rf
  rw [← hH] at hP ⊢
  unfold wp_X2_sumLast at hw
  refine lv_aload_n hx hb dX2_sumLast_0 rfl (lv_at hl 0 rfl) ?_
  refine va_get (D := D) (ci := 2) (v := .ref (ad 17)) (C := RX2) (T := TX2) (N := 8) hx hb hts inX2 hown hK hP 0 rfl rfl 6 (by decide) fl_24 (fun _ h9 => h9) rfl dX2_sumLast_1 ?_
  refine lv_iconst (v := (0 : Int32)) hx hb dX2_sumLast_4 (by decide) ?_
  refine lv_iconst (v := (0 : Int32)) hx hb dX2_sumLast_5 (by decide) ?_
  obtain ⟨h_5, hw⟩ := hw
  refine va_iast hx hb hK hP hD hS 2 1 rfl rfl h_5 dX2_sumLast_6 (fun H locs hP hD hS => ?_)
  have hP : va_P D vwCl (cl_X2_sumLast ad cs vP_steps (upd vP_lastSums (0 : Int32).toNatClampNeg (0 : Int32))) H := hP
  have hD : va_D A (cl_X2_sumLast ad cs vP_steps (upd vP_lastSums (0 : Int32).toNatClampNeg (0 : Int32))) := hD
  refine lv_iconst (v := (1 : Int32)) hx hb dX2_sumLast_7 (by decide) ?_
  refine lv_istore_n (lv' := [(1, .int (1 : Int32)), (0, .ref (ad 12))]) hx hb dX2_sumLast_8 rfl hl (by decide) rfl (fun ls hl => ?_)
  refine hL9 _ (upd vP_lastSums (0 : Int32).toNatClampNeg (0 : Int32)) (1 : Int32) hw ?_ _ _ _ hP hD hS (lv_sub hl [1, 0] rfl)
  intro vP_lastSums_6 hw H locs ls hP hD hS hl
  exact hret _ _ _ _ _ hw hP hD hS dX2_sumLast_44
set_option maxHeartbeats 4000000 in
set_option maxRecDepth 100000 in
theorem c_X2_sumLast (l : Launch) (D : va_G) (ad : Nat → Nat) (cs : Nat → ClassId) (sz : Nat) (vP_steps vP_lastSums : Nat → Int32) (Q : (Nat → Int32) → Prop) (hw : wp_X2_sumLast vP_steps vP_lastSums Q) :
  Met l yX2_sumLast wsX2_sumLast rm_X2_sumLast (va_Pc [.ref (ad 12)] (PX D (cl_X2_sumLast ad cs vP_steps vP_lastSums) (ty_X2_sumLast cs) sz)) (va_Qv (fun (u : (Nat → Int32)) => Q u) (fun (u : (Nat → Int32)) t => va_P D vwCl (cl_X2_sumLast ad cs vP_steps u) t.heap ∧ va_D (va_A (cl_X2_sumLast ad cs vP_steps vP_lastSums) sz) (cl_X2_sumLast ad cs vP_steps u)) (va_A (cl_X2_sumLast ad cs vP_steps vP_lastSums) sz)) 0 0 (va_A (cl_X2_sumLast ad cs vP_steps vP_lastSums) sz) := by
  refine Met.ofW (cc := cX2_sumLast) (maxL := 2) (ret := none) (by decide) rfl ?_
  intro p e s m args below meth c s₁ B hml hv
  obtain ⟨rfl, hsz, hP, hK, hD0, hN⟩ := hv
  subst hsz
  have hl := lv_entry ([.ref (ad 12)]) (n := 2) (Nat.le_of_ble_eq_true rfl)
  rw [lg_entry_eq]
  have hx := B.exec
  have hb := B.bytes
  have hr := B.returns
  exact b_X2_sumLast l D ad cs vP_steps vP_lastSums Q hx hb hml (findClass_of_methodNamed B.named) (atoms_spec (ws := wsX2_sumLast) B.pre) hN hP hK hD0.self (fun q h => Or.inr h) hl (fun o0 H locs pc ls hq hP hD hS hd => W.vret hx hb hr (fun t ht hW => ⟨⟨o0, rfl, hq, by rw [ht]; exact hP, hD⟩, hS.F ht⟩) hS.2.2 hd) hw
abbrev rm_X2_weighAllButOne : Room := { frames := 4, cells := 0, slots := 0, locals := 89 }
abbrev cl_X2_weighAllButOne (ad : Nat → Nat) (cs : Nat → ClassId) (vS_rows vS_columns vS_camps vM_owners vP_marbleCells vP_goalCells vP_steps vP_firstSums vP_lastSums vP_otherSums : Nat → Int32) : va_W := [((ad 1), .inr (5, [.ref (ad 2), .ref (ad 3), .ref (ad 4), .ref (ad 5)])), ((ad 2), .inl ((cs 2), 121, .inl vS_rows)), ((ad 3), .inl ((cs 3), 121, .inl vS_columns)), ((ad 4), .inl ((cs 4), 121, .inl vS_camps)), ((ad 6), .inr (1, [.ref (ad 1), .ref (ad 7)])), ((ad 7), .inl ((cs 7), 121, .inl vM_owners)), ((ad 12), .inr (2, [.ref (ad 1), .ref (ad 6), .ref (ad 13), .ref (ad 14), .ref (ad 15), .ref (ad 16), .ref (ad 17), .ref (ad 18)])), ((ad 13), .inl ((cs 13), 10, .inl vP_marbleCells)), ((ad 14), .inl ((cs 14), 10, .inl vP_goalCells)), ((ad 15), .inl ((cs 15), 100, .inl vP_steps)), ((ad 16), .inl ((cs 16), 1024, .inl vP_firstSums)), ((ad 17), .inl ((cs 17), 1024, .inl vP_lastSums)), ((ad 18), .inl ((cs 18), 100, .inl vP_otherSums))]
abbrev ty_X2_weighAllButOne (cs : Nat → ClassId) : List (ClassId × FieldType) := [((cs 2), .int), ((cs 3), .int), ((cs 4), .int), ((cs 7), .int), ((cs 13), .int), ((cs 14), .int), ((cs 15), .int), ((cs 16), .int), ((cs 17), .int), ((cs 18), .int)]
def wb_X2_weighAllButOne_15 (K15 : (Nat → Int32) → Prop) (P15 : (Nat → Int32) → Int32 → Prop) (vP_otherSums : Nat → Int32) (x2 : Int32) : Prop :=
 (((100 : Int32) ≤ x2 → K15 vP_otherSums) ∧
 (¬ (100 : Int32) ≤ x2 → (vp_in x2 100 ∧
 P15 (upd vP_otherSums x2.toNatClampNeg (1000000 : Int32)) (x2 + (1 : Int32)))))
def wl_X2_weighAllButOne_15 (K15 : (Nat → Int32) → Prop) (vP_otherSums : Nat → Int32) (x2 : Int32) : Prop := ∀ P15 : (Nat → Int32) → Int32 → Prop, (∀ (vP_otherSums : Nat → Int32) (x2 : Int32), wb_X2_weighAllButOne_15 K15 P15 vP_otherSums x2 → P15 vP_otherSums x2) → P15 vP_otherSums x2
def wb_X2_weighAllButOne_55 (vP_firstSums vP_lastSums : Nat → Int32) (x2 x3 : Int32) (K55 : (Nat → Int32) → Prop) (P55 : (Nat → Int32) → Int32 → Prop) (vP_otherSums : Nat → Int32) (x4 : Int32) : Prop :=
 (((10 : Int32) ≤ x4 → K55 vP_otherSums) ∧
 (¬ (10 : Int32) ≤ x4 → ((¬ ((x2 >>> (x4 &&& 31)) &&& (1 : Int32)) = 0 → P55 vP_otherSums (x4 + (1 : Int32))) ∧
 (((x2 >>> (x4 &&& 31)) &&& (1 : Int32)) = 0 → (vp_in ((x3 * (10 : Int32)) + x4) 100 ∧
 (vp_in x2 1024 ∧
 (vp_in (((1023 : Int32) - x2) - ((1 : Int32) <<< (x4 &&& 31))) 1024 ∧
 (vp_in ((x3 * (10 : Int32)) + x4) 100 ∧
 P55 (upd vP_otherSums ((x3 * (10 : Int32)) + x4).toNatClampNeg (if ((vP_firstSums x2.toNatClampNeg) + (vP_lastSums (((1023 : Int32) - x2) - ((1 : Int32) <<< (x4 &&& 31))).toNatClampNeg)) < (vP_otherSums ((x3 * (10 : Int32)) + x4).toNatClampNeg) then ((vP_firstSums x2.toNatClampNeg) + (vP_lastSums (((1023 : Int32) - x2) - ((1 : Int32) <<< (x4 &&& 31))).toNatClampNeg)) else (vP_otherSums ((x3 * (10 : Int32)) + x4).toNatClampNeg))) (x4 + (1 : Int32))))))))))
def wl_X2_weighAllButOne_55 (vP_firstSums vP_lastSums : Nat → Int32) (x2 x3 : Int32) (K55 : (Nat → Int32) → Prop) (vP_otherSums : Nat → Int32) (x4 : Int32) : Prop := ∀ P55 : (Nat → Int32) → Int32 → Prop, (∀ (vP_otherSums : Nat → Int32) (x4 : Int32), wb_X2_weighAllButOne_55 vP_firstSums vP_lastSums x2 x3 K55 P55 vP_otherSums x4 → P55 vP_otherSums x4) → P55 vP_otherSums x4
def wb_X2_weighAllButOne_40 (vP_firstSums vP_lastSums : Nat → Int32) (K40 : (Nat → Int32) → Prop) (P40 : (Nat → Int32) → Int32 → Prop) (vP_otherSums : Nat → Int32) (x2 : Int32) : Prop :=
 (((1023 : Int32) ≤ x2 → K40 vP_otherSums) ∧
 (¬ (1023 : Int32) ≤ x2 → wp_J6_bitCount_0f7a4 x2 (fun r_10 =>
 wl_X2_weighAllButOne_55 vP_firstSums vP_lastSums x2 r_10 (fun vP_otherSums_11 => P40 vP_otherSums_11 (x2 + (1 : Int32))) vP_otherSums (0 : Int32))))
def wl_X2_weighAllButOne_40 (vP_firstSums vP_lastSums : Nat → Int32) (K40 : (Nat → Int32) → Prop) (vP_otherSums : Nat → Int32) (x2 : Int32) : Prop := ∀ P40 : (Nat → Int32) → Int32 → Prop, (∀ (vP_otherSums : Nat → Int32) (x2 : Int32), wb_X2_weighAllButOne_40 vP_firstSums vP_lastSums K40 P40 vP_otherSums x2 → P40 vP_otherSums x2) → P40 vP_otherSums x2
def wp_X2_weighAllButOne (vS_rows vS_columns vS_camps vM_owners vP_marbleCells vP_goalCells vP_steps vP_firstSums vP_lastSums vP_otherSums : Nat → Int32) (x1 : Int32) (Q : (Nat → Int32) → (Nat → Int32) → (Nat → Int32) → (Nat → Int32) → (Nat → Int32) → (Nat → Int32) → Prop) : Prop :=
 wp_X2_measure vS_rows vS_columns vS_camps vM_owners vP_marbleCells vP_goalCells vP_steps x1 (fun vP_marbleCells_12 vP_goalCells_13 vP_steps_14 =>
 wp_X2_sumFirst vP_steps_14 vP_firstSums (fun vP_firstSums_15 =>
 wp_X2_sumLast vP_steps_14 vP_lastSums (fun vP_lastSums_16 =>
 wl_X2_weighAllButOne_15 (fun vP_otherSums_17 => wl_X2_weighAllButOne_40 vP_firstSums_15 vP_lastSums_16 (fun vP_otherSums_18 => Q vP_marbleCells_12 vP_goalCells_13 vP_steps_14 vP_firstSums_15 vP_lastSums_16 vP_otherSums_18) vP_otherSums_17 (0 : Int32)) vP_otherSums (0 : Int32))))
set_option maxHeartbeats 4000000 in
set_option maxRecDepth 100000 in
theorem b_X2_weighAllButOne {p : Program} {e : Env} {s : State} {m : MethodId} {args : Array Value} {below : List Frame} {meth : Method} {c : Code} {QQ : State → Prop} {A : Nat → Prop} {ls : Array Slot} (l : Launch) (D : va_G) (ad : Nat → Nat) (cs : Nat → ClassId) (vS_rows vS_columns vS_camps vM_owners vP_marbleCells vP_goalCells vP_steps vP_firstSums vP_lastSums vP_otherSums : Nat → Int32) (x1 : Int32) (Q : (Nat → Int32) → (Nat → Int32) → (Nat → Int32) → (Nat → Int32) → (Nat → Int32) → (Nat → Int32) → Prop) (hx : p.tables.exec = Jvm.exec) (hb : c.code = cX2_weighAllButOne) (hml : c.maxLocals = 7) (hown : s.vm.findClass RX2 = some m.cls) (hts : ∀ w ∈ wsX2_weighAllButOne, w.before args s = true) (hN : NW s) (hP : va_P D vwCl (cl_X2_weighAllButOne ad cs vS_rows vS_columns vS_camps vM_owners vP_marbleCells vP_goalCells vP_steps vP_firstSums vP_lastSums vP_otherSums) s.heap) (hK : va_K D vwCl (ty_X2_weighAllButOne cs) s) (hD : va_D A (cl_X2_weighAllButOne ad cs vS_rows vS_columns vS_camps vM_owners vP_marbleCells vP_goalCells vP_steps vP_firstSums vP_lastSums vP_otherSums)) (hA : ∀ q : Nat, s.heap.size ≤ q → A q) (hl : lv_has ls 7 [(0, .ref (ad 12)), (1, .int x1)])
  (hret : ∀ (o0 : Nat → Int32) (o1 : Nat → Int32) (o2 : Nat → Int32) (o3 : Nat → Int32) (o4 : Nat → Int32) (o5 : Nat → Int32) (H : Heap) (locs : List Loc) (pc : Nat) (ls : Array Slot), Q o0 o1 o2 o3 o4 o5 → va_P D vwCl (cl_X2_weighAllButOne ad cs vS_rows vS_columns vS_camps vM_owners o0 o1 o2 o3 o4 o5) H → va_D A (cl_X2_weighAllButOne ad cs vS_rows vS_columns vS_camps vM_owners o0 o1 o2 o3 o4 o5) → va_S A s.heap H locs → decode cX2_weighAllButOne pc = .ok (.return_, 1) → W p l e rm_X2_weighAllButOne s m args below meth c H locs 0 0 QQ (F0 m pc ls []))
  (hw : wp_X2_weighAllButOne vS_rows vS_columns vS_camps vM_owners vP_marbleCells vP_goalCells vP_steps vP_firstSums vP_lastSums vP_otherSums x1 Q) :
  W p l e rm_X2_weighAllButOne s m args below meth c s.heap [] 0 0 QQ (F0 m 0 ls []) := by
  have S0 : CallFix p m c cX2_weighAllButOne 7 s args wsX2_weighAllButOne RX2 := ⟨hx, hb, hml, hown, hts⟩
  have inX2 : ∀ w ∈ u_ws RX2 TX2 8, w ∈ wsX2_weighAllButOne := by decide +kernel
  have fl_21 := hts (.fieldLink RX2 21 "HopperCourt$Pairing" "firstSums" "[I") (by decide +kernel)
  have fl_24 := hts (.fieldLink RX2 24 "HopperCourt$Pairing" "lastSums" "[I") (by decide +kernel)
  have fl_27 := hts (.fieldLink RX2 27 "HopperCourt$Pairing" "otherSums" "[I") (by decide +kernel)
  have hL15 : ∀ (K15 : (Nat → Int32) → Prop) (vP_otherSums : Nat → Int32) (x2 : Int32) (vP_marbleCells vP_goalCells vP_steps vP_firstSums vP_lastSums : Nat → Int32), wl_X2_weighAllButOne_15 K15 vP_otherSums x2 → (∀ (vP_otherSums : Nat → Int32), K15 vP_otherSums → ∀ (H : Heap) (locs : List Loc) (ls : Array Slot), va_P D vwCl (cl_X2_weighAllButOne ad cs vS_rows vS_columns vS_camps vM_owners vP_marbleCells vP_goalCells vP_steps vP_firstSums vP_lastSums vP_otherSums) H → va_D A (cl_X2_weighAllButOne ad cs vS_rows vS_columns vS_camps vM_owners vP_marbleCells vP_goalCells vP_steps vP_firstSums vP_lastSums vP_otherSums) → va_S A s.heap H locs → lv_has ls 7 [(0, .ref (ad 12))] → W p l e rm_X2_weighAllButOne s m args below meth c H locs 0 0 QQ (F0 m 38 ls [])) → ∀ (H : Heap) (locs : List Loc) (ls : Array Slot), va_P D vwCl (cl_X2_weighAllButOne ad cs vS_rows vS_columns vS_camps vM_owners vP_marbleCells vP_goalCells vP_steps vP_firstSums vP_lastSums vP_otherSums) H → va_D A (cl_X2_weighAllButOne ad cs vS_rows vS_columns vS_camps vM_owners vP_marbleCells vP_goalCells vP_steps vP_firstSums vP_lastSums vP_otherSums) → va_S A s.heap H locs → lv_has ls 7 [(0, .ref (ad 12)), (2, .int x2)] → W p l e rm_X2_weighAllButOne s m args below meth c H locs 0 0 QQ (F0 m 15 ls []) := by
    intro K15 vP_otherSums x2 vP_marbleCells vP_goalCells vP_steps vP_firstSums vP_lastSums hw hK15
    unfold wl_X2_weighAllButOne_15 at hw
    refine hw (fun (vP_otherSums : Nat → Int32) (x2 : Int32) => ∀ (H : Heap) (locs : List Loc) (ls : Array Slot), va_P D vwCl (cl_X2_weighAllButOne ad cs vS_rows vS_columns vS_camps vM_owners vP_marbleCells vP_goalCells vP_steps vP_firstSums vP_lastSums vP_otherSums) H → va_D A (cl_X2_weighAllButOne ad cs vS_rows vS_columns vS_camps vM_owners vP_marbleCells vP_goalCells vP_steps vP_firstSums vP_lastSums vP_otherSums) → va_S A s.heap H locs → lv_has ls 7 [(0, .ref (ad 12)), (2, .int x2)] → W p l e rm_X2_weighAllButOne s m args below meth c H locs 0 0 QQ (F0 m 15 ls [])) ?_
    intro vP_otherSums x2 hw H locs ls hP hD hS hl
    unfold wb_X2_weighAllButOne_15 at hw
    refine lv_iload_n hx hb dX2_weighAllButOne_15 rfl (lv_at hl 1 rfl) ?_
    refine lv_aload_n hx hb dX2_weighAllButOne_16 rfl (lv_at hl 0 rfl) ?_
    refine va_get (D := D) (ci := 2) (v := .ref (ad 18)) (C := RX2) (T := TX2) (N := 8) hx hb hts inX2 hown hK hP 6 rfl rfl 7 (by decide) fl_27 (fun _ h9 => h9) rfl dX2_weighAllButOne_17 ?_
    refine va_alen hx hb hK hP 12 9 rfl rfl (v := (100 : Int32)) rfl dX2_weighAllButOne_20 ?_
    refine lv_icmp_ge (tgt := 38) hx hb dX2_weighAllButOne_21 (by decide) (fun c_1 => ?_) (fun c_1 => ?_)
    · have hw := hw.1 c_1
      exact hK15 vP_otherSums hw _ _ _ hP hD hS (lv_sub hl [0] rfl)
    · have hw := hw.2 c_1
      refine lv_aload_n hx hb dX2_weighAllButOne_24 rfl (lv_at hl 0 rfl) ?_
      refine va_get (D := D) (ci := 2) (v := .ref (ad 18)) (C := RX2) (T := TX2) (N := 8) hx hb hts inX2 hown hK hP 6 rfl rfl 7 (by decide) fl_27 (fun _ h9 => h9) rfl dX2_weighAllButOne_25 ?_
      refine lv_iload_n hx hb dX2_weighAllButOne_28 rfl (lv_at hl 1 rfl) ?_
      refine lv_ldc hx hb hown (hts (.constant RX2 48 (1000000)) (by decide +kernel)) dX2_weighAllButOne_29 ?_
      obtain ⟨h_2, hw⟩ := hw
      refine va_iast hx hb hK hP hD hS 12 9 rfl rfl h_2 dX2_weighAllButOne_31 (fun H locs hP hD hS => ?_)
      have hP : va_P D vwCl (cl_X2_weighAllButOne ad cs vS_rows vS_columns vS_camps vM_owners vP_marbleCells vP_goalCells vP_steps vP_firstSums vP_lastSums (upd vP_otherSums x2.toNatClampNeg (1000000 : Int32))) H := hP
      have hD : va_D A (cl_X2_weighAllButOne ad cs vS_rows vS_columns vS_camps vM_owners vP_marbleCells vP_goalCells vP_steps vP_firstSums vP_lastSums (upd vP_otherSums x2.toNatClampNeg (1000000 : Int32))) := hD
      refine lv_iinc (v := (x2 + (1 : Int32))) (lv' := [(2, .int (x2 + (1 : Int32))), (0, .ref (ad 12))]) hx hb dX2_weighAllButOne_32 hl (k := 1) rfl rfl (by decide) rfl (fun ls hl => ?_)
      refine lv_goto (tgt := 15) hx hb dX2_weighAllButOne_35 (by decide) ?_
      exact hw _ _ _ hP hD hS (lv_sub hl [1, 0] rfl)
  have hL55 : ∀ (vP_firstSums vP_lastSums : Nat → Int32) (x2 x3 : Int32) (K55 : (Nat → Int32) → Prop) (vP_otherSums : Nat → Int32) (x4 : Int32) (vP_marbleCells vP_goalCells vP_steps : Nat → Int32), wl_X2_weighAllButOne_55 vP_firstSums vP_lastSums x2 x3 K55 vP_otherSums x4 → (∀ (vP_otherSums : Nat → Int32), K55 vP_otherSums → ∀ (H : Heap) (locs : List Loc) (ls : Array Slot), va_P D vwCl (cl_X2_weighAllButOne ad cs vS_rows vS_columns vS_camps vM_owners vP_marbleCells vP_goalCells vP_steps vP_firstSums vP_lastSums vP_otherSums) H → va_D A (cl_X2_weighAllButOne ad cs vS_rows vS_columns vS_camps vM_owners vP_marbleCells vP_goalCells vP_steps vP_firstSums vP_lastSums vP_otherSums) → va_S A s.heap H locs → lv_has ls 7 [(0, .ref (ad 12)), (2, .int x2)] → W p l e rm_X2_weighAllButOne s m args below meth c H locs 0 0 QQ (F0 m 129 ls [])) → ∀ (H : Heap) (locs : List Loc) (ls : Array Slot), va_P D vwCl (cl_X2_weighAllButOne ad cs vS_rows vS_columns vS_camps vM_owners vP_marbleCells vP_goalCells vP_steps vP_firstSums vP_lastSums vP_otherSums) H → va_D A (cl_X2_weighAllButOne ad cs vS_rows vS_columns vS_camps vM_owners vP_marbleCells vP_goalCells vP_steps vP_firstSums vP_lastSums vP_otherSums) → va_S A s.heap H locs → lv_has ls 7 [(0, .ref (ad 12)), (2, .int x2), (3, .int x3), (4, .int x4)] → W p l e rm_X2_weighAllButOne s m args below meth c H locs 0 0 QQ (F0 m 55 ls []) := by
    intro vP_firstSums vP_lastSums x2 x3 K55 vP_otherSums x4 vP_marbleCells vP_goalCells vP_steps hw hK55
    unfold wl_X2_weighAllButOne_55 at hw
    refine hw (fun (vP_otherSums : Nat → Int32) (x4 : Int32) => ∀ (H : Heap) (locs : List Loc) (ls : Array Slot), va_P D vwCl (cl_X2_weighAllButOne ad cs vS_rows vS_columns vS_camps vM_owners vP_marbleCells vP_goalCells vP_steps vP_firstSums vP_lastSums vP_otherSums) H → va_D A (cl_X2_weighAllButOne ad cs vS_rows vS_columns vS_camps vM_owners vP_marbleCells vP_goalCells vP_steps vP_firstSums vP_lastSums vP_otherSums) → va_S A s.heap H locs → lv_has ls 7 [(0, .ref (ad 12)), (2, .int x2), (3, .int x3), (4, .int x4)] → W p l e rm_X2_weighAllButOne s m args below meth c H locs 0 0 QQ (F0 m 55 ls [])) ?_
    intro vP_otherSums x4 hw H locs ls hP hD hS hl
    unfold wb_X2_weighAllButOne_55 at hw
    refine lv_iload hx hb dX2_weighAllButOne_55 (lv_at hl 3 rfl) ?_
    refine lv_bipush (v := (10 : Int32)) hx hb dX2_weighAllButOne_57 (by decide) ?_
    refine lv_icmp_ge (tgt := 129) hx hb dX2_weighAllButOne_59 (by decide) (fun c_3 => ?_) (fun c_3 => ?_)
    · have hw := hw.1 c_3
      exact hK55 vP_otherSums hw _ _ _ hP hD hS (lv_sub hl [0, 1] rfl)
    · have hw := hw.2 c_3
      refine lv_iload_n hx hb dX2_weighAllButOne_62 rfl (lv_at hl 1 rfl) ?_
      refine lv_iload hx hb dX2_weighAllButOne_63 (lv_at hl 3 rfl) ?_
      refine lv_ishr hx hb dX2_weighAllButOne_65 ?_
      refine lv_iconst (v := (1 : Int32)) hx hb dX2_weighAllButOne_66 (by decide) ?_
      refine lv_iand hx hb dX2_weighAllButOne_67 ?_
      refine lv_if_ne (tgt := 123) hx hb dX2_weighAllButOne_68 (by decide) (fun c_4 => ?_) (fun c_4 => ?_)
      · have hw := hw.1 c_4
        refine lv_iinc (v := (x4 + (1 : Int32))) (lv' := [(4, .int (x4 + (1 : Int32))), (0, .ref (ad 12)), (2, .int x2), (3, .int x3)]) hx hb dX2_weighAllButOne_123 hl (k := 3) rfl rfl (by decide) rfl (fun ls hl => ?_)
        refine lv_goto (tgt := 55) hx hb dX2_weighAllButOne_126 (by decide) ?_
        exact hw _ _ _ hP hD hS (lv_sub hl [1, 2, 3, 0] rfl)
      · have hw := hw.2 c_4
        refine lv_sipush (v := (1023 : Int32)) hx hb dX2_weighAllButOne_71 (by decide) ?_
        refine lv_iload_n hx hb dX2_weighAllButOne_74 rfl (lv_at hl 1 rfl) ?_
        refine lv_isub hx hb dX2_weighAllButOne_75 ?_
        refine lv_iconst (v := (1 : Int32)) hx hb dX2_weighAllButOne_76 (by decide) ?_
        refine lv_iload hx hb dX2_weighAllButOne_77 (lv_at hl 3 rfl) ?_
        refine lv_ishl hx hb dX2_weighAllButOne_79 ?_
        refine lv_isub hx hb dX2_weighAllButOne_80 ?_
        refine lv_istore (lv' := [(5, .int (((1023 : Int32) - x2) - ((1 : Int32) <<< (x4 &&& 31)))), (0, .ref (ad 12)), (2, .int x2), (3, .int x3), (4, .int x4)]) hx hb dX2_weighAllButOne_81 hl (by decide) rfl (fun ls hl => ?_)
        refine lv_iload_n hx hb dX2_weighAllButOne_83 rfl (lv_at hl 3 rfl) ?_
        refine lv_bipush (v := (10 : Int32)) hx hb dX2_weighAllButOne_84 (by decide) ?_
        refine lv_imul hx hb dX2_weighAllButOne_86 ?_
        refine lv_iload hx hb dX2_weighAllButOne_87 (lv_at hl 4 rfl) ?_
        refine lv_iadd hx hb dX2_weighAllButOne_89 ?_
        refine lv_istore (lv' := [(6, .int ((x3 * (10 : Int32)) + x4)), (5, .int (((1023 : Int32) - x2) - ((1 : Int32) <<< (x4 &&& 31)))), (0, .ref (ad 12)), (2, .int x2), (3, .int x3), (4, .int x4)]) hx hb dX2_weighAllButOne_90 hl (by decide) rfl (fun ls hl => ?_)
        refine lv_aload_n hx hb dX2_weighAllButOne_92 rfl (lv_at hl 2 rfl) ?_
        refine va_get (D := D) (ci := 2) (v := .ref (ad 18)) (C := RX2) (T := TX2) (N := 8) hx hb hts inX2 hown hK hP 6 rfl rfl 7 (by decide) fl_27 (fun _ h9 => h9) rfl dX2_weighAllButOne_93 ?_
        refine lv_iload hx hb dX2_weighAllButOne_96 (lv_at hl 0 rfl) ?_
        refine lv_aload_n hx hb dX2_weighAllButOne_98 rfl (lv_at hl 2 rfl) ?_
        refine va_get (D := D) (ci := 2) (v := .ref (ad 18)) (C := RX2) (T := TX2) (N := 8) hx hb hts inX2 hown hK hP 6 rfl rfl 7 (by decide) fl_27 (fun _ h9 => h9) rfl dX2_weighAllButOne_99 ?_
        refine lv_iload hx hb dX2_weighAllButOne_102 (lv_at hl 0 rfl) ?_
        obtain ⟨h_5, hw⟩ := hw
        refine va_iald hx hb hK hP 12 9 rfl rfl h_5 dX2_weighAllButOne_104 ?_
        refine lv_aload_n hx hb dX2_weighAllButOne_105 rfl (lv_at hl 2 rfl) ?_
        refine va_get (D := D) (ci := 2) (v := .ref (ad 16)) (C := RX2) (T := TX2) (N := 8) hx hb hts inX2 hown hK hP 6 rfl rfl 5 (by decide) fl_21 (fun _ h9 => h9) rfl dX2_weighAllButOne_106 ?_
        refine lv_iload_n hx hb dX2_weighAllButOne_109 rfl (lv_at hl 3 rfl) ?_
        obtain ⟨h_6, hw⟩ := hw
        refine va_iald hx hb hK hP 10 7 rfl rfl h_6 dX2_weighAllButOne_110 ?_
        refine lv_aload_n hx hb dX2_weighAllButOne_111 rfl (lv_at hl 2 rfl) ?_
        refine va_get (D := D) (ci := 2) (v := .ref (ad 17)) (C := RX2) (T := TX2) (N := 8) hx hb hts inX2 hown hK hP 6 rfl rfl 6 (by decide) fl_24 (fun _ h9 => h9) rfl dX2_weighAllButOne_112 ?_
        refine lv_iload hx hb dX2_weighAllButOne_115 (lv_at hl 1 rfl) ?_
        obtain ⟨h_7, hw⟩ := hw
        refine va_iald hx hb hK hP 11 8 rfl rfl h_7 dX2_weighAllButOne_117 ?_
        refine lv_iadd hx hb dX2_weighAllButOne_118 ?_
        refine va_mmin hx hb (hml.trans hl.1.symm) hown (hts (.methodLink RX2 55 Lib.Math.min.name) (by decide +kernel)) (hts (.static Lib.Math.min.name) (by decide +kernel)) (hts (.initialized "java/lang/Math") (by decide +kernel)) (hts (.code Lib.Math.min.name Lib.Math.min.code 2 (some .int)) (by decide +kernel)) (Nat.le_of_ble_eq_true rfl) (Nat.le_of_ble_eq_true rfl) (Nat.le_of_ble_eq_true rfl) (Nat.le_of_ble_eq_true rfl) dX2_weighAllButOne_119 ?_
        obtain ⟨h_8, hw⟩ := hw
        refine va_iast hx hb hK hP hD hS 12 9 rfl rfl h_8 dX2_weighAllButOne_122 (fun H locs hP hD hS => ?_)
        have hP : va_P D vwCl (cl_X2_weighAllButOne ad cs vS_rows vS_columns vS_camps vM_owners vP_marbleCells vP_goalCells vP_steps vP_firstSums vP_lastSums (upd vP_otherSums ((x3 * (10 : Int32)) + x4).toNatClampNeg (if ((vP_firstSums x2.toNatClampNeg) + (vP_lastSums (((1023 : Int32) - x2) - ((1 : Int32) <<< (x4 &&& 31))).toNatClampNeg)) < (vP_otherSums ((x3 * (10 : Int32)) + x4).toNatClampNeg) then ((vP_firstSums x2.toNatClampNeg) + (vP_lastSums (((1023 : Int32) - x2) - ((1 : Int32) <<< (x4 &&& 31))).toNatClampNeg)) else (vP_otherSums ((x3 * (10 : Int32)) + x4).toNatClampNeg)))) H := hP
        have hD : va_D A (cl_X2_weighAllButOne ad cs vS_rows vS_columns vS_camps vM_owners vP_marbleCells vP_goalCells vP_steps vP_firstSums vP_lastSums (upd vP_otherSums ((x3 * (10 : Int32)) + x4).toNatClampNeg (if ((vP_firstSums x2.toNatClampNeg) + (vP_lastSums (((1023 : Int32) - x2) - ((1 : Int32) <<< (x4 &&& 31))).toNatClampNeg)) < (vP_otherSums ((x3 * (10 : Int32)) + x4).toNatClampNeg) then ((vP_firstSums x2.toNatClampNeg) + (vP_lastSums (((1023 : Int32) - x2) - ((1 : Int32) <<< (x4 &&& 31))).toNatClampNeg)) else (vP_otherSums ((x3 * (10 : Int32)) + x4).toNatClampNeg)))) := hD
        refine lv_iinc (v := (x4 + (1 : Int32))) (lv' := [(4, .int (x4 + (1 : Int32))), (6, .int ((x3 * (10 : Int32)) + x4)), (5, .int (((1023 : Int32) - x2) - ((1 : Int32) <<< (x4 &&& 31)))), (0, .ref (ad 12)), (2, .int x2), (3, .int x3)]) hx hb dX2_weighAllButOne_123 hl (k := 5) rfl rfl (by decide) rfl (fun ls hl => ?_)
        refine lv_goto (tgt := 55) hx hb dX2_weighAllButOne_126 (by decide) ?_
        exact hw _ _ _ hP hD hS (lv_sub hl [3, 4, 5, 0] rfl)
  have hL40 : ∀ (vP_firstSums vP_lastSums : Nat → Int32) (K40 : (Nat → Int32) → Prop) (vP_otherSums : Nat → Int32) (x2 : Int32) (vP_marbleCells vP_goalCells vP_steps : Nat → Int32), wl_X2_weighAllButOne_40 vP_firstSums vP_lastSums K40 vP_otherSums x2 → (∀ (vP_otherSums : Nat → Int32), K40 vP_otherSums → ∀ (H : Heap) (locs : List Loc) (ls : Array Slot), va_P D vwCl (cl_X2_weighAllButOne ad cs vS_rows vS_columns vS_camps vM_owners vP_marbleCells vP_goalCells vP_steps vP_firstSums vP_lastSums vP_otherSums) H → va_D A (cl_X2_weighAllButOne ad cs vS_rows vS_columns vS_camps vM_owners vP_marbleCells vP_goalCells vP_steps vP_firstSums vP_lastSums vP_otherSums) → va_S A s.heap H locs → lv_has ls 7 [] → W p l e rm_X2_weighAllButOne s m args below meth c H locs 0 0 QQ (F0 m 135 ls [])) → ∀ (H : Heap) (locs : List Loc) (ls : Array Slot), va_P D vwCl (cl_X2_weighAllButOne ad cs vS_rows vS_columns vS_camps vM_owners vP_marbleCells vP_goalCells vP_steps vP_firstSums vP_lastSums vP_otherSums) H → va_D A (cl_X2_weighAllButOne ad cs vS_rows vS_columns vS_camps vM_owners vP_marbleCells vP_goalCells vP_steps vP_firstSums vP_lastSums vP_otherSums) → va_S A s.heap H locs → lv_has ls 7 [(0, .ref (ad 12)), (2, .int x2)] → W p l e rm_X2_weighAllButOne s m args below meth c H locs 0 0 QQ (F0 m 40 ls []) := by
    intro vP_firstSums vP_lastSums K40 vP_otherSums x2 vP_marbleCells vP_goalCells vP_steps hw hK40
    unfold wl_X2_weighAllButOne_40 at hw
    refine hw (fun (vP_otherSums : Nat → Int32) (x2 : Int32) => ∀ (H : Heap) (locs : List Loc) (ls : Array Slot), va_P D vwCl (cl_X2_weighAllButOne ad cs vS_rows vS_columns vS_camps vM_owners vP_marbleCells vP_goalCells vP_steps vP_firstSums vP_lastSums vP_otherSums) H → va_D A (cl_X2_weighAllButOne ad cs vS_rows vS_columns vS_camps vM_owners vP_marbleCells vP_goalCells vP_steps vP_firstSums vP_lastSums vP_otherSums) → va_S A s.heap H locs → lv_has ls 7 [(0, .ref (ad 12)), (2, .int x2)] → W p l e rm_X2_weighAllButOne s m args below meth c H locs 0 0 QQ (F0 m 40 ls [])) ?_
    intro vP_otherSums x2 hw H locs ls hP hD hS hl
    unfold wb_X2_weighAllButOne_40 at hw
    refine lv_iload_n hx hb dX2_weighAllButOne_40 rfl (lv_at hl 1 rfl) ?_
    refine lv_sipush (v := (1023 : Int32)) hx hb dX2_weighAllButOne_41 (by decide) ?_
    refine lv_icmp_ge (tgt := 135) hx hb dX2_weighAllButOne_44 (by decide) (fun c_9 => ?_) (fun c_9 => ?_)
    · have hw := hw.1 c_9
      exact hK40 vP_otherSums hw _ _ _ hP hD hS (lv_sub hl [] rfl)
    · have hw := hw.2 c_9
      refine lv_iload_n hx hb dX2_weighAllButOne_47 rfl (lv_at hl 1 rfl) ?_
      refine pcS (rest := []) S0 (c_J6_bitCount_0f7a4 l D ad cs H.size x2 _ hw) (va_cwS 1 hts gX2_weighAllButOne_J6_bitCount_0f7a4 rfl rfl rfl (by decide +kernel) ⟨Nat.le_of_ble_eq_true rfl, Nat.le_of_ble_eq_true rfl⟩) hN hK hP hD [] [] rfl rfl rfl rfl rfl hl.1 (Nat.le_of_ble_eq_true rfl) ⟨Nat.le_of_ble_eq_true rfl, Nat.le_of_ble_eq_true rfl⟩ dX2_weighAllButOne_48 (fun r_10 hw => ?_)
      refine lv_istore_n (lv' := [(3, .int r_10), (0, .ref (ad 12)), (2, .int x2)]) hx hb dX2_weighAllButOne_51 rfl hl (by decide) rfl (fun ls hl => ?_)
      refine lv_iconst (v := (0 : Int32)) hx hb dX2_weighAllButOne_52 (by decide) ?_
      refine lv_istore (lv' := [(4, .int (0 : Int32)), (3, .int r_10), (0, .ref (ad 12)), (2, .int x2)]) hx hb dX2_weighAllButOne_53 hl (by decide) rfl (fun ls hl => ?_)
      refine hL55 vP_firstSums vP_lastSums x2 r_10 _ vP_otherSums (0 : Int32) _ _ _ hw ?_ _ _ _ hP hD hS (lv_sub hl [2, 3, 1, 0] rfl)
      intro vP_otherSums_11 hw H locs ls hP hD hS hl
      refine lv_iinc (v := (x2 + (1 : Int32))) (lv' := [(2, .int (x2 + (1 : Int32))), (0, .ref (ad 12))]) hx hb dX2_weighAllButOne_129 hl (k := 1) rfl rfl (by decide) rfl (fun ls hl => ?_)
      refine lv_goto (tgt := 40) hx hb dX2_weighAllButOne_132 (by decide) ?_
      exact hw _ _ _ hP hD hS (lv_sub hl [1, 0] rfl)
  obtain ⟨H, hH⟩ : ∃ H : Heap, H = s.heap := ⟨_, rfl⟩
  have hS : va_S A s.heap H [] := by rw [hH]; exact va_S.rf
  rw [← hH] at hP ⊢
  unfold wp_X2_weighAllButOne at hw
  refine lv_aload_n hx hb dX2_weighAllButOne_0 rfl (lv_at hl 0 rfl) ?_
  refine lv_iload_n hx hb dX2_weighAllButOne_1 rfl (lv_at hl 1 rfl) ?_
  refine pcVv (rest := []) (wr := [((ad 16), .inl ((cs 16), 1024, .inl vP_firstSums)), ((ad 17), .inl ((cs 17), 1024, .inl vP_lastSums)), ((ad 18), .inl ((cs 18), 100, .inl vP_otherSums))]) (ci := 2) S0 (c_X2_measure l D ad cs H.size vS_rows vS_columns vS_camps vM_owners vP_marbleCells vP_goalCells vP_steps x1 _ hw) (cwV 1 hts gX2_weighAllButOne_X2_measure rfl rfl rfl (by decide +kernel) ⟨Nat.le_of_ble_eq_true rfl, Nat.le_of_ble_eq_true rfl⟩) hN hK hP hD hS hA [0, 1, 2, 3, 4, 5, 6, 7, 8, 9] [10, 11, 12] [0, 1, 2, 3, 4, 5, 6] ⟨rfl, rfl, rfl, rfl, rfl, by decide⟩ 6 rfl rfl rfl rfl hl.1 (Nat.le_of_ble_eq_true rfl) ⟨Nat.le_of_ble_eq_true rfl, Nat.le_of_ble_eq_true rfl⟩ dX2_weighAllButOne_2 (fun u H locs hw hP hD hS => ?_)
  obtain ⟨vP_marbleCells_12, vP_goalCells_13, vP_steps_14⟩ := u
  dsimp only at hw
  have hP : va_P D vwCl (cl_X2_weighAllButOne ad cs vS_rows vS_columns vS_camps vM_owners vP_marbleCells_12 vP_goalCells_13 vP_steps_14 vP_firstSums vP_lastSums vP_otherSums) H := hP.sub [3, 4, 5, 6, 7, 8, 9, 10, 11, 12, 0, 1, 2] rfl
  have hD : va_D A (cl_X2_weighAllButOne ad cs vS_rows vS_columns vS_camps vM_owners vP_marbleCells_12 vP_goalCells_13 vP_steps_14 vP_firstSums vP_lastSums vP_otherSums) := hD.sub [3, 4, 5, 6, 7, 8, 9, 10, 11, 12, 0, 1, 2] (by decide) rfl
  refine lv_aload_n hx hb dX2_weighAllButOne_5 rfl (lv_at hl 0 rfl) ?_
  refine pcVv (rest := []) (wr := [((ad 1), .inr (5, [.ref (ad 2), .ref (ad 3), .ref (ad 4), .ref (ad 5)])), ((ad 2), .inl ((cs 2), 121, .inl vS_rows)), ((ad 3), .inl ((cs 3), 121, .inl vS_columns)), ((ad 4), .inl ((cs 4), 121, .inl vS_camps)), ((ad 6), .inr (1, [.ref (ad 1), .ref (ad 7)])), ((ad 7), .inl ((cs 7), 121, .inl vM_owners)), ((ad 13), .inl ((cs 13), 10, .inl vP_marbleCells_12)), ((ad 14), .inl ((cs 14), 10, .inl vP_goalCells_13)), ((ad 17), .inl ((cs 17), 1024, .inl vP_lastSums)), ((ad 18), .inl ((cs 18), 100, .inl vP_otherSums))]) (ci := 2) S0 (c_X2_sumFirst l D ad cs H.size vP_steps_14 vP_firstSums _ hw) (cwV 0 hts gX2_weighAllButOne_X2_sumFirst rfl rfl rfl (by decide +kernel) ⟨Nat.le_of_ble_eq_true rfl, Nat.le_of_ble_eq_true rfl⟩) hN hK hP hD hS hA [6, 9, 10] [0, 1, 2, 3, 4, 5, 7, 8, 11, 12] [6, 7] ⟨rfl, rfl, rfl, rfl, rfl, by decide⟩ 6 rfl rfl rfl rfl hl.1 (Nat.le_of_ble_eq_true rfl) ⟨Nat.le_of_ble_eq_true rfl, Nat.le_of_ble_eq_true rfl⟩ dX2_weighAllButOne_6 (fun u H locs hw hP hD hS => ?_)
  obtain ⟨vP_firstSums_15, rfl⟩ : ∃ z, z = u := ⟨_, rfl⟩
  have hP : va_P D vwCl (cl_X2_weighAllButOne ad cs vS_rows vS_columns vS_camps vM_owners vP_marbleCells_12 vP_goalCells_13 vP_steps_14 vP_firstSums_15 vP_lastSums vP_otherSums) H := hP.sub [0, 1, 2, 3, 4, 5, 10, 6, 7, 11, 12, 8, 9] rfl
  have hD : va_D A (cl_X2_weighAllButOne ad cs vS_rows vS_columns vS_camps vM_owners vP_marbleCells_12 vP_goalCells_13 vP_steps_14 vP_firstSums_15 vP_lastSums vP_otherSums) := hD.sub [0, 1, 2, 3, 4, 5, 10, 6, 7, 11, 12, 8, 9] (by decide) rfl
  refine lv_aload_n hx hb dX2_weighAllButOne_9 rfl (lv_at hl 0 rfl) ?_
  refine pcVv (rest := []) (wr := [((ad 1), .inr (5, [.ref (ad 2), .ref (ad 3), .ref (ad 4), .ref (ad 5)])), ((ad 2), .inl ((cs 2), 121, .inl vS_rows)), ((ad 3), .inl ((cs 3), 121, .inl vS_columns)), ((ad 4), .inl ((cs 4), 121, .inl vS_camps)), ((ad 6), .inr (1, [.ref (ad 1), .ref (ad 7)])), ((ad 7), .inl ((cs 7), 121, .inl vM_owners)), ((ad 13), .inl ((cs 13), 10, .inl vP_marbleCells_12)), ((ad 14), .inl ((cs 14), 10, .inl vP_goalCells_13)), ((ad 16), .inl ((cs 16), 1024, .inl vP_firstSums_15)), ((ad 18), .inl ((cs 18), 100, .inl vP_otherSums))]) (ci := 2) S0 (c_X2_sumLast l D ad cs H.size vP_steps_14 vP_lastSums _ hw) (cwV 0 hts gX2_weighAllButOne_X2_sumLast rfl rfl rfl (by decide +kernel) ⟨Nat.le_of_ble_eq_true rfl, Nat.le_of_ble_eq_true rfl⟩) hN hK hP hD hS hA [6, 9, 11] [0, 1, 2, 3, 4, 5, 7, 8, 10, 12] [6, 8] ⟨rfl, rfl, rfl, rfl, rfl, by decide⟩ 6 rfl rfl rfl rfl hl.1 (Nat.le_of_ble_eq_true rfl) ⟨Nat.le_of_ble_eq_true rfl, Nat.le_of_ble_eq_true rfl⟩ dX2_weighAllButOne_10 (fun u H locs hw hP hD hS => ?_)
  obtain ⟨vP_lastSums_16, rfl⟩ : ∃ z, z = u := ⟨_, rfl⟩
  have hP : va_P D vwCl (cl_X2_weighAllButOne ad cs vS_rows vS_columns vS_camps vM_owners vP_marbleCells_12 vP_goalCells_13 vP_steps_14 vP_firstSums_15 vP_lastSums_16 vP_otherSums) H := hP.sub [0, 1, 2, 3, 4, 5, 10, 6, 7, 11, 8, 12, 9] rfl
  have hD : va_D A (cl_X2_weighAllButOne ad cs vS_rows vS_columns vS_camps vM_owners vP_marbleCells_12 vP_goalCells_13 vP_steps_14 vP_firstSums_15 vP_lastSums_16 vP_otherSums) := hD.sub [0, 1, 2, 3, 4, 5, 10, 6, 7, 11, 8, 12, 9] (by decide) rfl
  refine lv_iconst (v := (0 : Int32)) hx hb dX2_weighAllButOne_13 (by decide) ?_
  refine lv_istore_n (lv' := [(2, .int (0 : Int32)), (0, .ref (ad 12)), (1, .int x1)]) hx hb dX2_weighAllButOne_14 rfl hl (by decide) rfl (fun ls hl => ?_)
  refine hL15 _ vP_otherSums (0 : Int32) _ _ _ _ _ hw ?_ _ _ _ hP hD hS (lv_sub hl [1, 0] rfl)
  intro vP_otherSums_17 hw H locs ls hP hD hS hl
  refine lv_iconst (v := (0 : Int32)) hx hb dX2_weighAllButOne_38 (by decide) ?_
  refine lv_istore_n (lv' := [(2, .int (0 : Int32)), (0, .ref (ad 12))]) hx hb dX2_weighAllButOne_39 rfl hl (by decide) rfl (fun ls hl => ?_)
  refine hL40 vP_firstSums_15 vP_lastSums_16 _ vP_otherSums_17 (0 : Int32) _ _ _ hw ?_ _ _ _ hP hD hS (lv_sub hl [1, 0] rfl)
  intro vP_otherSums_18 hw H locs ls hP hD hS hl
  exact hret _ _ _ _ _ _ _ _ _ _ hw hP hD hS dX2_weighAllButOne_135
set_option maxHeartbeats 4000000 in
set_option maxRecDepth 100000 in
theorem c_X2_weighAllButOne (l : Launch) (D : va_G) (ad : Nat → Nat) (cs : Nat → ClassId) (sz : Nat) (vS_rows vS_columns vS_camps vM_owners vP_marbleCells vP_goalCells vP_steps vP_firstSums vP_lastSums vP_otherSums : Nat → Int32) (x1 : Int32) (Q : (Nat → Int32) → (Nat → Int32) → (Nat → Int32) → (Nat → Int32) → (Nat → Int32) → (Nat → Int32) → Prop) (hw : wp_X2_weighAllButOne vS_rows vS_columns vS_camps vM_owners vP_marbleCells vP_goalCells vP_steps vP_firstSums vP_lastSums vP_otherSums x1 Q) :
  Met l yX2_weighAllButOne wsX2_weighAllButOne rm_X2_weighAllButOne (va_Pc [.ref (ad 12), .int x1] (PX D (cl_X2_weighAllButOne ad cs vS_rows vS_columns vS_camps vM_owners vP_marbleCells vP_goalCells vP_steps vP_firstSums vP_lastSums vP_otherSums) (ty_X2_weighAllButOne cs) sz)) (va_Qv (fun (u : (Nat → Int32) × (Nat → Int32) × (Nat → Int32) × (Nat → Int32) × (Nat → Int32) × (Nat → Int32)) => Q u.1 u.2.1 u.2.2.1 u.2.2.2.1 u.2.2.2.2.1 u.2.2.2.2.2) (fun (u : (Nat → Int32) × (Nat → Int32) × (Nat → Int32) × (Nat → Int32) × (Nat → Int32) × (Nat → Int32)) t => va_P D vwCl (cl_X2_weighAllButOne ad cs vS_rows vS_columns vS_camps vM_owners u.1 u.2.1 u.2.2.1 u.2.2.2.1 u.2.2.2.2.1 u.2.2.2.2.2) t.heap ∧ va_D (va_A (cl_X2_weighAllButOne ad cs vS_rows vS_columns vS_camps vM_owners vP_marbleCells vP_goalCells vP_steps vP_firstSums vP_lastSums vP_otherSums) sz) (cl_X2_weighAllButOne ad cs vS_rows vS_columns vS_camps vM_owners u.1 u.2.1 u.2.2.1 u.2.2.2.1 u.2.2.2.2.1 u.2.2.2.2.2)) (va_A (cl_X2_weighAllButOne ad cs vS_rows vS_columns vS_camps vM_owners vP_marbleCells vP_goalCells vP_steps vP_firstSums vP_lastSums vP_otherSums) sz)) 0 0 (va_A (cl_X2_weighAllButOne ad cs vS_rows vS_columns vS_camps vM_owners vP_marbleCells vP_goalCells vP_steps vP_firstSums vP_lastSums vP_otherSums) sz) := by
  refine Met.ofW (cc := cX2_weighAllButOne) (maxL := 7) (ret := none) (by decide) rfl ?_
  intro p e s m args below meth c s₁ B hml hv
  obtain ⟨rfl, hsz, hP, hK, hD0, hN⟩ := hv
  subst hsz
  have hl := lv_entry ([.ref (ad 12), .int x1]) (n := 7) (Nat.le_of_ble_eq_true rfl)
  rw [lg_entry_eq]
  have hx := B.exec
  have hb := B.bytes
  have hr := B.returns
  exact b_X2_weighAllButOne l D ad cs vS_rows vS_columns vS_camps vM_owners vP_marbleCells vP_goalCells vP_steps vP_firstSums vP_lastSums vP_otherSums x1 Q hx hb hml (findClass_of_methodNamed B.named) (atoms_spec (ws := wsX2_weighAllButOne) B.pre) hN hP hK hD0.self (fun q h => Or.inr h) hl (fun o0 o1 o2 o3 o4 o5 H locs pc ls hq hP hD hS hd => W.vret hx hb hr (fun t ht hW => ⟨⟨(o0, o1, o2, o3, o4, o5), rfl, hq, by rw [ht]; exact hP, hD⟩, hS.F ht⟩) hS.2.2 hd) hw
abbrev rm_X2_marbleCell : Room := { frames := 0, cells := 0, slots := 0, locals := 0 }
abbrev cl_X2_marbleCell (ad : Nat → Nat) (cs : Nat → ClassId) (vP_marbleCells : Nat → Int32) : va_W := [((ad 12), .inr (2, [.ref (ad 1), .ref (ad 6), .ref (ad 13), .ref (ad 14), .ref (ad 15), .ref (ad 16), .ref (ad 17), .ref (ad 18)])), ((ad 13), .inl ((cs 13), 10, .inl vP_marbleCells))]
abbrev ty_X2_marbleCell (cs : Nat → ClassId) : List (ClassId × FieldType) := [((cs 13), .int)]
def wp_X2_marbleCell (vP_marbleCells : Nat → Int32) (x1 : Int32) (Q : Int32 → Prop) : Prop :=
 ((x1 < 0 → Q (-1 : Int32)) ∧
 (¬ x1 < 0 → (((10 : Int32) ≤ x1 → Q (-1 : Int32)) ∧
 (¬ (10 : Int32) ≤ x1 → (vp_in x1 10 ∧
 Q (vP_marbleCells x1.toNatClampNeg))))))
set_option maxHeartbeats 4000000 in
set_option maxRecDepth 100000 in
theorem b_X2_marbleCell {p : Program} {e : Env} {s : State} {m : MethodId} {args : Array Value} {below : List Frame} {meth : Method} {c : Code} {QQ : State → Prop} {A : Nat → Prop} {ls : Array Slot} (l : Launch) (D : va_G) (ad : Nat → Nat) (cs : Nat → ClassId) (vP_marbleCells : Nat → Int32) (x1 : Int32) (Q : Int32 → Prop) (hx : p.tables.exec = Jvm.exec) (hb : c.code = cX2_marbleCell) (hml : c.maxLocals = 2) (hown : s.vm.findClass RX2 = some m.cls) (hts : ∀ w ∈ wsX2_marbleCell, w.before args s = true) (hN : NW s) (hP : va_P D vwCl (cl_X2_marbleCell ad cs vP_marbleCells) s.heap) (hK : va_K D vwCl (ty_X2_marbleCell cs) s) (hD : va_D A (cl_X2_marbleCell ad cs vP_marbleCells)) (hA : ∀ q : Nat, s.heap.size ≤ q → A q) (hl : lv_has ls 2 [(0, .ref (ad 12)), (1, .int x1)])
  (hret : ∀ (r : Int32) (pc : Nat) (ls : Array Slot), Q r → decode cX2_marbleCell pc = .ok (.ireturn, 1) → W p l e rm_X2_marbleCell s m args below meth c s.heap [] 0 0 QQ (F0 m pc ls [.int r]))
  (hw : wp_X2_marbleCell vP_marbleCells x1 Q) :
  W p l e rm_X2_marbleCell s m args below meth c s.heap [] 0 0 QQ (F0 m 0 ls []) := by
  have S0 : CallFix p m c cX2_marbleCell 2 s args wsX2_marbleCell RX2 := ⟨hx, hb, hml, hown, hts⟩
  have inX2 : ∀ w ∈ u_ws RX2 TX2 8, w ∈ wsX2_marbleCell := by decide +kernel
  have fl_9 := hts (.fieldLink RX2 9 "HopperCourt$Pairing" "marbleCells" "[I") (by decide +kernel)
  unfold wp_X2_marbleCell at hw
  refine lv_iload_n hx hb dX2_marbleCell_0 rfl (lv_at hl 1 rfl) ?_
  refine lv_if_lt (tgt := 19) hx hb dX2_marbleCell_1 (by decide) (fun c_1 => ?_) (fun c_1 => ?_)
  · have hw := hw.1 c_1
    refine lv_iconst (v := (-1 : Int32)) hx hb dX2_marbleCell_19 (by decide) ?_
    exact hret _ _ _ hw dX2_marbleCell_20
  · have hw := hw.2 c_1
    refine lv_iload_n hx hb dX2_marbleCell_4 rfl (lv_at hl 1 rfl) ?_
    refine lv_bipush (v := (10 : Int32)) hx hb dX2_marbleCell_5 (by decide) ?_
    refine lv_icmp_ge (tgt := 19) hx hb dX2_marbleCell_7 (by decide) (fun c_2 => ?_) (fun c_2 => ?_)
    · have hw := hw.1 c_2
      refine lv_iconst (v := (-1 : Int32)) hx hb dX2_marbleCell_19 (by decide) ?_
      exact hret _ _ _ hw dX2_marbleCell_20
    · have hw := hw.2 c_2
      refine lv_aload_n hx hb dX2_marbleCell_10 rfl (lv_at hl 0 rfl) ?_
      refine va_get (D := D) (ci := 2) (v := .ref (ad 13)) (C := RX2) (T := TX2) (N := 8) hx hb hts inX2 hown hK hP 0 rfl rfl 2 (by decide) fl_9 (fun _ h9 => h9) rfl dX2_marbleCell_11 ?_
      refine lv_iload_n hx hb dX2_marbleCell_14 rfl (lv_at hl 1 rfl) ?_
      obtain ⟨h_3, hw⟩ := hw
      refine va_iald hx hb hK hP 1 0 rfl rfl h_3 dX2_marbleCell_15 ?_
      refine lv_goto (tgt := 20) hx hb dX2_marbleCell_16 (by decide) ?_
      exact hret _ _ _ hw dX2_marbleCell_20
set_option maxHeartbeats 4000000 in
set_option maxRecDepth 100000 in
theorem c_X2_marbleCell (l : Launch) (D : va_G) (ad : Nat → Nat) (cs : Nat → ClassId) (sz : Nat) (vP_marbleCells : Nat → Int32) (x1 : Int32) (Q : Int32 → Prop) (hw : wp_X2_marbleCell vP_marbleCells x1 Q) :
  Met l yX2_marbleCell wsX2_marbleCell rm_X2_marbleCell (va_Pc [.ref (ad 12), .int x1] (PX D (cl_X2_marbleCell ad cs vP_marbleCells) (ty_X2_marbleCell cs) sz)) (vp_Si Q) 0 0 (fun _ => False) := by
  refine Met.ofW (cc := cX2_marbleCell) (maxL := 2) (ret := (some .int)) (by decide) rfl ?_
  intro p e s m args below meth c s₁ B hml hv
  obtain ⟨rfl, hsz, hP, hK, hD0, hN⟩ := hv
  subst hsz
  have hl := lv_entry ([.ref (ad 12), .int x1]) (n := 2) (Nat.le_of_ble_eq_true rfl)
  rw [lg_entry_eq]
  have hx := B.exec
  have hb := B.bytes
  have hr := B.returns
  exact b_X2_marbleCell l D ad cs vP_marbleCells x1 Q hx hb hml (findClass_of_methodNamed B.named) (atoms_spec (ws := wsX2_marbleCell) B.pre) hN hP hK hD0.self (fun q h => Or.inr h) hl (A := va_A (cl_X2_marbleCell ad cs vP_marbleCells) s.heap.size) (fun r pc ls hq hd => W.iret (v := r) hx hb hr (fun t ht hW => ⟨r, rfl, hq, ht⟩) (fun _ h => nomatch h) hd) hw
abbrev rm_X2_sumWith : Room := { frames := 2, cells := 0, slots := 0, locals := 45 }
abbrev cl_X2_sumWith (ad : Nat → Nat) (cs : Nat → ClassId) (vS_rows vS_columns vP_goalCells vP_otherSums : Nat → Int32) : va_W := [((ad 1), .inr (5, [.ref (ad 2), .ref (ad 3), .ref (ad 4), .ref (ad 5)])), ((ad 2), .inl ((cs 2), 121, .inl vS_rows)), ((ad 3), .inl ((cs 3), 121, .inl vS_columns)), ((ad 12), .inr (2, [.ref (ad 1), .ref (ad 6), .ref (ad 13), .ref (ad 14), .ref (ad 15), .ref (ad 16), .ref (ad 17), .ref (ad 18)])), ((ad 14), .inl ((cs 14), 10, .inl vP_goalCells)), ((ad 18), .inl ((cs 18), 100, .inl vP_otherSums))]
abbrev ty_X2_sumWith (cs : Nat → ClassId) : List (ClassId × FieldType) := [((cs 2), .int), ((cs 3), .int), ((cs 14), .int), ((cs 18), .int)]
def wb_X2_sumWith_18 (vS_rows vS_columns vP_goalCells vP_otherSums : Nat → Int32) (x1 x2 : Int32) (K18 : Int32 → Prop) (P18 : Int32 → Int32 → Prop) (x3 x4 : Int32) : Prop :=
 (((10 : Int32) ≤ x4 → K18 x3) ∧
 (¬ (10 : Int32) ≤ x4 → (vp_in ((x1 * (10 : Int32)) + x4) 100 ∧
 (vp_in x4 10 ∧
 wp_X5_steps vS_rows vS_columns x2 (vP_goalCells x4.toNatClampNeg) (fun r_4 =>
 P18 (if ((vP_otherSums ((x1 * (10 : Int32)) + x4).toNatClampNeg) + r_4) < x3 then ((vP_otherSums ((x1 * (10 : Int32)) + x4).toNatClampNeg) + r_4) else x3) (x4 + (1 : Int32)))))))
def wl_X2_sumWith_18 (vS_rows vS_columns vP_goalCells vP_otherSums : Nat → Int32) (x1 x2 : Int32) (K18 : Int32 → Prop) (x3 x4 : Int32) : Prop := ∀ P18 : Int32 → Int32 → Prop, (∀ (x3 x4 : Int32), wb_X2_sumWith_18 vS_rows vS_columns vP_goalCells vP_otherSums x1 x2 K18 P18 x3 x4 → P18 x3 x4) → P18 x3 x4
def wp_X2_sumWith (vS_rows vS_columns vP_goalCells vP_otherSums : Nat → Int32) (x1 x2 : Int32) (Q : Int32 → Prop) : Prop :=
 ((x1 < 0 → Q (1000000 : Int32)) ∧
 (¬ x1 < 0 → ((x1 < (10 : Int32) → wl_X2_sumWith_18 vS_rows vS_columns vP_goalCells vP_otherSums x1 x2 (fun x3_7 => Q x3_7) (1000000 : Int32) (0 : Int32)) ∧
 (¬ x1 < (10 : Int32) → Q (1000000 : Int32)))))
set_option maxHeartbeats 4000000 in
set_option maxRecDepth 100000 in
theorem b_X2_sumWith {p : Program} {e : Env} {s : State} {m : MethodId} {args : Array Value} {below : List Frame} {meth : Method} {c : Code} {QQ : State → Prop} {A : Nat → Prop} {ls : Array Slot} (l : Launch) (D : va_G) (ad : Nat → Nat) (cs : Nat → ClassId) (vS_rows vS_columns vP_goalCells vP_otherSums : Nat → Int32) (x1 x2 : Int32) (Q : Int32 → Prop) (hx : p.tables.exec = Jvm.exec) (hb : c.code = cX2_sumWith) (hml : c.maxLocals = 6) (hown : s.vm.findClass RX2 = some m.cls) (hts : ∀ w ∈ wsX2_sumWith, w.before args s = true) (hN : NW s) (hP : va_P D vwCl (cl_X2_sumWith ad cs vS_rows vS_columns vP_goalCells vP_otherSums) s.heap) (hK : va_K D vwCl (ty_X2_sumWith cs) s) (hD : va_D A (cl_X2_sumWith ad cs vS_rows vS_columns vP_goalCells vP_otherSums)) (hA : ∀ q : Nat, s.heap.size ≤ q → A q) (hl : lv_has ls 6 [(0, .ref (ad 12)), (1, .int x1), (2, .int x2)])
  (hret : ∀ (r : Int32) (pc : Nat) (ls : Array Slot), Q r → decode cX2_sumWith pc = .ok (.ireturn, 1) → W p l e rm_X2_sumWith s m args below meth c s.heap [] 0 0 QQ (F0 m pc ls [.int r]))
  (hw : wp_X2_sumWith vS_rows vS_columns vP_goalCells vP_otherSums x1 x2 Q) :
  W p l e rm_X2_sumWith s m args below meth c s.heap [] 0 0 QQ (F0 m 0 ls []) := by
  have S0 : CallFix p m c cX2_sumWith 6 s args wsX2_sumWith RX2 := ⟨hx, hb, hml, hown, hts⟩
  have inX2 : ∀ w ∈ u_ws RX2 TX2 8, w ∈ wsX2_sumWith := by decide +kernel
  have fl_15 := hts (.fieldLink RX2 15 "HopperCourt$Pairing" "goalCells" "[I") (by decide +kernel)
  have fl_27 := hts (.fieldLink RX2 27 "HopperCourt$Pairing" "otherSums" "[I") (by decide +kernel)
  have fl_30 := hts (.fieldLink RX2 30 "HopperCourt$Pairing" "star" "LHopperCourt$Star;") (by decide +kernel)
  have hL18 : ∀ (x1 x2 : Int32) (K18 : Int32 → Prop) (x3 x4 : Int32), wl_X2_sumWith_18 vS_rows vS_columns vP_goalCells vP_otherSums x1 x2 K18 x3 x4 → (∀ (x3 : Int32), K18 x3 → ∀ (ls : Array Slot), lv_has ls 6 [(3, .int x3)] → W p l e rm_X2_sumWith s m args below meth c s.heap [] 0 0 QQ (F0 m 68 ls [])) → ∀ (ls : Array Slot), lv_has ls 6 [(0, .ref (ad 12)), (1, .int x1), (2, .int x2), (3, .int x3), (4, .int x4)] → W p l e rm_X2_sumWith s m args below meth c s.heap [] 0 0 QQ (F0 m 18 ls []) := by
    intro x1 x2 K18 x3 x4 hw hK18
    unfold wl_X2_sumWith_18 at hw
    refine hw (fun (x3 x4 : Int32) => ∀ (ls : Array Slot), lv_has ls 6 [(0, .ref (ad 12)), (1, .int x1), (2, .int x2), (3, .int x3), (4, .int x4)] → W p l e rm_X2_sumWith s m args below meth c s.heap [] 0 0 QQ (F0 m 18 ls [])) ?_
    intro x3 x4 hw ls hl
    unfold wb_X2_sumWith_18 at hw
    refine lv_iload hx hb dX2_sumWith_18 (lv_at hl 4 rfl) ?_
    refine lv_bipush (v := (10 : Int32)) hx hb dX2_sumWith_20 (by decide) ?_
    refine lv_icmp_ge (tgt := 68) hx hb dX2_sumWith_22 (by decide) (fun c_1 => ?_) (fun c_1 => ?_)
    · have hw := hw.1 c_1
      exact hK18 x3 hw _ (lv_sub hl [3] rfl)
    · have hw := hw.2 c_1
      refine lv_aload_n hx hb dX2_sumWith_25 rfl (lv_at hl 0 rfl) ?_
      refine va_get (D := D) (ci := 2) (v := .ref (ad 18)) (C := RX2) (T := TX2) (N := 8) hx hb hts inX2 hown hK hP 3 rfl rfl 7 (by decide) fl_27 (fun _ h9 => h9) rfl dX2_sumWith_26 ?_
      refine lv_iload_n hx hb dX2_sumWith_29 rfl (lv_at hl 1 rfl) ?_
      refine lv_bipush (v := (10 : Int32)) hx hb dX2_sumWith_30 (by decide) ?_
      refine lv_imul hx hb dX2_sumWith_32 ?_
      refine lv_iload hx hb dX2_sumWith_33 (lv_at hl 4 rfl) ?_
      refine lv_iadd hx hb dX2_sumWith_35 ?_
      obtain ⟨h_2, hw⟩ := hw
      refine va_iald hx hb hK hP 5 3 rfl rfl h_2 dX2_sumWith_36 ?_
      refine lv_istore (lv' := [(5, .int (vP_otherSums ((x1 * (10 : Int32)) + x4).toNatClampNeg)), (0, .ref (ad 12)), (1, .int x1), (2, .int x2), (3, .int x3), (4, .int x4)]) hx hb dX2_sumWith_37 hl (by decide) rfl (fun ls hl => ?_)
      refine lv_iload_n hx hb dX2_sumWith_39 rfl (lv_at hl 4 rfl) ?_
      refine lv_iload hx hb dX2_sumWith_40 (lv_at hl 0 rfl) ?_
      refine lv_aload_n hx hb dX2_sumWith_42 rfl (lv_at hl 1 rfl) ?_
      refine va_get (D := D) (ci := 2) (v := .ref (ad 1)) (C := RX2) (T := TX2) (N := 8) hx hb hts inX2 hown hK hP 3 rfl rfl 0 (by decide) fl_30 (fun _ h9 => h9) rfl dX2_sumWith_43 ?_
      refine lv_iload_n hx hb dX2_sumWith_46 rfl (lv_at hl 3 rfl) ?_
      refine lv_aload_n hx hb dX2_sumWith_47 rfl (lv_at hl 1 rfl) ?_
      refine va_get (D := D) (ci := 2) (v := .ref (ad 14)) (C := RX2) (T := TX2) (N := 8) hx hb hts inX2 hown hK hP 3 rfl rfl 3 (by decide) fl_15 (fun _ h9 => h9) rfl dX2_sumWith_48 ?_
      refine lv_iload hx hb dX2_sumWith_51 (lv_at hl 5 rfl) ?_
      obtain ⟨h_3, hw⟩ := hw
      refine va_iald hx hb hK hP 4 2 rfl rfl h_3 dX2_sumWith_53 ?_
      refine pcV (rest := [.int (vP_otherSums ((x1 * (10 : Int32)) + x4).toNatClampNeg), .int x3]) (ci := 5) S0 (c_X5_steps l D ad cs s.heap.size vS_rows vS_columns x2 (vP_goalCells x4.toNatClampNeg) _ hw) (cwV 2 hts gX2_sumWith_X5_steps rfl rfl rfl (by decide +kernel) ⟨Nat.le_of_ble_eq_true rfl, Nat.le_of_ble_eq_true rfl⟩) hN hK hP hD [0, 1, 2] [0, 1] rfl rfl rfl 0 rfl rfl rfl rfl hl.1 (Nat.le_of_ble_eq_true rfl) ⟨Nat.le_of_ble_eq_true rfl, Nat.le_of_ble_eq_true rfl⟩ dX2_sumWith_54 (fun r_4 hw => ?_)
      refine lv_iadd hx hb dX2_sumWith_57 ?_
      refine va_mmin hx hb (hml.trans hl.1.symm) hown (hts (.methodLink RX2 55 Lib.Math.min.name) (by decide +kernel)) (hts (.static Lib.Math.min.name) (by decide +kernel)) (hts (.initialized "java/lang/Math") (by decide +kernel)) (hts (.code Lib.Math.min.name Lib.Math.min.code 2 (some .int)) (by decide +kernel)) (Nat.le_of_ble_eq_true rfl) (Nat.le_of_ble_eq_true rfl) (Nat.le_of_ble_eq_true rfl) (Nat.le_of_ble_eq_true rfl) dX2_sumWith_58 ?_
      refine lv_istore_n (lv' := [(3, .int (if ((vP_otherSums ((x1 * (10 : Int32)) + x4).toNatClampNeg) + r_4) < x3 then ((vP_otherSums ((x1 * (10 : Int32)) + x4).toNatClampNeg) + r_4) else x3)), (5, .int (vP_otherSums ((x1 * (10 : Int32)) + x4).toNatClampNeg)), (0, .ref (ad 12)), (1, .int x1), (2, .int x2), (4, .int x4)]) hx hb dX2_sumWith_61 rfl hl (by decide) rfl (fun ls hl => ?_)
      refine lv_iinc (v := (x4 + (1 : Int32))) (lv' := [(4, .int (x4 + (1 : Int32))), (3, .int (if ((vP_otherSums ((x1 * (10 : Int32)) + x4).toNatClampNeg) + r_4) < x3 then ((vP_otherSums ((x1 * (10 : Int32)) + x4).toNatClampNeg) + r_4) else x3)), (5, .int (vP_otherSums ((x1 * (10 : Int32)) + x4).toNatClampNeg)), (0, .ref (ad 12)), (1, .int x1), (2, .int x2)]) hx hb dX2_sumWith_62 hl (k := 5) rfl rfl (by decide) rfl (fun ls hl => ?_)
      refine lv_goto (tgt := 18) hx hb dX2_sumWith_65 (by decide) ?_
      exact hw _ (lv_sub hl [3, 4, 5, 1, 0] rfl)
  unfold wp_X2_sumWith at hw
  refine lv_ldc hx hb hown (hts (.constant RX2 48 (1000000)) (by decide +kernel)) dX2_sumWith_0 ?_
  refine lv_istore_n (lv' := [(3, .int (1000000 : Int32)), (0, .ref (ad 12)), (1, .int x1), (2, .int x2)]) hx hb dX2_sumWith_2 rfl hl (by decide) rfl (fun ls hl => ?_)
  refine lv_iload_n hx hb dX2_sumWith_3 rfl (lv_at hl 2 rfl) ?_
  refine lv_if_lt (tgt := 13) hx hb dX2_sumWith_4 (by decide) (fun c_5 => ?_) (fun c_5 => ?_)
  · have hw := hw.1 c_5
    refine lv_iload_n hx hb dX2_sumWith_13 rfl (lv_at hl 0 rfl) ?_
    exact hret _ _ _ hw dX2_sumWith_14
  · have hw := hw.2 c_5
    refine lv_iload_n hx hb dX2_sumWith_7 rfl (lv_at hl 2 rfl) ?_
    refine lv_bipush (v := (10 : Int32)) hx hb dX2_sumWith_8 (by decide) ?_
    refine lv_icmp_lt (tgt := 15) hx hb dX2_sumWith_10 (by decide) (fun c_6 => ?_) (fun c_6 => ?_)
    · have hw := hw.1 c_6
      refine lv_iconst (v := (0 : Int32)) hx hb dX2_sumWith_15 (by decide) ?_
      refine lv_istore (lv' := [(4, .int (0 : Int32)), (3, .int (1000000 : Int32)), (0, .ref (ad 12)), (1, .int x1), (2, .int x2)]) hx hb dX2_sumWith_16 hl (by decide) rfl (fun ls hl => ?_)
      refine hL18 x1 x2 _ (1000000 : Int32) (0 : Int32) hw ?_ _ (lv_sub hl [2, 3, 4, 1, 0] rfl)
      intro x3_7 hw ls hl
      refine lv_iload_n hx hb dX2_sumWith_68 rfl (lv_at hl 0 rfl) ?_
      exact hret _ _ _ hw dX2_sumWith_69
    · have hw := hw.2 c_6
      refine lv_iload_n hx hb dX2_sumWith_13 rfl (lv_at hl 0 rfl) ?_
      exact hret _ _ _ hw dX2_sumWith_14
set_option maxHeartbeats 4000000 in
set_option maxRecDepth 100000 in
theorem c_X2_sumWith (l : Launch) (D : va_G) (ad : Nat → Nat) (cs : Nat → ClassId) (sz : Nat) (vS_rows vS_columns vP_goalCells vP_otherSums : Nat → Int32) (x1 x2 : Int32) (Q : Int32 → Prop) (hw : wp_X2_sumWith vS_rows vS_columns vP_goalCells vP_otherSums x1 x2 Q) :
  Met l yX2_sumWith wsX2_sumWith rm_X2_sumWith (va_Pc [.ref (ad 12), .int x1, .int x2] (PX D (cl_X2_sumWith ad cs vS_rows vS_columns vP_goalCells vP_otherSums) (ty_X2_sumWith cs) sz)) (vp_Si Q) 0 0 (fun _ => False) := by
  refine Met.ofW (cc := cX2_sumWith) (maxL := 6) (ret := (some .int)) (by decide) rfl ?_
  intro p e s m args below meth c s₁ B hml hv
  obtain ⟨rfl, hsz, hP, hK, hD0, hN⟩ := hv
  subst hsz
  have hl := lv_entry ([.ref (ad 12), .int x1, .int x2]) (n := 6) (Nat.le_of_ble_eq_true rfl)
  rw [lg_entry_eq]
  have hx := B.exec
  have hb := B.bytes
  have hr := B.returns
  exact b_X2_sumWith l D ad cs vS_rows vS_columns vP_goalCells vP_otherSums x1 x2 Q hx hb hml (findClass_of_methodNamed B.named) (atoms_spec (ws := wsX2_sumWith) B.pre) hN hP hK hD0.self (fun q h => Or.inr h) hl (A := va_A (cl_X2_sumWith ad cs vS_rows vS_columns vP_goalCells vP_otherSums) s.heap.size) (fun r pc ls hq hd => W.iret (v := r) hx hb hr (fun t ht hW => ⟨r, rfl, hq, ht⟩) (fun _ h => nomatch h) hd) hw
