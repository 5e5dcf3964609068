abbrev rm_X6_isCell : Room := { frames := 0, cells := 0, slots := 0, locals := 0 }
abbrev cl_X6_isCell (ad : Nat → Nat) (cs : Nat → ClassId)  : va_W := []
abbrev ty_X6_isCell (cs : Nat → ClassId) : List (ClassId × FieldType) := []
def wp_X6_isCell (x0 : Int32) (Q : Int32 → Prop) : Prop :=
 ((x0 < 0 → Q (0 : Int32)) ∧
 (¬ x0 < 0 → (((121 : Int32) ≤ x0 → Q (0 : Int32)) ∧
 (¬ (121 : Int32) ≤ x0 → Q (1 : Int32)))))
set_option maxHeartbeats 4000000 in
set_option maxRecDepth 100000 in
theorem b_X6_isCell {p : Program} {e : Env} {s : State} {m : MethodId} {args : Array Value} {below : List Frame} {meth : Method} {c : Code} {QQ : State → Prop} {A : Nat → Prop} {ls : Array Slot} (l : Launch) (D : va_G) (ad : Nat → Nat) (cs : Nat → ClassId) (x0 : Int32) (Q : Int32 → Prop) (hx : p.tables.exec = Jvm.exec) (hb : c.code = cX6_isCell) (hml : c.maxLocals = 1) (hown : s.vm.findClass RX6 = some m.cls) (hts : ∀ w ∈ wsX6_isCell, w.before args s = true) (hN : NW s) (hP : va_P D vwCl (cl_X6_isCell ad cs) s.heap) (hK : va_K D vwCl (ty_X6_isCell cs) s) (hD : va_D A (cl_X6_isCell ad cs)) (hA : ∀ q : Nat, s.heap.size ≤ q → A q) (hl : lv_has ls 1 [(0, .int x0)])
  (hret : ∀ (r : Int32) (pc : Nat) (ls : Array Slot), nb r → Q r → decode cX6_isCell pc = .ok (.ireturn, 1) → W p l e rm_X6_isCell s m args below meth c s.heap [] 0 0 QQ (F0 m pc ls [.int r]))
  (hw : wp_X6_isCell x0 Q) :
  W p l e rm_X6_isCell s m args below meth c s.heap [] 0 0 QQ (F0 m 0 ls []) := by
  have S0 : CallFix p m c cX6_isCell 1 s args wsX6_isCell RX6 := ⟨hx, hb, hml, hown, hts⟩
  unfold wp_X6_isCell at hw
  refine lv_iload_n hx hb dX6_isCell_0 rfl (lv_at hl 0 rfl) ?_
  refine lv_if_lt (tgt := 14) hx hb dX6_isCell_1 (by decide) (fun c_1 => ?_) (fun c_1 => ?_)
  · have hw := hw.1 c_1
    refine lv_iconst (v := (0 : Int32)) hx hb dX6_isCell_14 (by decide) ?_
    exact hret _ _ _ nb_0 hw dX6_isCell_15
  · have hw := hw.2 c_1
    refine lv_iload_n hx hb dX6_isCell_4 rfl (lv_at hl 0 rfl) ?_
    refine lv_bipush (v := (121 : Int32)) hx hb dX6_isCell_5 (by decide) ?_
    refine lv_icmp_ge (tgt := 14) hx hb dX6_isCell_7 (by decide) (fun c_2 => ?_) (fun c_2 => ?_)
    · have hw := hw.1 c_2
      refine lv_iconst (v := (0 : Int32)) hx hb dX6_isCell_14 (by decide) ?_
      exact hret _ _ _ nb_0 hw dX6_isCell_15
    · have hw := hw.2 c_2
      refine lv_iconst (v := (1 : Int32)) hx hb dX6_isCell_10 (by decide) ?_
      refine lv_goto (tgt := 15) hx hb dX6_isCell_11 (by decide) ?_
      exact hret _ _ _ nb_1 hw dX6_isCell_15
set_option maxHeartbeats 4000000 in
set_option maxRecDepth 100000 in
theorem c_X6_isCell (l : Launch) (D : va_G) (ad : Nat → Nat) (cs : Nat → ClassId) (sz : Nat) (x0 : Int32) (Q : Int32 → Prop) (hw : wp_X6_isCell x0 Q) :
  Met l yX6_isCell wsX6_isCell rm_X6_isCell (va_Pc [.int x0] (PX D (cl_X6_isCell ad cs) (ty_X6_isCell cs) sz)) (vp_Si Q) 0 0 (fun _ => False) := by
  refine Met.ofW (cc := cX6_isCell) (maxL := 1) (ret := (some .boolean)) (by decide) rfl ?_
  intro p e s m args below meth c s₁ B hml hv
  obtain ⟨rfl, hsz, hP, hK, hD0, hN⟩ := hv
  subst hsz
  have hl := lv_entry ([.int x0]) (n := 1) (Nat.le_of_ble_eq_true rfl)
  rw [lg_entry_eq]
  have hx := B.exec
  have hb := B.bytes
  have hr := B.returns
  exact b_X6_isCell l D ad cs x0 Q hx hb hml (findClass_of_methodNamed B.named) (atoms_spec (ws := wsX6_isCell) B.pre) hN hP hK hD0.self (fun q h => Or.inr h) hl (A := va_A (cl_X6_isCell ad cs) s.heap.size) (fun r pc ls hn hq hd => W.zret (v := r) hx hb hr hn (fun t ht hW => ⟨r, rfl, hq, ht⟩) (fun _ h => nomatch h) hd) hw
abbrev rm_X1_owner : Room := { frames := 1, cells := 0, slots := 0, locals := 20 }
abbrev cl_X1_owner (ad : Nat → Nat) (cs : Nat → ClassId) (vM_owners : Nat → Int32) : va_W := [((ad 6), .inr (1, [.ref (ad 1), .ref (ad 7)])), ((ad 7), .inl ((cs 7), 121, .inl vM_owners))]
abbrev ty_X1_owner (cs : Nat → ClassId) : List (ClassId × FieldType) := [((cs 7), .int)]
def wp_X1_owner (vM_owners : Nat → Int32) (x1 : Int32) (Q : Int32 → Prop) : Prop :=
 wp_X6_isCell x1 (fun r_1 =>
 ((r_1 = 0 → Q (-1 : Int32)) ∧
 (¬ r_1 = 0 → (vp_in x1 121 ∧
 Q (vM_owners x1.toNatClampNeg)))))
set_option maxHeartbeats 4000000 in
set_option maxRecDepth 100000 in
theorem b_X1_owner {p : Program} {e : Env} {s : State} {m : MethodId} {args : Array Value} {below : List Frame} {meth : Method} {c : Code} {QQ : State → Prop} {A : Nat → Prop} {ls : Array Slot} (l : Launch) (D : va_G) (ad : Nat → Nat) (cs : Nat → ClassId) (vM_owners : Nat → Int32) (x1 : Int32) (Q : Int32 → Prop) (hx : p.tables.exec = Jvm.exec) (hb : c.code = cX1_owner) (hml : c.maxLocals = 2) (hown : s.vm.findClass RX1 = some m.cls) (hts : ∀ w ∈ wsX1_owner, w.before args s = true) (hN : NW s) (hP : va_P D vwCl (cl_X1_owner ad cs vM_owners) s.heap) (hK : va_K D vwCl (ty_X1_owner cs) s) (hD : va_D A (cl_X1_owner ad cs vM_owners)) (hA : ∀ q : Nat, s.heap.size ≤ q → A q) (hl : lv_has ls 2 [(0, .ref (ad 6)), (1, .int x1)])
  (hret : ∀ (r : Int32) (pc : Nat) (ls : Array Slot), Q r → decode cX1_owner pc = .ok (.ireturn, 1) → W p l e rm_X1_owner s m args below meth c s.heap [] 0 0 QQ (F0 m pc ls [.int r]))
  (hw : wp_X1_owner vM_owners x1 Q) :
  W p l e rm_X1_owner s m args below meth c s.heap [] 0 0 QQ (F0 m 0 ls []) := by
  have S0 : CallFix p m c cX1_owner 2 s args wsX1_owner RX1 := ⟨hx, hb, hml, hown, hts⟩
  have inX1 : ∀ w ∈ u_ws RX1 TX1 2, w ∈ wsX1_owner := by decide +kernel
  have fl_9 := hts (.fieldLink RX1 9 "HopperCourt$Marbles" "owners" "[I") (by decide +kernel)
  unfold wp_X1_owner at hw
  refine lv_iload_n hx hb dX1_owner_0 rfl (lv_at hl 1 rfl) ?_
  refine pcSN (rest := []) S0 (c_X6_isCell l D ad cs s.heap.size x1 _ hw) ⟨va_cnB (host := RX6) 1 hts gX1_owner_X6_isCell_n29 rfl rfl rfl hN.2.1 (hts (.initialized RX6) (by decide +kernel)) (by decide +kernel) ⟨Nat.le_of_ble_eq_true rfl, Nat.le_of_ble_eq_true rfl⟩, hts (.static yX6_isCell) (by decide +kernel), trivial⟩ hN hK hP hD [] [] rfl rfl rfl rfl rfl hl.1 (Nat.le_of_ble_eq_true rfl) ⟨Nat.le_of_ble_eq_true rfl, Nat.le_of_ble_eq_true rfl⟩ dX1_owner_1 (fun r_1 hw => ?_)
  refine lv_if_eq (tgt := 16) hx hb dX1_owner_4 (by decide) (fun c_2 => ?_) (fun c_2 => ?_)
  · have hw := hw.1 c_2
    refine lv_iconst (v := (-1 : Int32)) hx hb dX1_owner_16 (by decide) ?_
    exact hret _ _ _ hw dX1_owner_17
  · have hw := hw.2 c_2
    refine lv_aload_n hx hb dX1_owner_7 rfl (lv_at hl 0 rfl) ?_
    refine va_get (D := D) (ci := 1) (v := .ref (ad 7)) (C := RX1) (T := TX1) (N := 2) hx hb hts inX1 hown hK hP 0 rfl rfl 1 (by decide) fl_9 (fun _ h9 => h9) rfl dX1_owner_8 ?_
    refine lv_iload_n hx hb dX1_owner_11 rfl (lv_at hl 1 rfl) ?_
    obtain ⟨h_3, hw⟩ := hw
    refine va_iald hx hb hK hP 1 0 rfl rfl h_3 dX1_owner_12 ?_
    refine lv_goto (tgt := 17) hx hb dX1_owner_13 (by decide) ?_
    exact hret _ _ _ hw dX1_owner_17
set_option maxHeartbeats 4000000 in
set_option maxRecDepth 100000 in
theorem c_X1_owner (l : Launch) (D : va_G) (ad : Nat → Nat) (cs : Nat → ClassId) (sz : Nat) (vM_owners : Nat → Int32) (x1 : Int32) (Q : Int32 → Prop) (hw : wp_X1_owner vM_owners x1 Q) :
  Met l yX1_owner wsX1_owner rm_X1_owner (va_Pc [.ref (ad 6), .int x1] (PX D (cl_X1_owner ad cs vM_owners) (ty_X1_owner cs) sz)) (vp_Si Q) 0 0 (fun _ => False) := by
  refine Met.ofW (cc := cX1_owner) (maxL := 2) (ret := (some .int)) (by decide) rfl ?_
  intro p e s m args below meth c s₁ B hml hv
  obtain ⟨rfl, hsz, hP, hK, hD0, hN⟩ := hv
  subst hsz
  have hl := lv_entry ([.ref (ad 6), .int x1]) (n := 2) (Nat.le_of_ble_eq_true rfl)
  rw [lg_entry_eq]
  have hx := B.exec
  have hb := B.bytes
  have hr := B.returns
  exact b_X1_owner l D ad cs vM_owners x1 Q hx hb hml (findClass_of_methodNamed B.named) (atoms_spec (ws := wsX1_owner) B.pre) hN hP hK hD0.self (fun q h => Or.inr h) hl (A := va_A (cl_X1_owner ad cs vM_owners) s.heap.size) (fun r pc ls hq hd => W.iret (v := r) hx hb hr (fun t ht hW => ⟨r, rfl, hq, ht⟩) (fun _ h => nomatch h) hd) hw
abbrev rm_X3_countEnds : Room := { frames := 0, cells := 0, slots := 0, locals := 0 }
abbrev cl_X3_countEnds (ad : Nat → Nat) (cs : Nat → ClassId) (vR_hopsToEnd : Nat → Int32) : va_W := [((ad 8), .inr (3, [.ref (ad 1), .ref (ad 6), .ref (ad 9), .ref (ad 10), .ref (ad 11)])), ((ad 9), .inl ((cs 9), 121, .inl vR_hopsToEnd))]
abbrev ty_X3_countEnds (cs : Nat → ClassId) : List (ClassId × FieldType) := [((cs 9), .int)]
def wb_X3_countEnds_4 (vR_hopsToEnd : Nat → Int32) (K4 : Int32 → Prop) (P4 : Int32 → Int32 → Prop) (x1 x2 : Int32) : Prop :=
 (((121 : Int32) ≤ x2 → K4 x1) ∧
 (¬ (121 : Int32) ≤ x2 → (vp_in x2 121 ∧
 (((vR_hopsToEnd x2.toNatClampNeg) = (-1 : Int32) → P4 x1 (x2 + (1 : Int32))) ∧
 (¬ (vR_hopsToEnd x2.toNatClampNeg) = (-1 : Int32) → P4 (x1 + (1 : Int32)) (x2 + (1 : Int32)))))))
def wl_X3_countEnds_4 (vR_hopsToEnd : Nat → Int32) (K4 : Int32 → Prop) (x1 x2 : Int32) : Prop := ∀ P4 : Int32 → Int32 → Prop, (∀ (x1 x2 : Int32), wb_X3_countEnds_4 vR_hopsToEnd K4 P4 x1 x2 → P4 x1 x2) → P4 x1 x2
def wp_X3_countEnds (vR_hopsToEnd : Nat → Int32) (Q : Int32 → Prop) : Prop :=
 wl_X3_countEnds_4 vR_hopsToEnd (fun x1_4 => Q x1_4) (0 : Int32) (0 : Int32)
set_option maxHeartbeats 4000000 in
set_option maxRecDepth 100000 in
theorem b_X3_countEnds {p : Program} {e : Env} {s : State} {m : MethodId} {args : Array Value} {below : List Frame} {meth : Method} {c : Code} {QQ : State → Prop} {A : Nat → Prop} {ls : Array Slot} (l : Launch) (D : va_G) (ad : Nat → Nat) (cs : Nat → ClassId) (vR_hopsToEnd : Nat → Int32) (Q : Int32 → Prop) (hx : p.tables.exec = Jvm.exec) (hb : c.code = cX3_countEnds) (hml : c.maxLocals = 3) (hown : s.vm.findClass RX3 = some m.cls) (hts : ∀ w ∈ wsX3_countEnds, w.before args s = true) (hN : NW s) (hP : va_P D vwCl (cl_X3_countEnds ad cs vR_hopsToEnd) s.heap) (hK : va_K D vwCl (ty_X3_countEnds cs) s) (hD : va_D A (cl_X3_countEnds ad cs vR_hopsToEnd)) (hA : ∀ q : Nat, s.heap.size ≤ q → A q) (hl : lv_has ls 3 [(0, .ref (ad 8))])
  (hret : ∀ (r : Int32) (pc : Nat) (ls : Array Slot), Q r → decode cX3_countEnds pc = .ok (.ireturn, 1) → W p l e rm_X3_countEnds s m args below meth c s.heap [] 0 0 QQ (F0 m pc ls [.int r]))
  (hw : wp_X3_countEnds vR_hopsToEnd Q) :
  W p l e rm_X3_countEnds s m args below meth c s.heap [] 0 0 QQ (F0 m 0 ls []) := by
  have S0 : CallFix p m c cX3_countEnds 3 s args wsX3_countEnds RX3 := ⟨hx, hb, hml, hown, hts⟩
  have inX3 : ∀ w ∈ u_ws RX3 TX3 5, w ∈ wsX3_countEnds := by decide +kernel
  have fl_9 := hts (.fieldLink RX3 9 "HopperCourt$Reach" "hopsToEnd" "[I") (by decide +kernel)
  have hL4 : ∀ (K4 : Int32 → Prop) (x1 x2 : Int32), wl_X3_countEnds_4 vR_hopsToEnd K4 x1 x2 → (∀ (x1 : Int32), K4 x1 → ∀ (ls : Array Slot), lv_has ls 3 [(1, .int x1)] → W p l e rm_X3_countEnds s m args below meth c s.heap [] 0 0 QQ (F0 m 29 ls [])) → ∀ (ls : Array Slot), lv_has ls 3 [(0, .ref (ad 8)), (1, .int x1), (2, .int x2)] → W p l e rm_X3_countEnds s m args below meth c s.heap [] 0 0 QQ (F0 m 4 ls []) := by
    intro K4 x1 x2 hw hK4
    unfold wl_X3_countEnds_4 at hw
    refine hw (fun (x1 x2 : Int32) => ∀ (ls : Array Slot), lv_has ls 3 [(0, .ref (ad 8)), (1, .int x1), (2, .int x2)] → W p l e rm_X3_countEnds s m args below meth c s.heap [] 0 0 QQ (F0 m 4 ls [])) ?_
    intro x1 x2 hw ls hl
    unfold wb_X3_countEnds_4 at hw
    refine lv_iload_n hx hb dX3_countEnds_4 rfl (lv_at hl 2 rfl) ?_
    refine lv_bipush (v := (121 : Int32)) hx hb dX3_countEnds_5 (by decide) ?_
    refine lv_icmp_ge (tgt := 29) hx hb dX3_countEnds_7 (by decide) (fun c_1 => ?_) (fun c_1 => ?_)
    · have hw := hw.1 c_1
      exact hK4 x1 hw _ (lv_sub hl [1] rfl)
    · have hw := hw.2 c_1
      refine lv_aload_n hx hb dX3_countEnds_10 rfl (lv_at hl 0 rfl) ?_
      refine va_get (D := D) (ci := 3) (v := .ref (ad 9)) (C := RX3) (T := TX3) (N := 5) hx hb hts inX3 hown hK hP 0 rfl rfl 2 (by decide) fl_9 (fun _ h9 => h9) rfl dX3_countEnds_11 ?_
      refine lv_iload_n hx hb dX3_countEnds_14 rfl (lv_at hl 2 rfl) ?_
      obtain ⟨h_2, hw⟩ := hw
      refine va_iald hx hb hK hP 1 0 rfl rfl h_2 dX3_countEnds_15 ?_
      refine lv_iconst (v := (-1 : Int32)) hx hb dX3_countEnds_16 (by decide) ?_
      refine lv_icmp_eq (tgt := 23) hx hb dX3_countEnds_17 (by decide) (fun c_3 => ?_) (fun c_3 => ?_)
      · have hw := hw.1 c_3
        refine lv_iinc (v := (x2 + (1 : Int32))) (lv' := [(2, .int (x2 + (1 : Int32))), (0, .ref (ad 8)), (1, .int x1)]) hx hb dX3_countEnds_23 hl (k := 2) rfl rfl (by decide) rfl (fun ls hl => ?_)
        refine lv_goto (tgt := 4) hx hb dX3_countEnds_26 (by decide) ?_
        exact hw _ (lv_sub hl [1, 2, 0] rfl)
      · have hw := hw.2 c_3
        refine lv_iinc (v := (x1 + (1 : Int32))) (lv' := [(1, .int (x1 + (1 : Int32))), (0, .ref (ad 8)), (2, .int x2)]) hx hb dX3_countEnds_20 hl (k := 1) rfl rfl (by decide) rfl (fun ls hl => ?_)
        refine lv_iinc (v := (x2 + (1 : Int32))) (lv' := [(2, .int (x2 + (1 : Int32))), (1, .int (x1 + (1 : Int32))), (0, .ref (ad 8))]) hx hb dX3_countEnds_23 hl (k := 2) rfl rfl (by decide) rfl (fun ls hl => ?_)
        refine lv_goto (tgt := 4) hx hb dX3_countEnds_26 (by decide) ?_
        exact hw _ (lv_sub hl [2, 1, 0] rfl)
  unfold wp_X3_countEnds at hw
  refine lv_iconst (v := (0 : Int32)) hx hb dX3_countEnds_0 (by decide) ?_
  refine lv_istore_n (lv' := [(1, .int (0 : Int32)), (0, .ref (ad 8))]) hx hb dX3_countEnds_1 rfl hl (by decide) rfl (fun ls hl => ?_)
  refine lv_iconst (v := (0 : Int32)) hx hb dX3_countEnds_2 (by decide) ?_
  refine lv_istore_n (lv' := [(2, .int (0 : Int32)), (1, .int (0 : Int32)), (0, .ref (ad 8))]) hx hb dX3_countEnds_3 rfl hl (by decide) rfl (fun ls hl => ?_)
  refine hL4 _ (0 : Int32) (0 : Int32) hw ?_ _ (lv_sub hl [2, 1, 0] rfl)
  intro x1_4 hw ls hl
  refine lv_iload_n hx hb dX3_countEnds_29 rfl (lv_at hl 0 rfl) ?_
  exact hret _ _ _ hw dX3_countEnds_30
set_option maxHeartbeats 4000000 in
set_option maxRecDepth 100000 in
theorem c_X3_countEnds (l : Launch) (D : va_G) (ad : Nat → Nat) (cs : Nat → ClassId) (sz : Nat) (vR_hopsToEnd : Nat → Int32) (Q : Int32 → Prop) (hw : wp_X3_countEnds vR_hopsToEnd Q) :
  Met l yX3_countEnds wsX3_countEnds rm_X3_countEnds (va_Pc [.ref (ad 8)] (PX D (cl_X3_countEnds ad cs vR_hopsToEnd) (ty_X3_countEnds cs) sz)) (vp_Si Q) 0 0 (fun _ => False) := by
  refine Met.ofW (cc := cX3_countEnds) (maxL := 3) (ret := (some .int)) (by decide) rfl ?_
  intro p e s m args below meth c s₁ B hml hv
  obtain ⟨rfl, hsz, hP, hK, hD0, hN⟩ := hv
  subst hsz
  have hl := lv_entry ([.ref (ad 8)]) (n := 3) (Nat.le_of_ble_eq_true rfl)
  rw [lg_entry_eq]
  have hx := B.exec
  have hb := B.bytes
  have hr := B.returns
  exact b_X3_countEnds l D ad cs vR_hopsToEnd Q hx hb hml (findClass_of_methodNamed B.named) (atoms_spec (ws := wsX3_countEnds) B.pre) hN hP hK hD0.self (fun q h => Or.inr h) hl (A := va_A (cl_X3_countEnds ad cs vR_hopsToEnd) s.heap.size) (fun r pc ls hq hd => W.iret (v := r) hx hb hr (fun t ht hW => ⟨r, rfl, hq, ht⟩) (fun _ h => nomatch h) hd) hw
