abbrev rm_X7_thrown : Room := { frames := 0, cells := 0, slots := 0, locals := 0 }
abbrev cl_X7_thrown (ad : Nat → Nat) (cs : Nat → ClassId) (vZ_players vZ_fill vZ_patience vZ_turn vZ_made vZ_out vZ_finishers vZ_thrown : Int32) : va_W := [((ad 28), .inr (7, [.ref (ad 29), .ref (ad 30), .ref (ad 31), .ref (ad 32), .ref (ad 33), .ref (ad 34), .int vZ_players, .int vZ_fill, .int vZ_patience, .ref (ad 35), .int vZ_turn, .int vZ_made, .int vZ_out, .ref (ad 36), .int vZ_finishers, .ref (ad 37), .ref (ad 38), .ref (ad 39), .ref (ad 40), .ref (ad 41), .ref (ad 42), .ref (ad 43), .ref (ad 44), .ref (ad 45), .ref (ad 46), .ref (ad 47), .int vZ_thrown]))]
abbrev ty_X7_thrown (cs : Nat → ClassId) : List (ClassId × FieldType) := []
def wp_X7_thrown (vZ_players vZ_fill vZ_patience vZ_turn vZ_made vZ_out vZ_finishers vZ_thrown : Int32) (Q : Int32 → Prop) : Prop :=
 Q vZ_thrown
set_option maxHeartbeats 4000000 in
set_option maxRecDepth 100000 in
theorem b_X7_thrown {p : Program} {e : Env} {s : State} {m : MethodId} {args : Array Value} {below : List Frame} {meth : Method} {c : Code} {QQ : State → Prop} {A : Nat → Prop} {ls : Array Slot} (l : Launch) (D : va_G) (ad : Nat → Nat) (cs : Nat → ClassId) (vZ_players vZ_fill vZ_patience vZ_turn vZ_made vZ_out vZ_finishers vZ_thrown : Int32) (Q : Int32 → Prop) (hx : p.tables.exec = Jvm.exec) (hb : c.code = cX7_thrown) (hml : c.maxLocals = 1) (hown : s.vm.findClass RX7 = some m.cls) (hts : ∀ w ∈ wsX7_thrown, w.before args s = true) (hN : NW s) (hP : va_P D vwCl (cl_X7_thrown ad cs vZ_players vZ_fill vZ_patience vZ_turn vZ_made vZ_out vZ_finishers vZ_thrown) s.heap) (hK : va_K D vwCl (ty_X7_thrown cs) s) (hD : va_D A (cl_X7_thrown ad cs vZ_players vZ_fill vZ_patience vZ_turn vZ_made vZ_out vZ_finishers vZ_thrown)) (hA : ∀ q : Nat, s.heap.size ≤ q → A q) (hl : lv_has ls 1 [(0, .ref (ad 28))])
  (hret : ∀ (r : Int32) (pc : Nat) (ls : Array Slot), Q r → decode cX7_thrown pc = .ok (.ireturn, 1) → W p l e rm_X7_thrown s m args below meth c s.heap [] 0 0 QQ (F0 m pc ls [.int r]))
  (hw : wp_X7_thrown vZ_players vZ_fill vZ_patience vZ_turn vZ_made vZ_out vZ_finishers vZ_thrown Q) :
  W p l e rm_X7_thrown s m args below meth c s.heap [] 0 0 QQ (F0 m 0 ls []) := by
  have S0 : CallFix p m c cX7_thrown 1 s args wsX7_thrown RX7 := ⟨hx, hb, hml, hown, hts⟩
  have inX7 : ∀ w ∈ u_ws RX7 TX7 27, w ∈ wsX7_thrown := by decide +kernel
  have fl_86 := hts (.fieldLink RX7 86 "HopperCourtModel" "thrown" "I") (by decide +kernel)
  unfold wp_X7_thrown at hw
  refine lv_aload_n hx hb dX7_thrown_0 rfl (lv_at hl 0 rfl) ?_
  refine va_get (D := D) (ci := 7) (v := .int vZ_thrown) (C := RX7) (T := TX7) (N := 27) hx hb hts inX7 hown hK hP 0 rfl rfl 26 (by decide) fl_86 (fun _ h9 => h9) rfl dX7_thrown_1 ?_
  exact hret _ _ _ hw dX7_thrown_4
set_option maxHeartbeats 4000000 in
set_option maxRecDepth 100000 in
theorem c_X7_thrown (l : Launch) (D : va_G) (ad : Nat → Nat) (cs : Nat → ClassId) (sz : Nat) (vZ_players vZ_fill vZ_patience vZ_turn vZ_made vZ_out vZ_finishers vZ_thrown : Int32) (Q : Int32 → Prop) (hw : wp_X7_thrown vZ_players vZ_fill vZ_patience vZ_turn vZ_made vZ_out vZ_finishers vZ_thrown Q) :
  Met l yX7_thrown wsX7_thrown rm_X7_thrown (va_Pc [.ref (ad 28)] (PX D (cl_X7_thrown ad cs vZ_players vZ_fill vZ_patience vZ_turn vZ_made vZ_out vZ_finishers vZ_thrown) (ty_X7_thrown cs) sz)) (vp_Si Q) 0 0 (fun _ => False) := by
  refine Met.ofW (cc := cX7_thrown) (maxL := 1) (ret := (some .int)) (by decide) rfl ?_
  intro p e s m args below meth c s₁ B hml hv
  obtain ⟨rfl, hsz, hP, hK, hD0, hN⟩ := hv
  subst hsz
  have hl := lv_entry ([.ref (ad 28)]) (n := 1) (Nat.le_of_ble_eq_true rfl)
  rw [lg_entry_eq]
  have hx := B.exec
  have hb := B.bytes
  have hr := B.returns
  exact b_X7_thrown l D ad cs vZ_players vZ_fill vZ_patience vZ_turn vZ_made vZ_out vZ_finishers vZ_thrown Q hx hb hml (findClass_of_methodNamed B.named) (atoms_spec (ws := wsX7_thrown) B.pre) hN hP hK hD0.self (fun q h => Or.inr h) hl (A := va_A (cl_X7_thrown ad cs vZ_players vZ_fill vZ_patience vZ_turn vZ_made vZ_out vZ_finishers vZ_thrown) s.heap.size) (fun r pc ls hq hd => W.iret (v := r) hx hb hr (fun t ht hW => ⟨r, rfl, hq, ht⟩) (fun _ h => nomatch h) hd) hw
abbrev rm_X7_can : Room := { frames := 0, cells := 0, slots := 0, locals := 0 }
abbrev cl_X7_can (ad : Nat → Nat) (cs : Nat → ClassId) (vZ_players vZ_fill vZ_patience vZ_turn vZ_made vZ_out vZ_finishers vZ_thrown : Int32) : va_W := [((ad 28), .inr (7, [.ref (ad 29), .ref (ad 30), .ref (ad 31), .ref (ad 32), .ref (ad 33), .ref (ad 34), .int vZ_players, .int vZ_fill, .int vZ_patience, .ref (ad 35), .int vZ_turn, .int vZ_made, .int vZ_out, .ref (ad 36), .int vZ_finishers, .ref (ad 37), .ref (ad 38), .ref (ad 39), .ref (ad 40), .ref (ad 41), .ref (ad 42), .ref (ad 43), .ref (ad 44), .ref (ad 45), .ref (ad 46), .ref (ad 47), .int vZ_thrown]))]
abbrev ty_X7_can (cs : Nat → ClassId) : List (ClassId × FieldType) := []
def wp_X7_can (vZ_players vZ_fill vZ_patience vZ_turn vZ_made vZ_out vZ_finishers vZ_thrown x1 : Int32) (Q : Int32 → Int32 → Prop) : Prop :=
 ((¬ x1 = 0 → Q (0 : Int32) x1) ∧
 (x1 = 0 → Q (1 : Int32) x1))
set_option maxHeartbeats 4000000 in
set_option maxRecDepth 100000 in
theorem b_X7_can {p : Program} {e : Env} {s : State} {m : MethodId} {args : Array Value} {below : List Frame} {meth : Method} {c : Code} {QQ : State → Prop} {A : Nat → Prop} {ls : Array Slot} (l : Launch) (D : va_G) (ad : Nat → Nat) (cs : Nat → ClassId) (vZ_players vZ_fill vZ_patience vZ_turn vZ_made vZ_out vZ_finishers vZ_thrown x1 : Int32) (Q : Int32 → Int32 → Prop) (hx : p.tables.exec = Jvm.exec) (hb : c.code = cX7_can) (hml : c.maxLocals = 2) (hown : s.vm.findClass RX7 = some m.cls) (hts : ∀ w ∈ wsX7_can, w.before args s = true) (hN : NW s) (hP : va_P D vwCl (cl_X7_can ad cs vZ_players vZ_fill vZ_patience vZ_turn vZ_made vZ_out vZ_finishers vZ_thrown) s.heap) (hK : va_K D vwCl (ty_X7_can cs) s) (hD : va_D A (cl_X7_can ad cs vZ_players vZ_fill vZ_patience vZ_turn vZ_made vZ_out vZ_finishers vZ_thrown)) (hA : ∀ q : Nat, s.heap.size ≤ q → A q) (hl : lv_has ls 2 [(0, .ref (ad 28)), (1, .int x1)])
  (hret : ∀ (r : Int32) (o0 : Int32) (H : Heap) (locs : List Loc) (pc : Nat) (ls : Array Slot), nb r → Q r o0 → va_P D vwCl (cl_X7_can ad cs vZ_players vZ_fill vZ_patience vZ_turn vZ_made vZ_out vZ_finishers o0) H → va_D A (cl_X7_can ad cs vZ_players vZ_fill vZ_patience vZ_turn vZ_made vZ_out vZ_finishers o0) → va_S A s.heap H locs → decode cX7_can pc = .ok (.ireturn, 1) → W p l e rm_X7_can s m args below meth c H locs 0 0 QQ (F0 m pc ls [.int r]))
  (hw : wp_X7_can vZ_players vZ_fill vZ_patience vZ_turn vZ_made vZ_out vZ_finishers vZ_thrown x1 Q) :
  W p l e rm_X7_can s m args below meth c s.heap [] 0 0 QQ (F0 m 0 ls []) := by
  have S0 : CallFix p m c cX7_can 2 s args wsX7_can RX7 := ⟨hx, hb, hml, hown, hts⟩
  have inX7 : ∀ w ∈ u_ws RX7 TX7 27, w ∈ wsX7_can := by decide +kernel
  have fl_86 := hts (.fieldLink RX7 86 "HopperCourtModel" "thrown" "I") (by decide +kernel)
  obtain ⟨H, hH⟩ : ∃ H : Heap, H = s.heap := ⟨_, rfl⟩
  have hS : va_S A s.heap H [] := by rw [hH]; exact va_S.rf
  rw [← hH] at hP ⊢
  unfold wp_X7_can at hw
  refine lv_aload_n hx hb dX7_can_0 rfl (lv_at hl 0 rfl) ?_
  refine lv_iload_n hx hb dX7_can_1 rfl (lv_at hl 1 rfl) ?_
  refine va_put (D := D) (ci := 7) (v := .int x1) (ty := .int) (C := RX7) (T := TX7) (N := 27) hx hb hts inX7 tyX7 tyX7_ok nmX7 hown hK hP hD hS 0 rfl rfl 26 (by decide) fl_86 (fun _ h9 => h9) rfl (by decide +kernel) rfl rfl (Nat.le_of_ble_eq_true rfl) dX7_can_2 (fun H locs hP hD hS => ?_)
  have hP : va_P D vwCl (cl_X7_can ad cs vZ_players vZ_fill vZ_patience vZ_turn vZ_made vZ_out vZ_finishers x1) H := hP
  have hD : va_D A (cl_X7_can ad cs vZ_players vZ_fill vZ_patience vZ_turn vZ_made vZ_out vZ_finishers x1) := hD
  refine lv_iload_n hx hb dX7_can_5 rfl (lv_at hl 1 rfl) ?_
  refine lv_if_ne (tgt := 13) hx hb dX7_can_6 (by decide) (fun c_1 => ?_) (fun c_1 => ?_)
  · have hw := hw.1 c_1
    refine lv_iconst (v := (0 : Int32)) hx hb dX7_can_13 (by decide) ?_
    exact hret _ _ _ _ _ _ nb_0 hw hP hD hS dX7_can_14
  · have hw := hw.2 c_1
    refine lv_iconst (v := (1 : Int32)) hx hb dX7_can_9 (by decide) ?_
    refine lv_goto (tgt := 14) hx hb dX7_can_10 (by decide) ?_
    exact hret _ _ _ _ _ _ nb_1 hw hP hD hS dX7_can_14
set_option maxHeartbeats 4000000 in
set_option maxRecDepth 100000 in
theorem c_X7_can (l : Launch) (D : va_G) (ad : Nat → Nat) (cs : Nat → ClassId) (sz : Nat) (vZ_players vZ_fill vZ_patience vZ_turn vZ_made vZ_out vZ_finishers vZ_thrown x1 : Int32) (Q : Int32 → Int32 → Prop) (hw : wp_X7_can vZ_players vZ_fill vZ_patience vZ_turn vZ_made vZ_out vZ_finishers vZ_thrown x1 Q) :
  Met l yX7_can wsX7_can rm_X7_can (va_Pc [.ref (ad 28), .int x1] (PX D (cl_X7_can ad cs vZ_players vZ_fill vZ_patience vZ_turn vZ_made vZ_out vZ_finishers vZ_thrown) (ty_X7_can cs) sz)) (va_Qi (fun (r : Int32) (u : Int32) => Q r u) (fun (u : Int32) t => va_P D vwCl (cl_X7_can ad cs vZ_players vZ_fill vZ_patience vZ_turn vZ_made vZ_out vZ_finishers u) t.heap ∧ va_D (va_A (cl_X7_can ad cs vZ_players vZ_fill vZ_patience vZ_turn vZ_made vZ_out vZ_finishers vZ_thrown) sz) (cl_X7_can ad cs vZ_players vZ_fill vZ_patience vZ_turn vZ_made vZ_out vZ_finishers u)) (va_A (cl_X7_can ad cs vZ_players vZ_fill vZ_patience vZ_turn vZ_made vZ_out vZ_finishers vZ_thrown) sz)) 0 0 (va_A (cl_X7_can ad cs vZ_players vZ_fill vZ_patience vZ_turn vZ_made vZ_out vZ_finishers vZ_thrown) sz) := by
  refine Met.ofW (cc := cX7_can) (maxL := 2) (ret := (some .boolean)) (by decide) rfl ?_
  intro p e s m args below meth c s₁ B hml hv
  obtain ⟨rfl, hsz, hP, hK, hD0, hN⟩ := hv
  subst hsz
  have hl := lv_entry ([.ref (ad 28), .int x1]) (n := 2) (Nat.le_of_ble_eq_true rfl)
  rw [lg_entry_eq]
  have hx := B.exec
  have hb := B.bytes
  have hr := B.returns
  exact b_X7_can l D ad cs vZ_players vZ_fill vZ_patience vZ_turn vZ_made vZ_out vZ_finishers vZ_thrown x1 Q hx hb hml (findClass_of_methodNamed B.named) (atoms_spec (ws := wsX7_can) B.pre) hN hP hK hD0.self (fun q h => Or.inr h) hl (fun r o0 H locs pc ls hn hq hP hD hS hd => W.zret (v := r) hx hb hr hn (fun t ht hW => ⟨⟨r, o0, rfl, hq, by rw [ht]; exact hP, hD⟩, hS.F ht⟩) hS.2.2 hd) hw
abbrev rm_X7_isIn : Room := { frames := 0, cells := 0, slots := 0, locals := 0 }
abbrev cl_X7_isIn (ad : Nat → Nat) (cs : Nat → ClassId)  : va_W := []
abbrev ty_X7_isIn (cs : Nat → ClassId) : List (ClassId × FieldType) := []
def wp_X7_isIn (x0 x1 x2 : Int32) (Q : Int32 → Prop) : Prop :=
 ((x0 < x1 → Q (0 : Int32)) ∧
 (¬ x0 < x1 → ((x2 < x0 → Q (0 : Int32)) ∧
 (¬ x2 < x0 → Q (1 : Int32)))))
set_option maxHeartbeats 4000000 in
set_option maxRecDepth 100000 in
theorem b_X7_isIn {p : Program} {e : Env} {s : State} {m : MethodId} {args : Array Value} {below : List Frame} {meth : Method} {c : Code} {QQ : State → Prop} {A : Nat → Prop} {ls : Array Slot} (l : Launch) (D : va_G) (ad : Nat → Nat) (cs : Nat → ClassId) (x0 x1 x2 : Int32) (Q : Int32 → Prop) (hx : p.tables.exec = Jvm.exec) (hb : c.code = cX7_isIn) (hml : c.maxLocals = 3) (hown : s.vm.findClass RX7 = some m.cls) (hts : ∀ w ∈ wsX7_isIn, w.before args s = true) (hN : NW s) (hP : va_P D vwCl (cl_X7_isIn ad cs) s.heap) (hK : va_K D vwCl (ty_X7_isIn cs) s) (hD : va_D A (cl_X7_isIn ad cs)) (hA : ∀ q : Nat, s.heap.size ≤ q → A q) (hl : lv_has ls 3 [(0, .int x0), (1, .int x1), (2, .int x2)])
  (hret : ∀ (r : Int32) (pc : Nat) (ls : Array Slot), nb r → Q r → decode cX7_isIn pc = .ok (.ireturn, 1) → W p l e rm_X7_isIn s m args below meth c s.heap [] 0 0 QQ (F0 m pc ls [.int r]))
  (hw : wp_X7_isIn x0 x1 x2 Q) :
  W p l e rm_X7_isIn s m args below meth c s.heap [] 0 0 QQ (F0 m 0 ls []) := by
  have S0 : CallFix p m c cX7_isIn 3 s args wsX7_isIn RX7 := ⟨hx, hb, hml, hown, hts⟩
  unfold wp_X7_isIn at hw
  refine lv_iload_n hx hb dX7_isIn_0 rfl (lv_at hl 0 rfl) ?_
  refine lv_iload_n hx hb dX7_isIn_1 rfl (lv_at hl 1 rfl) ?_
  refine lv_icmp_lt (tgt := 14) hx hb dX7_isIn_2 (by decide) (fun c_1 => ?_) (fun c_1 => ?_)
  · have hw := hw.1 c_1
    refine lv_iconst (v := (0 : Int32)) hx hb dX7_isIn_14 (by decide) ?_
    exact hret _ _ _ nb_0 hw dX7_isIn_15
  · have hw := hw.2 c_1
    refine lv_iload_n hx hb dX7_isIn_5 rfl (lv_at hl 0 rfl) ?_
    refine lv_iload_n hx hb dX7_isIn_6 rfl (lv_at hl 2 rfl) ?_
    refine lv_icmp_gt (tgt := 14) hx hb dX7_isIn_7 (by decide) (fun c_2 => ?_) (fun c_2 => ?_)
    · have hw := hw.1 c_2
      refine lv_iconst (v := (0 : Int32)) hx hb dX7_isIn_14 (by decide) ?_
      exact hret _ _ _ nb_0 hw dX7_isIn_15
    · have hw := hw.2 c_2
      refine lv_iconst (v := (1 : Int32)) hx hb dX7_isIn_10 (by decide) ?_
      refine lv_goto (tgt := 15) hx hb dX7_isIn_11 (by decide) ?_
      exact hret _ _ _ nb_1 hw dX7_isIn_15
set_option maxHeartbeats 4000000 in
set_option maxRecDepth 100000 in
theorem c_X7_isIn (l : Launch) (D : va_G) (ad : Nat → Nat) (cs : Nat → ClassId) (sz : Nat) (x0 x1 x2 : Int32) (Q : Int32 → Prop) (hw : wp_X7_isIn x0 x1 x2 Q) :
  Met l yX7_isIn wsX7_isIn rm_X7_isIn (va_Pc [.int x0, .int x1, .int x2] (PX D (cl_X7_isIn ad cs) (ty_X7_isIn cs) sz)) (vp_Si Q) 0 0 (fun _ => False) := by
  refine Met.ofW (cc := cX7_isIn) (maxL := 3) (ret := (some .boolean)) (by decide) rfl ?_
  intro p e s m args below meth c s₁ B hml hv
  obtain ⟨rfl, hsz, hP, hK, hD0, hN⟩ := hv
  subst hsz
  have hl := lv_entry ([.int x0, .int x1, .int x2]) (n := 3) (Nat.le_of_ble_eq_true rfl)
  rw [lg_entry_eq]
  have hx := B.exec
  have hb := B.bytes
  have hr := B.returns
  exact b_X7_isIn l D ad cs x0 x1 x2 Q hx hb hml (findClass_of_methodNamed B.named) (atoms_spec (ws := wsX7_isIn) B.pre) hN hP hK hD0.self (fun q h => Or.inr h) hl (A := va_A (cl_X7_isIn ad cs) s.heap.size) (fun r pc ls hn hq hd => W.zret (v := r) hx hb hr hn (fun t ht hW => ⟨r, rfl, hq, ht⟩) (fun _ h => nomatch h) hd) hw
abbrev rm_X7_isCell : Room := { frames := 1, cells := 0, slots := 0, locals := 22 }
abbrev cl_X7_isCell (ad : Nat → Nat) (cs : Nat → ClassId)  : va_W := []
abbrev ty_X7_isCell (cs : Nat → ClassId) : List (ClassId × FieldType) := []
def wp_X7_isCell (x0 : Int32) (Q : Int32 → Prop) : Prop :=
 wp_X7_isIn x0 (0 : Int32) (120 : Int32) (fun r_1 =>
 (nb r_1 ∧ Q r_1))
set_option maxHeartbeats 4000000 in
set_option maxRecDepth 100000 in
theorem b_X7_isCell {p : Program} {e : Env} {s : State} {m : MethodId} {args : Array Value} {below : List Frame} {meth : Method} {c : Code} {QQ : State → Prop} {A : Nat → Prop} {ls : Array Slot} (l : Launch) (D : va_G) (ad : Nat → Nat) (cs : Nat → ClassId) (x0 : Int32) (Q : Int32 → Prop) (hx : p.tables.exec = Jvm.exec) (hb : c.code = cX7_isCell) (hml : c.maxLocals = 1) (hown : s.vm.findClass RX7 = some m.cls) (hts : ∀ w ∈ wsX7_isCell, w.before args s = true) (hN : NW s) (hP : va_P D vwCl (cl_X7_isCell ad cs) s.heap) (hK : va_K D vwCl (ty_X7_isCell cs) s) (hD : va_D A (cl_X7_isCell ad cs)) (hA : ∀ q : Nat, s.heap.size ≤ q → A q) (hl : lv_has ls 1 [(0, .int x0)])
  (hret : ∀ (r : Int32) (pc : Nat) (ls : Array Slot), nb r → Q r → decode cX7_isCell pc = .ok (.ireturn, 1) → W p l e rm_X7_isCell s m args below meth c s.heap [] 0 0 QQ (F0 m pc ls [.int r]))
  (hw : wp_X7_isCell x0 Q) :
  W p l e rm_X7_isCell s m args below meth c s.heap [] 0 0 QQ (F0 m 0 ls []) := by
  have S0 : CallFix p m c cX7_isCell 1 s args wsX7_isCell RX7 := ⟨hx, hb, hml, hown, hts⟩
  unfold wp_X7_isCell at hw
  refine lv_iload_n hx hb dX7_isCell_0 rfl (lv_at hl 0 rfl) ?_
  refine lv_iconst (v := (0 : Int32)) hx hb dX7_isCell_1 (by decide) ?_
  refine lv_bipush (v := (120 : Int32)) hx hb dX7_isCell_2 (by decide) ?_
  refine pcS (rest := []) S0 (c_X7_isIn l D ad cs s.heap.size x0 (0 : Int32) (120 : Int32) _ hw) (va_cwS 3 hts gX7_isCell_X7_isIn rfl rfl rfl (by decide +kernel) ⟨Nat.le_of_ble_eq_true rfl, Nat.le_of_ble_eq_true rfl⟩) hN hK hP hD [] [] rfl rfl rfl rfl rfl hl.1 (Nat.le_of_ble_eq_true rfl) ⟨Nat.le_of_ble_eq_true rfl, Nat.le_of_ble_eq_true rfl⟩ dX7_isCell_4 (fun r_1 hw => ?_)
  obtain ⟨h_2, hw⟩ := hw
  exact hret _ _ _ h_2 hw dX7_isCell_7
set_option maxHeartbeats 4000000 in
set_option maxRecDepth 100000 in
theorem c_X7_isCell (l : Launch) (D : va_G) (ad : Nat → Nat) (cs : Nat → ClassId) (sz : Nat) (x0 : Int32) (Q : Int32 → Prop) (hw : wp_X7_isCell x0 Q) :
  Met l yX7_isCell wsX7_isCell rm_X7_isCell (va_Pc [.int x0] (PX D (cl_X7_isCell ad cs) (ty_X7_isCell cs) sz)) (vp_Si Q) 0 0 (fun _ => False) := by
  refine Met.ofW (cc := cX7_isCell) (maxL := 1) (ret := (some .boolean)) (by decide) rfl ?_
  intro p e s m args below meth c s₁ B hml hv
  obtain ⟨rfl, hsz, hP, hK, hD0, hN⟩ := hv
  subst hsz
  have hl := lv_entry ([.int x0]) (n := 1) (Nat.le_of_ble_eq_true rfl)
  rw [lg_entry_eq]
  have hx := B.exec
  have hb := B.bytes
  have hr := B.returns
  exact b_X7_isCell l D ad cs x0 Q hx hb hml (findClass_of_methodNamed B.named) (atoms_spec (ws := wsX7_isCell) B.pre) hN hP hK hD0.self (fun q h => Or.inr h) hl (A := va_A (cl_X7_isCell ad cs) s.heap.size) (fun r pc ls hn hq hd => W.zret (v := r) hx hb hr hn (fun t ht hW => ⟨r, rfl, hq, ht⟩) (fun _ h => nomatch h) hd) hw
abbrev rm_X7_campAt : Room := { frames := 0, cells := 0, slots := 0, locals := 0 }
abbrev cl_X7_campAt (ad : Nat → Nat) (cs : Nat → ClassId)  : va_W := []
abbrev ty_X7_campAt (cs : Nat → ClassId) : List (ClassId × FieldType) := []
def wJ_X7_campAt_11 (x0 : Int32) (Q : Int32 → Prop) : Prop :=
 (((4 : Int32) ≤ x0 → Q (3 : Int32)) ∧
 (¬ (4 : Int32) ≤ x0 → Q (0 : Int32)))
def wp_X7_campAt (x0 x1 : Int32) (Q : Int32 → Prop) : Prop :=
 ((x0 < (4 : Int32) → wJ_X7_campAt_11 x0 Q) ∧
 (¬ x0 < (4 : Int32) → ((x0 ≤ (12 : Int32) → (((8 : Int32) ≤ x0 → ((¬ x0 = (8 : Int32) → ((x1 < ((30 : Int32) - x0) → (((x0 - (6 : Int32)) < x1 → Q (-1 : Int32)) ∧
 (¬ (x0 - (6 : Int32)) < x1 → Q (4 : Int32)))) ∧
 (¬ x1 < ((30 : Int32) - x0) → Q (2 : Int32)))) ∧
 (x0 = (8 : Int32) → Q (-1 : Int32)))) ∧
 (¬ (8 : Int32) ≤ x0 → ((x1 < ((14 : Int32) + x0) → ((((10 : Int32) - x0) < x1 → Q (-1 : Int32)) ∧
 (¬ ((10 : Int32) - x0) < x1 → Q (5 : Int32)))) ∧
 (¬ x1 < ((14 : Int32) + x0) → Q (1 : Int32)))))) ∧
 (¬ x0 ≤ (12 : Int32) → wJ_X7_campAt_11 x0 Q))))
set_option maxHeartbeats 4000000 in
set_option maxRecDepth 100000 in
theorem b_X7_campAt {p : Program} {e : Env} {s : State} {m : MethodId} {args : Array Value} {below : List Frame} {meth : Method} {c : Code} {QQ : State → Prop} {A : Nat → Prop} {ls : Array Slot} (l : Launch) (D : va_G) (ad : Nat → Nat) (cs : Nat → ClassId) (x0 x1 : Int32) (Q : Int32 → Prop) (hx : p.tables.exec = Jvm.exec) (hb : c.code = cX7_campAt) (hml : c.maxLocals = 2) (hown : s.vm.findClass RX7 = some m.cls) (hts : ∀ w ∈ wsX7_campAt, w.before args s = true) (hN : NW s) (hP : va_P D vwCl (cl_X7_campAt ad cs) s.heap) (hK : va_K D vwCl (ty_X7_campAt cs) s) (hD : va_D A (cl_X7_campAt ad cs)) (hA : ∀ q : Nat, s.heap.size ≤ q → A q) (hl : lv_has ls 2 [(0, .int x0), (1, .int x1)])
  (hret : ∀ (r : Int32) (pc : Nat) (ls : Array Slot), Q r → decode cX7_campAt pc = .ok (.ireturn, 1) → W p l e rm_X7_campAt s m args below meth c s.heap [] 0 0 QQ (F0 m pc ls [.int r]))
  (hw : wp_X7_campAt x0 x1 Q) :
  W p l e rm_X7_campAt s m args below meth c s.heap [] 0 0 QQ (F0 m 0 ls []) := by
  have S0 : CallFix p m c cX7_campAt 2 s args wsX7_campAt RX7 := ⟨hx, hb, hml, hown, hts⟩
  have hJ11 : ∀ (x0 : Int32), wJ_X7_campAt_11 x0 Q → ∀ (ls : Array Slot), lv_has ls 2 [(0, .int x0)] → W p l e rm_X7_campAt s m args below meth c s.heap [] 0 0 QQ (F0 m 11 ls []) := by
    intro x0 hw  ls hl
    unfold wJ_X7_campAt_11 at hw
    refine lv_iload_n hx hb dX7_campAt_11 rfl (lv_at hl 0 rfl) ?_
    refine lv_iconst (v := (4 : Int32)) hx hb dX7_campAt_12 (by decide) ?_
    refine lv_icmp_ge (tgt := 20) hx hb dX7_campAt_13 (by decide) (fun c_1 => ?_) (fun c_1 => ?_)
    · have hw := hw.1 c_1
      refine lv_iconst (v := (3 : Int32)) hx hb dX7_campAt_20 (by decide) ?_
      exact hret _ _ _ hw dX7_campAt_21
    · have hw := hw.2 c_1
      refine lv_iconst (v := (0 : Int32)) hx hb dX7_campAt_16 (by decide) ?_
      refine lv_goto (tgt := 21) hx hb dX7_campAt_17 (by decide) ?_
      exact hret _ _ _ hw dX7_campAt_21
  unfold wp_X7_campAt at hw
  refine lv_iload_n hx hb dX7_campAt_0 rfl (lv_at hl 0 rfl) ?_
  refine lv_iconst (v := (4 : Int32)) hx hb dX7_campAt_1 (by decide) ?_
  refine lv_icmp_lt (tgt := 11) hx hb dX7_campAt_2 (by decide) (fun c_2 => ?_) (fun c_2 => ?_)
  · have hw := hw.1 c_2
    exact hJ11 x0 hw _ (lv_sub hl [0] rfl)
  · have hw := hw.2 c_2
    refine lv_iload_n hx hb dX7_campAt_5 rfl (lv_at hl 0 rfl) ?_
    refine lv_bipush (v := (12 : Int32)) hx hb dX7_campAt_6 (by decide) ?_
    refine lv_icmp_le (tgt := 22) hx hb dX7_campAt_8 (by decide) (fun c_3 => ?_) (fun c_3 => ?_)
    · have hw := hw.1 c_3
      refine lv_iload_n hx hb dX7_campAt_22 rfl (lv_at hl 0 rfl) ?_
      refine lv_bipush (v := (8 : Int32)) hx hb dX7_campAt_23 (by decide) ?_
      refine lv_icmp_ge (tgt := 54) hx hb dX7_campAt_25 (by decide) (fun c_4 => ?_) (fun c_4 => ?_)
      · have hw := hw.1 c_4
        refine lv_iload_n hx hb dX7_campAt_54 rfl (lv_at hl 0 rfl) ?_
        refine lv_bipush (v := (8 : Int32)) hx hb dX7_campAt_55 (by decide) ?_
        refine lv_icmp_ne (tgt := 64) hx hb dX7_campAt_57 (by decide) (fun c_5 => ?_) (fun c_5 => ?_)
        · have hw := hw.1 c_5
          refine lv_iload_n hx hb dX7_campAt_64 rfl (lv_at hl 1 rfl) ?_
          refine lv_bipush (v := (30 : Int32)) hx hb dX7_campAt_65 (by decide) ?_
          refine lv_iload_n hx hb dX7_campAt_67 rfl (lv_at hl 0 rfl) ?_
          refine lv_isub hx hb dX7_campAt_68 ?_
          refine lv_icmp_lt (tgt := 76) hx hb dX7_campAt_69 (by decide) (fun c_6 => ?_) (fun c_6 => ?_)
          · have hw := hw.1 c_6
            refine lv_iload_n hx hb dX7_campAt_76 rfl (lv_at hl 1 rfl) ?_
            refine lv_iload_n hx hb dX7_campAt_77 rfl (lv_at hl 0 rfl) ?_
            refine lv_bipush (v := (6 : Int32)) hx hb dX7_campAt_78 (by decide) ?_
            refine lv_isub hx hb dX7_campAt_80 ?_
            refine lv_icmp_gt (tgt := 88) hx hb dX7_campAt_81 (by decide) (fun c_7 => ?_) (fun c_7 => ?_)
            · have hw := hw.1 c_7
              refine lv_iconst (v := (-1 : Int32)) hx hb dX7_campAt_88 (by decide) ?_
              exact hret _ _ _ hw dX7_campAt_89
            · have hw := hw.2 c_7
              refine lv_iconst (v := (4 : Int32)) hx hb dX7_campAt_84 (by decide) ?_
              refine lv_goto (tgt := 89) hx hb dX7_campAt_85 (by decide) ?_
              exact hret _ _ _ hw dX7_campAt_89
          · have hw := hw.2 c_6
            refine lv_iconst (v := (2 : Int32)) hx hb dX7_campAt_72 (by decide) ?_
            refine lv_goto (tgt := 89) hx hb dX7_campAt_73 (by decide) ?_
            exact hret _ _ _ hw dX7_campAt_89
        · have hw := hw.2 c_5
          refine lv_iconst (v := (-1 : Int32)) hx hb dX7_campAt_60 (by decide) ?_
          refine lv_goto (tgt := 89) hx hb dX7_campAt_61 (by decide) ?_
          exact hret _ _ _ hw dX7_campAt_89
      · have hw := hw.2 c_4
        refine lv_iload_n hx hb dX7_campAt_28 rfl (lv_at hl 1 rfl) ?_
        refine lv_bipush (v := (14 : Int32)) hx hb dX7_campAt_29 (by decide) ?_
        refine lv_iload_n hx hb dX7_campAt_31 rfl (lv_at hl 0 rfl) ?_
        refine lv_iadd hx hb dX7_campAt_32 ?_
        refine lv_icmp_lt (tgt := 40) hx hb dX7_campAt_33 (by decide) (fun c_8 => ?_) (fun c_8 => ?_)
        · have hw := hw.1 c_8
          refine lv_iload_n hx hb dX7_campAt_40 rfl (lv_at hl 1 rfl) ?_
          refine lv_bipush (v := (10 : Int32)) hx hb dX7_campAt_41 (by decide) ?_
          refine lv_iload_n hx hb dX7_campAt_43 rfl (lv_at hl 0 rfl) ?_
          refine lv_isub hx hb dX7_campAt_44 ?_
          refine lv_icmp_gt (tgt := 52) hx hb dX7_campAt_45 (by decide) (fun c_9 => ?_) (fun c_9 => ?_)
          · have hw := hw.1 c_9
            refine lv_iconst (v := (-1 : Int32)) hx hb dX7_campAt_52 (by decide) ?_
            exact hret _ _ _ hw dX7_campAt_53
          · have hw := hw.2 c_9
            refine lv_iconst (v := (5 : Int32)) hx hb dX7_campAt_48 (by decide) ?_
            refine lv_goto (tgt := 53) hx hb dX7_campAt_49 (by decide) ?_
            exact hret _ _ _ hw dX7_campAt_53
        · have hw := hw.2 c_8
          refine lv_iconst (v := (1 : Int32)) hx hb dX7_campAt_36 (by decide) ?_
          refine lv_goto (tgt := 53) hx hb dX7_campAt_37 (by decide) ?_
          exact hret _ _ _ hw dX7_campAt_53
    · have hw := hw.2 c_3
      exact hJ11 x0 hw _ (lv_sub hl [0] rfl)
set_option maxHeartbeats 4000000 in
set_option maxRecDepth 100000 in
theorem c_X7_campAt (l : Launch) (D : va_G) (ad : Nat → Nat) (cs : Nat → ClassId) (sz : Nat) (x0 x1 : Int32) (Q : Int32 → Prop) (hw : wp_X7_campAt x0 x1 Q) :
  Met l yX7_campAt wsX7_campAt rm_X7_campAt (va_Pc [.int x0, .int x1] (PX D (cl_X7_campAt ad cs) (ty_X7_campAt cs) sz)) (vp_Si Q) 0 0 (fun _ => False) := by
  refine Met.ofW (cc := cX7_campAt) (maxL := 2) (ret := (some .int)) (by decide) rfl ?_
  intro p e s m args below meth c s₁ B hml hv
  obtain ⟨rfl, hsz, hP, hK, hD0, hN⟩ := hv
  subst hsz
  have hl := lv_entry ([.int x0, .int x1]) (n := 2) (Nat.le_of_ble_eq_true rfl)
  rw [lg_entry_eq]
  have hx := B.exec
  have hb := B.bytes
  have hr := B.returns
  exact b_X7_campAt l D ad cs x0 x1 Q hx hb hml (findClass_of_methodNamed B.named) (atoms_spec (ws := wsX7_campAt) B.pre) hN hP hK hD0.self (fun q h => Or.inr h) hl (A := va_A (cl_X7_campAt ad cs) s.heap.size) (fun r pc ls hq hd => W.iret (v := r) hx hb hr (fun t ht hW => ⟨r, rfl, hq, ht⟩) (fun _ h => nomatch h) hd) hw
abbrev rm_X7_find : Room := { frames := 0, cells := 0, slots := 0, locals := 0 }
abbrev cl_X7_find (ad : Nat → Nat) (cs : Nat → ClassId) (vZ_players vZ_fill vZ_patience vZ_turn vZ_made vZ_out vZ_finishers vZ_thrown : Int32) (vZ_row vZ_column : Nat → Int32) : va_W := [((ad 28), .inr (7, [.ref (ad 29), .ref (ad 30), .ref (ad 31), .ref (ad 32), .ref (ad 33), .ref (ad 34), .int vZ_players, .int vZ_fill, .int vZ_patience, .ref (ad 35), .int vZ_turn, .int vZ_made, .int vZ_out, .ref (ad 36), .int vZ_finishers, .ref (ad 37), .ref (ad 38), .ref (ad 39), .ref (ad 40), .ref (ad 41), .ref (ad 42), .ref (ad 43), .ref (ad 44), .ref (ad 45), .ref (ad 46), .ref (ad 47), .int vZ_thrown])), ((ad 29), .inl ((cs 29), 121, .inl vZ_row)), ((ad 30), .inl ((cs 30), 121, .inl vZ_column))]
abbrev ty_X7_find (cs : Nat → ClassId) : List (ClassId × FieldType) := [((cs 29), .int), ((cs 30), .int)]
def wb_X7_find_5 (vZ_row vZ_column : Nat → Int32) (x1 x2 : Int32) (K5 : Int32 → Prop) (P5 : Int32 → Int32 → Prop) (x3 x4 : Int32) : Prop :=
 (((121 : Int32) ≤ x4 → K5 x3) ∧
 (¬ (121 : Int32) ≤ x4 → (vp_in x4 121 ∧
 ((¬ (vZ_row x4.toNatClampNeg) = x1 → P5 x3 (x4 + (1 : Int32))) ∧
 ((vZ_row x4.toNatClampNeg) = x1 → (vp_in x4 121 ∧
 ((¬ (vZ_column x4.toNatClampNeg) = x2 → P5 x3 (x4 + (1 : Int32))) ∧
 ((vZ_column x4.toNatClampNeg) = x2 → P5 x4 (x4 + (1 : Int32))))))))))
def wl_X7_find_5 (vZ_row vZ_column : Nat → Int32) (x1 x2 : Int32) (K5 : Int32 → Prop) (x3 x4 : Int32) : Prop := ∀ P5 : Int32 → Int32 → Prop, (∀ (x3 x4 : Int32), wb_X7_find_5 vZ_row vZ_column x1 x2 K5 P5 x3 x4 → P5 x3 x4) → P5 x3 x4
def wp_X7_find (vZ_players vZ_fill vZ_patience vZ_turn vZ_made vZ_out vZ_finishers vZ_thrown : Int32) (vZ_row vZ_column : Nat → Int32) (x1 x2 : Int32) (Q : Int32 → Prop) : Prop :=
 wl_X7_find_5 vZ_row vZ_column x1 x2 (fun x3_6 => Q x3_6) (-1 : Int32) (0 : Int32)
set_option maxHeartbeats 4000000 in
set_option maxRecDepth 100000 in
theorem b_X7_find {p : Program} {e : Env} {s : State} {m : MethodId} {args : Array Value} {below : List Frame} {meth : Method} {c : Code} {QQ : State → Prop} {A : Nat → Prop} {ls : Array Slot} (l : Launch) (D : va_G) (ad : Nat → Nat) (cs : Nat → ClassId) (vZ_players vZ_fill vZ_patience vZ_turn vZ_made vZ_out vZ_finishers vZ_thrown : Int32) (vZ_row vZ_column : Nat → Int32) (x1 x2 : Int32) (Q : Int32 → Prop) (hx : p.tables.exec = Jvm.exec) (hb : c.code = cX7_find) (hml : c.maxLocals = 5) (hown : s.vm.findClass RX7 = some m.cls) (hts : ∀ w ∈ wsX7_find, w.before args s = true) (hN : NW s) (hP : va_P D vwCl (cl_X7_find ad cs vZ_players vZ_fill vZ_patience vZ_turn vZ_made vZ_out vZ_finishers vZ_thrown vZ_row vZ_column) s.heap) (hK : va_K D vwCl (ty_X7_find cs) s) (hD : va_D A (cl_X7_find ad cs vZ_players vZ_fill vZ_patience vZ_turn vZ_made vZ_out vZ_finishers vZ_thrown vZ_row vZ_column)) (hA : ∀ q : Nat, s.heap.size ≤ q → A q) (hl : lv_has ls 5 [(0, .ref (ad 28)), (1, .int x1), (2, .int x2)])
  (hret : ∀ (r : Int32) (pc : Nat) (ls : Array Slot), Q r → decode cX7_find pc = .ok (.ireturn, 1) → W p l e rm_X7_find s m args below meth c s.heap [] 0 0 QQ (F0 m pc ls [.int r]))
  (hw : wp_X7_find vZ_players vZ_fill vZ_patience vZ_turn vZ_made vZ_out vZ_finishers vZ_thrown vZ_row vZ_column x1 x2 Q) :
  W p l e rm_X7_find s m args below meth c s.heap [] 0 0 QQ (F0 m 0 ls []) := by
  have S0 : CallFix p m c cX7_find 5 s args wsX7_find RX7 := ⟨hx, hb, hml, hown, hts⟩
  have inX7 : ∀ w ∈ u_ws RX7 TX7 27, w ∈ wsX7_find := by decide +kernel
  have fl_13 := hts (.fieldLink RX7 13 "HopperCourtModel" "column" "[I") (by decide +kernel)
  have fl_7 := hts (.fieldLink RX7 7 "HopperCourtModel" "row" "[I") (by decide +kernel)
  have hL5 : ∀ (x1 x2 : Int32) (K5 : Int32 → Prop) (x3 x4 : Int32), wl_X7_find_5 vZ_row vZ_column x1 x2 K5 x3 x4 → (∀ (x3 : Int32), K5 x3 → ∀ (ls : Array Slot), lv_has ls 5 [(3, .int x3)] → W p l e rm_X7_find s m args below meth c s.heap [] 0 0 QQ (F0 m 47 ls [])) → ∀ (ls : Array Slot), lv_has ls 5 [(0, .ref (ad 28)), (1, .int x1), (2, .int x2), (3, .int x3), (4, .int x4)] → W p l e rm_X7_find s m args below meth c s.heap [] 0 0 QQ (F0 m 5 ls []) := by
    intro x1 x2 K5 x3 x4 hw hK5
    unfold wl_X7_find_5 at hw
    refine hw (fun (x3 x4 : Int32) => ∀ (ls : Array Slot), lv_has ls 5 [(0, .ref (ad 28)), (1, .int x1), (2, .int x2), (3, .int x3), (4, .int x4)] → W p l e rm_X7_find s m args below meth c s.heap [] 0 0 QQ (F0 m 5 ls [])) ?_
    intro x3 x4 hw ls hl
    unfold wb_X7_find_5 at hw
    refine lv_iload hx hb dX7_find_5 (lv_at hl 4 rfl) ?_
    refine lv_bipush (v := (121 : Int32)) hx hb dX7_find_7 (by decide) ?_
    refine lv_icmp_ge (tgt := 47) hx hb dX7_find_9 (by decide) (fun c_1 => ?_) (fun c_1 => ?_)
    · have hw := hw.1 c_1
      exact hK5 x3 hw _ (lv_sub hl [3] rfl)
    · have hw := hw.2 c_1
      refine lv_aload_n hx hb dX7_find_12 rfl (lv_at hl 0 rfl) ?_
      refine va_get (D := D) (ci := 7) (v := .ref (ad 29)) (C := RX7) (T := TX7) (N := 27) hx hb hts inX7 hown hK hP 0 rfl rfl 0 (by decide) fl_7 (fun _ h9 => h9) rfl dX7_find_13 ?_
      refine lv_iload hx hb dX7_find_16 (lv_at hl 4 rfl) ?_
      obtain ⟨h_2, hw⟩ := hw
      refine va_iald hx hb hK hP 1 0 rfl rfl h_2 dX7_find_18 ?_
      refine lv_iload_n hx hb dX7_find_19 rfl (lv_at hl 1 rfl) ?_
      refine lv_icmp_ne (tgt := 39) hx hb dX7_find_20 (by decide) (fun c_3 => ?_) (fun c_3 => ?_)
      · have hw := hw.1 c_3
        refine lv_iload_n hx hb dX7_find_39 rfl (lv_at hl 3 rfl) ?_
        refine lv_istore_n (lv' := [(3, .int x3), (0, .ref (ad 28)), (1, .int x1), (2, .int x2), (4, .int x4)]) hx hb dX7_find_40 rfl hl (by decide) rfl (fun ls hl => ?_)
        refine lv_iinc (v := (x4 + (1 : Int32))) (lv' := [(4, .int (x4 + (1 : Int32))), (3, .int x3), (0, .ref (ad 28)), (1, .int x1), (2, .int x2)]) hx hb dX7_find_41 hl (k := 4) rfl rfl (by decide) rfl (fun ls hl => ?_)
        refine lv_goto (tgt := 5) hx hb dX7_find_44 (by decide) ?_
        exact hw _ (lv_sub hl [2, 3, 4, 1, 0] rfl)
      · have hw := hw.2 c_3
        refine lv_aload_n hx hb dX7_find_23 rfl (lv_at hl 0 rfl) ?_
        refine va_get (D := D) (ci := 7) (v := .ref (ad 30)) (C := RX7) (T := TX7) (N := 27) hx hb hts inX7 hown hK hP 0 rfl rfl 1 (by decide) fl_13 (fun _ h9 => h9) rfl dX7_find_24 ?_
        refine lv_iload hx hb dX7_find_27 (lv_at hl 4 rfl) ?_
        obtain ⟨h_4, hw⟩ := hw
        refine va_iald hx hb hK hP 2 1 rfl rfl h_4 dX7_find_29 ?_
        refine lv_iload_n hx hb dX7_find_30 rfl (lv_at hl 2 rfl) ?_
        refine lv_icmp_ne (tgt := 39) hx hb dX7_find_31 (by decide) (fun c_5 => ?_) (fun c_5 => ?_)
        · have hw := hw.1 c_5
          refine lv_iload_n hx hb dX7_find_39 rfl (lv_at hl 3 rfl) ?_
          refine lv_istore_n (lv' := [(3, .int x3), (0, .ref (ad 28)), (1, .int x1), (2, .int x2), (4, .int x4)]) hx hb dX7_find_40 rfl hl (by decide) rfl (fun ls hl => ?_)
          refine lv_iinc (v := (x4 + (1 : Int32))) (lv' := [(4, .int (x4 + (1 : Int32))), (3, .int x3), (0, .ref (ad 28)), (1, .int x1), (2, .int x2)]) hx hb dX7_find_41 hl (k := 4) rfl rfl (by decide) rfl (fun ls hl => ?_)
          refine lv_goto (tgt := 5) hx hb dX7_find_44 (by decide) ?_
          exact hw _ (lv_sub hl [2, 3, 4, 1, 0] rfl)
        · have hw := hw.2 c_5
          refine lv_iload hx hb dX7_find_34 (lv_at hl 4 rfl) ?_
          refine lv_goto (tgt := 40) hx hb dX7_find_36 (by decide) ?_
          refine lv_istore_n (lv' := [(3, .int x4), (0, .ref (ad 28)), (1, .int x1), (2, .int x2), (4, .int x4)]) hx hb dX7_find_40 rfl hl (by decide) rfl (fun ls hl => ?_)
          refine lv_iinc (v := (x4 + (1 : Int32))) (lv' := [(4, .int (x4 + (1 : Int32))), (3, .int x4), (0, .ref (ad 28)), (1, .int x1), (2, .int x2)]) hx hb dX7_find_41 hl (k := 4) rfl rfl (by decide) rfl (fun ls hl => ?_)
          refine lv_goto (tgt := 5) hx hb dX7_find_44 (by decide) ?_
          exact hw _ (lv_sub hl [2, 3, 4, 1, 0] rfl)
  unfold wp_X7_find at hw
  refine lv_iconst (v := (-1 : Int32)) hx hb dX7_find_0 (by decide) ?_
  refine lv_istore_n (lv' := [(3, .int (-1 : Int32)), (0, .ref (ad 28)), (1, .int x1), (2, .int x2)]) hx hb dX7_find_1 rfl hl (by decide) rfl (fun ls hl => ?_)
  refine lv_iconst (v := (0 : Int32)) hx hb dX7_find_2 (by decide) ?_
  refine lv_istore (lv' := [(4, .int (0 : Int32)), (3, .int (-1 : Int32)), (0, .ref (ad 28)), (1, .int x1), (2, .int x2)]) hx hb dX7_find_3 hl (by decide) rfl (fun ls hl => ?_)
  refine hL5 x1 x2 _ (-1 : Int32) (0 : Int32) hw ?_ _ (lv_sub hl [2, 3, 4, 1, 0] rfl)
  intro x3_6 hw ls hl
  refine lv_iload_n hx hb dX7_find_47 rfl (lv_at hl 0 rfl) ?_
  exact hret _ _ _ hw dX7_find_48
set_option maxHeartbeats 4000000 in
set_option maxRecDepth 100000 in
theorem c_X7_find (l : Launch) (D : va_G) (ad : Nat → Nat) (cs : Nat → ClassId) (sz : Nat) (vZ_players vZ_fill vZ_patience vZ_turn vZ_made vZ_out vZ_finishers vZ_thrown : Int32) (vZ_row vZ_column : Nat → Int32) (x1 x2 : Int32) (Q : Int32 → Prop) (hw : wp_X7_find vZ_players vZ_fill vZ_patience vZ_turn vZ_made vZ_out vZ_finishers vZ_thrown vZ_row vZ_column x1 x2 Q) :
  Met l yX7_find wsX7_find rm_X7_find (va_Pc [.ref (ad 28), .int x1, .int x2] (PX D (cl_X7_find ad cs vZ_players vZ_fill vZ_patience vZ_turn vZ_made vZ_out vZ_finishers vZ_thrown vZ_row vZ_column) (ty_X7_find cs) sz)) (vp_Si Q) 0 0 (fun _ => False) := by
  refine Met.ofW (cc := cX7_find) (maxL := 5) (ret := (some .int)) (by decide) rfl ?_
  intro p e s m args below meth c s₁ B hml hv
  obtain ⟨rfl, hsz, hP, hK, hD0, hN⟩ := hv
  subst hsz
  have hl := lv_entry ([.ref (ad 28), .int x1, .int x2]) (n := 5) (Nat.le_of_ble_eq_true rfl)
  rw [lg_entry_eq]
  have hx := B.exec
  have hb := B.bytes
  have hr := B.returns
  exact b_X7_find l D ad cs vZ_players vZ_fill vZ_patience vZ_turn vZ_made vZ_out vZ_finishers vZ_thrown vZ_row vZ_column x1 x2 Q hx hb hml (findClass_of_methodNamed B.named) (atoms_spec (ws := wsX7_find) B.pre) hN hP hK hD0.self (fun q h => Or.inr h) hl (A := va_A (cl_X7_find ad cs vZ_players vZ_fill vZ_patience vZ_turn vZ_made vZ_out vZ_finishers vZ_thrown vZ_row vZ_column) s.heap.size) (fun r pc ls hq hd => W.iret (v := r) hx hb hr (fun t ht hW => ⟨r, rfl, hq, ht⟩) (fun _ h => nomatch h) hd) hw
abbrev rm_X7_measures : Room := { frames := 0, cells := 0, slots := 0, locals := 0 }
abbrev cl_X7_measures (ad : Nat → Nat) (cs : Nat → ClassId) (vZ_players vZ_fill vZ_patience vZ_turn vZ_made vZ_out vZ_finishers vZ_thrown : Int32) (vZ_next vZ_far vZ_queue : Nat → Int32) : va_W := [((ad 28), .inr (7, [.ref (ad 29), .ref (ad 30), .ref (ad 31), .ref (ad 32), .ref (ad 33), .ref (ad 34), .int vZ_players, .int vZ_fill, .int vZ_patience, .ref (ad 35), .int vZ_turn, .int vZ_made, .int vZ_out, .ref (ad 36), .int vZ_finishers, .ref (ad 37), .ref (ad 38), .ref (ad 39), .ref (ad 40), .ref (ad 41), .ref (ad 42), .ref (ad 43), .ref (ad 44), .ref (ad 45), .ref (ad 46), .ref (ad 47), .int vZ_thrown])), ((ad 32), .inl ((cs 32), 726, .inl vZ_next)), ((ad 33), .inl ((cs 33), 14641, .inl vZ_far)), ((ad 44), .inl ((cs 44), 121, .inl vZ_queue))]
abbrev ty_X7_measures (cs : Nat → ClassId) : List (ClassId × FieldType) := [((cs 32), .int), ((cs 33), .int), ((cs 44), .int)]
def wb_X7_measures_2 (x1 : Int32) (K2 : (Nat → Int32) → Prop) (P2 : (Nat → Int32) → Int32 → Prop) (vZ_far : Nat → Int32) (x2 : Int32) : Prop :=
 (((121 : Int32) ≤ x2 → K2 vZ_far) ∧
 (¬ (121 : Int32) ≤ x2 → (vp_in (((121 : Int32) * x1) + x2) 14641 ∧
 P2 (upd vZ_far (((121 : Int32) * x1) + x2).toNatClampNeg (1000 : Int32)) (x2 + (1 : Int32)))))
def wl_X7_measures_2 (x1 : Int32) (K2 : (Nat → Int32) → Prop) (vZ_far : Nat → Int32) (x2 : Int32) : Prop := ∀ P2 : (Nat → Int32) → Int32 → Prop, (∀ (vZ_far : Nat → Int32) (x2 : Int32), wb_X7_measures_2 x1 K2 P2 vZ_far x2 → P2 vZ_far x2) → P2 vZ_far x2
def wb_X7_measures_59 (vZ_next : Nat → Int32) (x1 x3 : Int32) (K59 : (Nat → Int32) → (Nat → Int32) → Int32 → Prop) (P59 : (Nat → Int32) → (Nat → Int32) → Int32 → Int32 → Prop) (vZ_far vZ_queue : Nat → Int32) (x2 x4 : Int32) : Prop :=
 (((6 : Int32) ≤ x4 → K59 vZ_far vZ_queue x2) ∧
 (¬ (6 : Int32) ≤ x4 → (vp_in x3 121 ∧
 (vp_in (((6 : Int32) * (vZ_queue x3.toNatClampNeg)) + x4) 726 ∧
 (((vZ_next (((6 : Int32) * (vZ_queue x3.toNatClampNeg)) + x4).toNatClampNeg) = (-1 : Int32) → P59 vZ_far vZ_queue x2 (x4 + (1 : Int32))) ∧
 (¬ (vZ_next (((6 : Int32) * (vZ_queue x3.toNatClampNeg)) + x4).toNatClampNeg) = (-1 : Int32) → (vp_in (((121 : Int32) * x1) + (vZ_next (((6 : Int32) * (vZ_queue x3.toNatClampNeg)) + x4).toNatClampNeg)) 14641 ∧
 ((¬ (vZ_far (((121 : Int32) * x1) + (vZ_next (((6 : Int32) * (vZ_queue x3.toNatClampNeg)) + x4).toNatClampNeg)).toNatClampNeg) = (1000 : Int32) → P59 vZ_far vZ_queue x2 (x4 + (1 : Int32))) ∧
 ((vZ_far (((121 : Int32) * x1) + (vZ_next (((6 : Int32) * (vZ_queue x3.toNatClampNeg)) + x4).toNatClampNeg)).toNatClampNeg) = (1000 : Int32) → (vp_in x3 121 ∧
 (vp_in (((121 : Int32) * x1) + (vZ_queue x3.toNatClampNeg)) 14641 ∧
 (vp_in (((121 : Int32) * x1) + (vZ_next (((6 : Int32) * (vZ_queue x3.toNatClampNeg)) + x4).toNatClampNeg)) 14641 ∧
 (vp_in x2 121 ∧
 P59 (upd vZ_far (((121 : Int32) * x1) + (vZ_next (((6 : Int32) * (vZ_queue x3.toNatClampNeg)) + x4).toNatClampNeg)).toNatClampNeg ((vZ_far (((121 : Int32) * x1) + (vZ_queue x3.toNatClampNeg)).toNatClampNeg) + (1 : Int32))) (upd vZ_queue x2.toNatClampNeg (vZ_next (((6 : Int32) * (vZ_queue x3.toNatClampNeg)) + x4).toNatClampNeg)) (x2 + (1 : Int32)) (x4 + (1 : Int32)))))))))))))))
def wl_X7_measures_59 (vZ_next : Nat → Int32) (x1 x3 : Int32) (K59 : (Nat → Int32) → (Nat → Int32) → Int32 → Prop) (vZ_far vZ_queue : Nat → Int32) (x2 x4 : Int32) : Prop := ∀ P59 : (Nat → Int32) → (Nat → Int32) → Int32 → Int32 → Prop, (∀ (vZ_far vZ_queue : Nat → Int32) (x2 x4 : Int32), wb_X7_measures_59 vZ_next x1 x3 K59 P59 vZ_far vZ_queue x2 x4 → P59 vZ_far vZ_queue x2 x4) → P59 vZ_far vZ_queue x2 x4
def wb_X7_measures_51 (vZ_next : Nat → Int32) (x1 : Int32) (K51 : (Nat → Int32) → (Nat → Int32) → Prop) (P51 : (Nat → Int32) → (Nat → Int32) → Int32 → Int32 → Prop) (vZ_far vZ_queue : Nat → Int32) (x2 x3 : Int32) : Prop :=
 ((x2 ≤ x3 → K51 vZ_far vZ_queue) ∧
 (¬ x2 ≤ x3 → wl_X7_measures_59 vZ_next x1 x3 (fun vZ_far_14 vZ_queue_15 x2_16 => P51 vZ_far_14 vZ_queue_15 x2_16 (x3 + (1 : Int32))) vZ_far vZ_queue x2 (0 : Int32)))
def wl_X7_measures_51 (vZ_next : Nat → Int32) (x1 : Int32) (K51 : (Nat → Int32) → (Nat → Int32) → Prop) (vZ_far vZ_queue : Nat → Int32) (x2 x3 : Int32) : Prop := ∀ P51 : (Nat → Int32) → (Nat → Int32) → Int32 → Int32 → Prop, (∀ (vZ_far vZ_queue : Nat → Int32) (x2 x3 : Int32), wb_X7_measures_51 vZ_next x1 K51 P51 vZ_far vZ_queue x2 x3 → P51 vZ_far vZ_queue x2 x3) → P51 vZ_far vZ_queue x2 x3
def wp_X7_measures (vZ_players vZ_fill vZ_patience vZ_turn vZ_made vZ_out vZ_finishers vZ_thrown : Int32) (vZ_next vZ_far vZ_queue : Nat → Int32) (x1 : Int32) (Q : (Nat → Int32) → (Nat → Int32) → Prop) : Prop :=
 wl_X7_measures_2 x1 (fun vZ_far_17 => (vp_in (((121 : Int32) * x1) + x1) 14641 ∧
 (vp_in (0 : Int32) 121 ∧
 wl_X7_measures_51 vZ_next x1 (fun vZ_far_20 vZ_queue_21 => Q vZ_far_20 vZ_queue_21) (upd vZ_far_17 (((121 : Int32) * x1) + x1).toNatClampNeg (0 : Int32)) (upd vZ_queue (0 : Int32).toNatClampNeg x1) (1 : Int32) (0 : Int32)))) vZ_far (0 : Int32)
set_option maxHeartbeats 4000000 in
set_option maxRecDepth 100000 in
theorem b_X7_measures {p : Program} {e : Env} {s : State} {m : MethodId} {args : Array Value} {below : List Frame} {meth : Method} {c : Code} {QQ : State → Prop} {A : Nat → Prop} {ls : Array Slot} (l : Launch) (D : va_G) (ad : Nat → Nat) (cs : Nat → ClassId) (vZ_players vZ_fill vZ_patience vZ_turn vZ_made vZ_out vZ_finishers vZ_thrown : Int32) (vZ_next vZ_far vZ_queue : Nat → Int32) (x1 : Int32) (Q : (Nat → Int32) → (Nat → Int32) → Prop) (hx : p.tables.exec = Jvm.exec) (hb : c.code = cX7_measures) (hml : c.maxLocals = 6) (hown : s.vm.findClass RX7 = some m.cls) (hts : ∀ w ∈ wsX7_measures, w.before args s = true) (hN : NW s) (hP : va_P D vwCl (cl_X7_measures ad cs vZ_players vZ_fill vZ_patience vZ_turn vZ_made vZ_out vZ_finishers vZ_thrown vZ_next vZ_far vZ_queue) s.heap) (hK : va_K D vwCl (ty_X7_measures cs) s) (hD : va_D A (cl_X7_measures ad cs vZ_players vZ_fill vZ_patience vZ_turn vZ_made vZ_out vZ_finishers vZ_thrown vZ_next vZ_far vZ_queue)) (hA : ∀ q : Nat, s.heap.size ≤ q → A q) (hl : lv_has ls 6 [(0, .ref (ad 28)), (1, .int x1)])
  (hret : ∀ (o0 : Nat → Int32) (o1 : Nat → Int32) (H : Heap) (locs : List Loc) (pc : Nat) (ls : Array Slot), Q o0 o1 → va_P D vwCl (cl_X7_measures ad cs vZ_players vZ_fill vZ_patience vZ_turn vZ_made vZ_out vZ_finishers vZ_thrown vZ_next o0 o1) H → va_D A (cl_X7_measures ad cs vZ_players vZ_fill vZ_patience vZ_turn vZ_made vZ_out vZ_finishers vZ_thrown vZ_next o0 o1) → va_S A s.heap H locs → decode cX7_measures pc = .ok (.return_, 1) → W p l e rm_X7_measures s m args below meth c H locs 0 0 QQ (F0 m pc ls []))
  (hw : wp_X7_measures vZ_players vZ_fill vZ_patience vZ_turn vZ_made vZ_out vZ_finishers vZ_thrown vZ_next vZ_far vZ_queue x1 Q) :
  W p l e rm_X7_measures s m args below meth c s.heap [] 0 0 QQ (F0 m 0 ls []) := by
  have S0 : CallFix p m c cX7_measures 6 s args wsX7_measures RX7 := ⟨hx, hb, hml, hown, hts⟩
  have inX7 : ∀ w ∈ u_ws RX7 TX7 27, w ∈ wsX7_measures := by decide +kernel
  have fl_19 := hts (.fieldLink RX7 19 "HopperCourtModel" "next" "[I") (by decide +kernel)
  have fl_22 := hts (.fieldLink RX7 22 "HopperCourtModel" "far" "[I") (by decide +kernel)
  have fl_59 := hts (.fieldLink RX7 59 "HopperCourtModel" "queue" "[I") (by decide +kernel)
  have hL2 : ∀ (x1 : Int32) (K2 : (Nat → Int32) → Prop) (vZ_far : Nat → Int32) (x2 : Int32) (vZ_queue : Nat → Int32), wl_X7_measures_2 x1 K2 vZ_far x2 → (∀ (vZ_far : Nat → Int32), K2 vZ_far → ∀ (H : Heap) (locs : List Loc) (ls : Array Slot), va_P D vwCl (cl_X7_measures ad cs vZ_players vZ_fill vZ_patience vZ_turn vZ_made vZ_out vZ_finishers vZ_thrown vZ_next vZ_far vZ_queue) H → va_D A (cl_X7_measures ad cs vZ_players vZ_fill vZ_patience vZ_turn vZ_made vZ_out vZ_finishers vZ_thrown vZ_next vZ_far vZ_queue) → va_S A s.heap H locs → lv_has ls 6 [(0, .ref (ad 28)), (1, .int x1)] → W p l e rm_X7_measures s m args below meth c H locs 0 0 QQ (F0 m 28 ls [])) → ∀ (H : Heap) (locs : List Loc) (ls : Array Slot), va_P D vwCl (cl_X7_measures ad cs vZ_players vZ_fill vZ_patience vZ_turn vZ_made vZ_out vZ_finishers vZ_thrown vZ_next vZ_far vZ_queue) H → va_D A (cl_X7_measures ad cs vZ_players vZ_fill vZ_patience vZ_turn vZ_made vZ_out vZ_finishers vZ_thrown vZ_next vZ_far vZ_queue) → va_S A s.heap H locs → lv_has ls 6 [(0, .ref (ad 28)), (1, .int x1), (2, .int x2)] → W p l e rm_X7_measures s m args below meth c H locs 0 0 QQ (F0 m 2 ls []) := by
    intro x1 K2 vZ_far x2 vZ_queue hw hK2
    unfold wl_X7_measures_2 at hw
    refine hw (fun (vZ_far : Nat → Int32) (x2 : Int32) => ∀ (H : Heap) (locs : List Loc) (ls : Array Slot), va_P D vwCl (cl_X7_measures ad cs vZ_players vZ_fill vZ_patience vZ_turn vZ_made vZ_out vZ_finishers vZ_thrown vZ_next vZ_far vZ_queue) H → va_D A (cl_X7_measures ad cs vZ_players vZ_fill vZ_patience vZ_turn vZ_made vZ_out vZ_finishers vZ_thrown vZ_next vZ_far vZ_queue) → va_S A s.heap H locs → lv_has ls 6 [(0, .ref (ad 28)), (1, .int x1), (2, .int x2)] → W p l e rm_X7_measures s m args below meth c H locs 0 0 QQ (F0 m 2 ls [])) ?_
    intro vZ_far x2 hw H locs ls hP hD hS hl
    unfold wb_X7_measures_2 at hw
    refine lv_iload_n hx hb dX7_measures_2 rfl (lv_at hl 2 rfl) ?_
    refine lv_bipush (v := (121 : Int32)) hx hb dX7_measures_3 (by decide) ?_
    refine lv_icmp_ge (tgt := 28) hx hb dX7_measures_5 (by decide) (fun c_1 => ?_) (fun c_1 => ?_)
    · have hw := hw.1 c_1
      exact hK2 vZ_far hw _ _ _ hP hD hS (lv_sub hl [0, 1] rfl)
    · have hw := hw.2 c_1
      refine lv_aload_n hx hb dX7_measures_8 rfl (lv_at hl 0 rfl) ?_
      refine va_get (D := D) (ci := 7) (v := .ref (ad 33)) (C := RX7) (T := TX7) (N := 27) hx hb hts inX7 hown hK hP 0 rfl rfl 4 (by decide) fl_22 (fun _ h9 => h9) rfl dX7_measures_9 ?_
      refine lv_bipush (v := (121 : Int32)) hx hb dX7_measures_12 (by decide) ?_
      refine lv_iload_n hx hb dX7_measures_14 rfl (lv_at hl 1 rfl) ?_
      refine lv_imul hx hb dX7_measures_15 ?_
      refine lv_iload_n hx hb dX7_measures_16 rfl (lv_at hl 2 rfl) ?_
      refine lv_iadd hx hb dX7_measures_17 ?_
      refine lv_sipush (v := (1000 : Int32)) hx hb dX7_measures_18 (by decide) ?_
      obtain ⟨h_2, hw⟩ := hw
      refine va_iast hx hb hK hP hD hS 2 1 rfl rfl h_2 dX7_measures_21 (fun H locs hP hD hS => ?_)
      have hP : va_P D vwCl (cl_X7_measures ad cs vZ_players vZ_fill vZ_patience vZ_turn vZ_made vZ_out vZ_finishers vZ_thrown vZ_next (upd vZ_far (((121 : Int32) * x1) + x2).toNatClampNeg (1000 : Int32)) vZ_queue) H := hP
      have hD : va_D A (cl_X7_measures ad cs vZ_players vZ_fill vZ_patience vZ_turn vZ_made vZ_out vZ_finishers vZ_thrown vZ_next (upd vZ_far (((121 : Int32) * x1) + x2).toNatClampNeg (1000 : Int32)) vZ_queue) := hD
      refine lv_iinc (v := (x2 + (1 : Int32))) (lv' := [(2, .int (x2 + (1 : Int32))), (0, .ref (ad 28)), (1, .int x1)]) hx hb dX7_measures_22 hl (k := 2) rfl rfl (by decide) rfl (fun ls hl => ?_)
      refine lv_goto (tgt := 2) hx hb dX7_measures_25 (by decide) ?_
      exact hw _ _ _ hP hD hS (lv_sub hl [1, 2, 0] rfl)
  have hL59 : ∀ (x1 x3 : Int32) (K59 : (Nat → Int32) → (Nat → Int32) → Int32 → Prop) (vZ_far vZ_queue : Nat → Int32) (x2 x4 : Int32), wl_X7_measures_59 vZ_next x1 x3 K59 vZ_far vZ_queue x2 x4 → (∀ (vZ_far vZ_queue : Nat → Int32) (x2 : Int32), K59 vZ_far vZ_queue x2 → ∀ (H : Heap) (locs : List Loc) (ls : Array Slot), va_P D vwCl (cl_X7_measures ad cs vZ_players vZ_fill vZ_patience vZ_turn vZ_made vZ_out vZ_finishers vZ_thrown vZ_next vZ_far vZ_queue) H → va_D A (cl_X7_measures ad cs vZ_players vZ_fill vZ_patience vZ_turn vZ_made vZ_out vZ_finishers vZ_thrown vZ_next vZ_far vZ_queue) → va_S A s.heap H locs → lv_has ls 6 [(0, .ref (ad 28)), (1, .int x1), (2, .int x2), (3, .int x3)] → W p l e rm_X7_measures s m args below meth c H locs 0 0 QQ (F0 m 156 ls [])) → ∀ (H : Heap) (locs : List Loc) (ls : Array Slot), va_P D vwCl (cl_X7_measures ad cs vZ_players vZ_fill vZ_patience vZ_turn vZ_made vZ_out vZ_finishers vZ_thrown vZ_next vZ_far vZ_queue) H → va_D A (cl_X7_measures ad cs vZ_players vZ_fill vZ_patience vZ_turn vZ_made vZ_out vZ_finishers vZ_thrown vZ_next vZ_far vZ_queue) → va_S A s.heap H locs → lv_has ls 6 [(0, .ref (ad 28)), (1, .int x1), (2, .int x2), (3, .int x3), (4, .int x4)] → W p l e rm_X7_measures s m args below meth c H locs 0 0 QQ (F0 m 59 ls []) := by
    intro x1 x3 K59 vZ_far vZ_queue x2 x4 hw hK59
    unfold wl_X7_measures_59 at hw
    refine hw (fun (vZ_far vZ_queue : Nat → Int32) (x2 x4 : Int32) => ∀ (H : Heap) (locs : List Loc) (ls : Array Slot), va_P D vwCl (cl_X7_measures ad cs vZ_players vZ_fill vZ_patience vZ_turn vZ_made vZ_out vZ_finishers vZ_thrown vZ_next vZ_far vZ_queue) H → va_D A (cl_X7_measures ad cs vZ_players vZ_fill vZ_patience vZ_turn vZ_made vZ_out vZ_finishers vZ_thrown vZ_next vZ_far vZ_queue) → va_S A s.heap H locs → lv_has ls 6 [(0, .ref (ad 28)), (1, .int x1), (2, .int x2), (3, .int x3), (4, .int x4)] → W p l e rm_X7_measures s m args below meth c H locs 0 0 QQ (F0 m 59 ls [])) ?_
    intro vZ_far vZ_queue x2 x4 hw H locs ls hP hD hS hl
    unfold wb_X7_measures_59 at hw
    refine lv_iload hx hb dX7_measures_59 (lv_at hl 4 rfl) ?_
    refine lv_bipush (v := (6 : Int32)) hx hb dX7_measures_61 (by decide) ?_
    refine lv_icmp_ge (tgt := 156) hx hb dX7_measures_63 (by decide) (fun c_3 => ?_) (fun c_3 => ?_)
    · have hw := hw.1 c_3
      exact hK59 vZ_far vZ_queue x2 hw _ _ _ hP hD hS (lv_sub hl [0, 1, 2, 3] rfl)
    · have hw := hw.2 c_3
      refine lv_aload_n hx hb dX7_measures_66 rfl (lv_at hl 0 rfl) ?_
      refine va_get (D := D) (ci := 7) (v := .ref (ad 32)) (C := RX7) (T := TX7) (N := 27) hx hb hts inX7 hown hK hP 0 rfl rfl 3 (by decide) fl_19 (fun _ h9 => h9) rfl dX7_measures_67 ?_
      refine lv_bipush (v := (6 : Int32)) hx hb dX7_measures_70 (by decide) ?_
      refine lv_aload_n hx hb dX7_measures_72 rfl (lv_at hl 0 rfl) ?_
      refine va_get (D := D) (ci := 7) (v := .ref (ad 44)) (C := RX7) (T := TX7) (N := 27) hx hb hts inX7 hown hK hP 0 rfl rfl 22 (by decide) fl_59 (fun _ h9 => h9) rfl dX7_measures_73 ?_
      refine lv_iload_n hx hb dX7_measures_76 rfl (lv_at hl 3 rfl) ?_
      obtain ⟨h_4, hw⟩ := hw
      refine va_iald hx hb hK hP 3 2 rfl rfl h_4 dX7_measures_77 ?_
      refine lv_imul hx hb dX7_measures_78 ?_
      refine lv_iload hx hb dX7_measures_79 (lv_at hl 4 rfl) ?_
      refine lv_iadd hx hb dX7_measures_81 ?_
      obtain ⟨h_5, hw⟩ := hw
      refine va_iald hx hb hK hP 1 0 rfl rfl h_5 dX7_measures_82 ?_
      refine lv_istore (lv' := [(5, .int (vZ_next (((6 : Int32) * (vZ_queue x3.toNatClampNeg)) + x4).toNatClampNeg)), (0, .ref (ad 28)), (1, .int x1), (2, .int x2), (3, .int x3), (4, .int x4)]) hx hb dX7_measures_83 hl (by decide) rfl (fun ls hl => ?_)
      refine lv_iload hx hb dX7_measures_85 (lv_at hl 0 rfl) ?_
      refine lv_iconst (v := (-1 : Int32)) hx hb dX7_measures_87 (by decide) ?_
      refine lv_icmp_eq (tgt := 150) hx hb dX7_measures_88 (by decide) (fun c_6 => ?_) (fun c_6 => ?_)
      · have hw := hw.1 c_6
        refine lv_iinc (v := (x4 + (1 : Int32))) (lv' := [(4, .int (x4 + (1 : Int32))), (5, .int (vZ_next (((6 : Int32) * (vZ_queue x3.toNatClampNeg)) + x4).toNatClampNeg)), (0, .ref (ad 28)), (1, .int x1), (2, .int x2), (3, .int x3)]) hx hb dX7_measures_150 hl (k := 5) rfl rfl (by decide) rfl (fun ls hl => ?_)
        refine lv_goto (tgt := 59) hx hb dX7_measures_153 (by decide) ?_
        exact hw _ _ _ hP hD hS (lv_sub hl [2, 3, 4, 5, 0] rfl)
      · have hw := hw.2 c_6
        refine lv_aload_n hx hb dX7_measures_91 rfl (lv_at hl 1 rfl) ?_
        refine va_get (D := D) (ci := 7) (v := .ref (ad 33)) (C := RX7) (T := TX7) (N := 27) hx hb hts inX7 hown hK hP 0 rfl rfl 4 (by decide) fl_22 (fun _ h9 => h9) rfl dX7_measures_92 ?_
        refine lv_bipush (v := (121 : Int32)) hx hb dX7_measures_95 (by decide) ?_
        refine lv_iload_n hx hb dX7_measures_97 rfl (lv_at hl 2 rfl) ?_
        refine lv_imul hx hb dX7_measures_98 ?_
        refine lv_iload hx hb dX7_measures_99 (lv_at hl 0 rfl) ?_
        refine lv_iadd hx hb dX7_measures_101 ?_
        obtain ⟨h_7, hw⟩ := hw
        refine va_iald hx hb hK hP 2 1 rfl rfl h_7 dX7_measures_102 ?_
        refine lv_sipush (v := (1000 : Int32)) hx hb dX7_measures_103 (by decide) ?_
        refine lv_icmp_ne (tgt := 150) hx hb dX7_measures_106 (by decide) (fun c_8 => ?_) (fun c_8 => ?_)
        · have hw := hw.1 c_8
          refine lv_iinc (v := (x4 + (1 : Int32))) (lv' := [(4, .int (x4 + (1 : Int32))), (5, .int (vZ_next (((6 : Int32) * (vZ_queue x3.toNatClampNeg)) + x4).toNatClampNeg)), (0, .ref (ad 28)), (1, .int x1), (2, .int x2), (3, .int x3)]) hx hb dX7_measures_150 hl (k := 5) rfl rfl (by decide) rfl (fun ls hl => ?_)
          refine lv_goto (tgt := 59) hx hb dX7_measures_153 (by decide) ?_
          exact hw _ _ _ hP hD hS (lv_sub hl [2, 3, 4, 5, 0] rfl)
        · have hw := hw.2 c_8
          refine lv_aload_n hx hb dX7_measures_109 rfl (lv_at hl 1 rfl) ?_
          refine va_get (D := D) (ci := 7) (v := .ref (ad 33)) (C := RX7) (T := TX7) (N := 27) hx hb hts inX7 hown hK hP 0 rfl rfl 4 (by decide) fl_22 (fun _ h9 => h9) rfl dX7_measures_110 ?_
          refine lv_bipush (v := (121 : Int32)) hx hb dX7_measures_113 (by decide) ?_
          refine lv_iload_n hx hb dX7_measures_115 rfl (lv_at hl 2 rfl) ?_
          refine lv_imul hx hb dX7_measures_116 ?_
          refine lv_iload hx hb dX7_measures_117 (lv_at hl 0 rfl) ?_
          refine lv_iadd hx hb dX7_measures_119 ?_
          refine lv_aload_n hx hb dX7_measures_120 rfl (lv_at hl 1 rfl) ?_
          refine va_get (D := D) (ci := 7) (v := .ref (ad 33)) (C := RX7) (T := TX7) (N := 27) hx hb hts inX7 hown hK hP 0 rfl rfl 4 (by decide) fl_22 (fun _ h9 => h9) rfl dX7_measures_121 ?_
          refine lv_bipush (v := (121 : Int32)) hx hb dX7_measures_124 (by decide) ?_
          refine lv_iload_n hx hb dX7_measures_126 rfl (lv_at hl 2 rfl) ?_
          refine lv_imul hx hb dX7_measures_127 ?_
          refine lv_aload_n hx hb dX7_measures_128 rfl (lv_at hl 1 rfl) ?_
          refine va_get (D := D) (ci := 7) (v := .ref (ad 44)) (C := RX7) (T := TX7) (N := 27) hx hb hts inX7 hown hK hP 0 rfl rfl 22 (by decide) fl_59 (fun _ h9 => h9) rfl dX7_measures_129 ?_
          refine lv_iload_n hx hb dX7_measures_132 rfl (lv_at hl 4 rfl) ?_
          obtain ⟨h_9, hw⟩ := hw
          refine va_iald hx hb hK hP 3 2 rfl rfl h_9 dX7_measures_133 ?_
          refine lv_iadd hx hb dX7_measures_134 ?_
          obtain ⟨h_10, hw⟩ := hw
          refine va_iald hx hb hK hP 2 1 rfl rfl h_10 dX7_measures_135 ?_
          refine lv_iconst (v := (1 : Int32)) hx hb dX7_measures_136 (by decide) ?_
          refine lv_iadd hx hb dX7_measures_137 ?_
          obtain ⟨h_11, hw⟩ := hw
          refine va_iast hx hb hK hP hD hS 2 1 rfl rfl h_11 dX7_measures_138 (fun H locs hP hD hS => ?_)
          have hP : va_P D vwCl (cl_X7_measures ad cs vZ_players vZ_fill vZ_patience vZ_turn vZ_made vZ_out vZ_finishers vZ_thrown vZ_next (upd vZ_far (((121 : Int32) * x1) + (vZ_next (((6 : Int32) * (vZ_queue x3.toNatClampNeg)) + x4).toNatClampNeg)).toNatClampNeg ((vZ_far (((121 : Int32) * x1) + (vZ_queue x3.toNatClampNeg)).toNatClampNeg) + (1 : Int32))) vZ_queue) H := hP
          have hD : va_D A (cl_X7_measures ad cs vZ_players vZ_fill vZ_patience vZ_turn vZ_made vZ_out vZ_finishers vZ_thrown vZ_next (upd vZ_far (((121 : Int32) * x1) + (vZ_next (((6 : Int32) * (vZ_queue x3.toNatClampNeg)) + x4).toNatClampNeg)).toNatClampNeg ((vZ_far (((121 : Int32) * x1) + (vZ_queue x3.toNatClampNeg)).toNatClampNeg) + (1 : Int32))) vZ_queue) := hD
          refine lv_aload_n hx hb dX7_measures_139 rfl (lv_at hl 1 rfl) ?_
          refine va_get (D := D) (ci := 7) (v := .ref (ad 44)) (C := RX7) (T := TX7) (N := 27) hx hb hts inX7 hown hK hP 0 rfl rfl 22 (by decide) fl_59 (fun _ h9 => h9) rfl dX7_measures_140 ?_
          refine lv_iload_n hx hb dX7_measures_143 rfl (lv_at hl 3 rfl) ?_
          refine lv_iload hx hb dX7_measures_144 (lv_at hl 0 rfl) ?_
          obtain ⟨h_12, hw⟩ := hw
          refine va_iast hx hb hK hP hD hS 3 2 rfl rfl h_12 dX7_measures_146 (fun H locs hP hD hS => ?_)
          have hP : va_P D vwCl (cl_X7_measures ad cs vZ_players vZ_fill vZ_patience vZ_turn vZ_made vZ_out vZ_finishers vZ_thrown vZ_next (upd vZ_far (((121 : Int32) * x1) + (vZ_next (((6 : Int32) * (vZ_queue x3.toNatClampNeg)) + x4).toNatClampNeg)).toNatClampNeg ((vZ_far (((121 : Int32) * x1) + (vZ_queue x3.toNatClampNeg)).toNatClampNeg) + (1 : Int32))) (upd vZ_queue x2.toNatClampNeg (vZ_next (((6 : Int32) * (vZ_queue x3.toNatClampNeg)) + x4).toNatClampNeg))) H := hP
          have hD : va_D A (cl_X7_measures ad cs vZ_players vZ_fill vZ_patience vZ_turn vZ_made vZ_out vZ_finishers vZ_thrown vZ_next (upd vZ_far (((121 : Int32) * x1) + (vZ_next (((6 : Int32) * (vZ_queue x3.toNatClampNeg)) + x4).toNatClampNeg)).toNatClampNeg ((vZ_far (((121 : Int32) * x1) + (vZ_queue x3.toNatClampNeg)).toNatClampNeg) + (1 : Int32))) (upd vZ_queue x2.toNatClampNeg (vZ_next (((6 : Int32) * (vZ_queue x3.toNatClampNeg)) + x4).toNatClampNeg))) := hD
          refine lv_iinc (v := (x2 + (1 : Int32))) (lv' := [(2, .int (x2 + (1 : Int32))), (5, .int (vZ_next (((6 : Int32) * (vZ_queue x3.toNatClampNeg)) + x4).toNatClampNeg)), (0, .ref (ad 28)), (1, .int x1), (3, .int x3), (4, .int x4)]) hx hb dX7_measures_147 hl (k := 3) rfl rfl (by decide) rfl (fun ls hl => ?_)
          refine lv_iinc (v := (x4 + (1 : Int32))) (lv' := [(4, .int (x4 + (1 : Int32))), (2, .int (x2 + (1 : Int32))), (5, .int (vZ_next (((6 : Int32) * (vZ_queue x3.toNatClampNeg)) + x4).toNatClampNeg)), (0, .ref (ad 28)), (1, .int x1), (3, .int x3)]) hx hb dX7_measures_150 hl (k := 5) rfl rfl (by decide) rfl (fun ls hl => ?_)
          refine lv_goto (tgt := 59) hx hb dX7_measures_153 (by decide) ?_
          exact hw _ _ _ hP hD hS (lv_sub hl [3, 4, 1, 5, 0] rfl)
  have hL51 : ∀ (x1 : Int32) (K51 : (Nat → Int32) → (Nat → Int32) → Prop) (vZ_far vZ_queue : Nat → Int32) (x2 x3 : Int32), wl_X7_measures_51 vZ_next x1 K51 vZ_far vZ_queue x2 x3 → (∀ (vZ_far vZ_queue : Nat → Int32), K51 vZ_far vZ_queue → ∀ (H : Heap) (locs : List Loc) (ls : Array Slot), va_P D vwCl (cl_X7_measures ad cs vZ_players vZ_fill vZ_patience vZ_turn vZ_made vZ_out vZ_finishers vZ_thrown vZ_next vZ_far vZ_queue) H → va_D A (cl_X7_measures ad cs vZ_players vZ_fill vZ_patience vZ_turn vZ_made vZ_out vZ_finishers vZ_thrown vZ_next vZ_far vZ_queue) → va_S A s.heap H locs → lv_has ls 6 [] → W p l e rm_X7_measures s m args below meth c H locs 0 0 QQ (F0 m 162 ls [])) → ∀ (H : Heap) (locs : List Loc) (ls : Array Slot), va_P D vwCl (cl_X7_measures ad cs vZ_players vZ_fill vZ_patience vZ_turn vZ_made vZ_out vZ_finishers vZ_thrown vZ_next vZ_far vZ_queue) H → va_D A (cl_X7_measures ad cs vZ_players vZ_fill vZ_patience vZ_turn vZ_made vZ_out vZ_finishers vZ_thrown vZ_next vZ_far vZ_queue) → va_S A s.heap H locs → lv_has ls 6 [(0, .ref (ad 28)), (1, .int x1), (2, .int x2), (3, .int x3)] → W p l e rm_X7_measures s m args below meth c H locs 0 0 QQ (F0 m 51 ls []) := by
    intro x1 K51 vZ_far vZ_queue x2 x3 hw hK51
    unfold wl_X7_measures_51 at hw
    refine hw (fun (vZ_far vZ_queue : Nat → Int32) (x2 x3 : Int32) => ∀ (H : Heap) (locs : List Loc) (ls : Array Slot), va_P D vwCl (cl_X7_measures ad cs vZ_players vZ_fill vZ_patience vZ_turn vZ_made vZ_out vZ_finishers vZ_thrown vZ_next vZ_far vZ_queue) H → va_D A (cl_X7_measures ad cs vZ_players vZ_fill vZ_patience vZ_turn vZ_made vZ_out vZ_finishers vZ_thrown vZ_next vZ_far vZ_queue) → va_S A s.heap H locs → lv_has ls 6 [(0, .ref (ad 28)), (1, .int x1), (2, .int x2), (3, .int x3)] → W p l e rm_X7_measures s m args below meth c H locs 0 0 QQ (F0 m 51 ls [])) ?_
    intro vZ_far vZ_queue x2 x3 hw H locs ls hP hD hS hl
    unfold wb_X7_measures_51 at hw
    refine lv_iload_n hx hb dX7_measures_51 rfl (lv_at hl 3 rfl) ?_
    refine lv_iload_n hx hb dX7_measures_52 rfl (lv_at hl 2 rfl) ?_
    refine lv_icmp_ge (tgt := 162) hx hb dX7_measures_53 (by decide) (fun c_13 => ?_) (fun c_13 => ?_)
    · have hw := hw.1 c_13
      exact hK51 vZ_far vZ_queue hw _ _ _ hP hD hS (lv_sub hl [] rfl)
    · have hw := hw.2 c_13
      refine lv_iconst (v := (0 : Int32)) hx hb dX7_measures_56 (by decide) ?_
      refine lv_istore (lv' := [(4, .int (0 : Int32)), (0, .ref (ad 28)), (1, .int x1), (2, .int x2), (3, .int x3)]) hx hb dX7_measures_57 hl (by decide) rfl (fun ls hl => ?_)
      refine hL59 x1 x3 _ vZ_far vZ_queue x2 (0 : Int32) hw ?_ _ _ _ hP hD hS (lv_sub hl [1, 2, 3, 4, 0] rfl)
      intro vZ_far_14 vZ_queue_15 x2_16 hw H locs ls hP hD hS hl
      refine lv_iinc (v := (x3 + (1 : Int32))) (lv' := [(3, .int (x3 + (1 : Int32))), (0, .ref (ad 28)), (1, .int x1), (2, .int x2_16)]) hx hb dX7_measures_156 hl (k := 3) rfl rfl (by decide) rfl (fun ls hl => ?_)
      refine lv_goto (tgt := 51) hx hb dX7_measures_159 (by decide) ?_
      exact hw _ _ _ hP hD hS (lv_sub hl [1, 2, 3, 0] rfl)
  obtain ⟨H, hH⟩ : ∃ H : Heap, H = s.heap := ⟨_, rfl⟩
  have hS : va_S A s.heap H [] := by rw [hH]; exact va_S.rf
  rw [← hH] at hP ⊢
  unfold wp_X7_measures at hw
  refine lv_iconst (v := (0 : Int32)) hx hb dX7_measures_0 (by decide) ?_
  refine lv_istore_n (lv' := [(2, .int (0 : Int32)), (0, .ref (ad 28)), (1, .int x1)]) hx hb dX7_measures_1 rfl hl (by decide) rfl (fun ls hl => ?_)
  refine hL2 x1 _ vZ_far (0 : Int32) _ hw ?_ _ _ _ hP hD hS (lv_sub hl [1, 2, 0] rfl)
  intro vZ_far_17 hw H locs ls hP hD hS hl
  refine lv_aload_n hx hb dX7_measures_28 rfl (lv_at hl 0 rfl) ?_
  refine va_get (D := D) (ci := 7) (v := .ref (ad 33)) (C := RX7) (T := TX7) (N := 27) hx hb hts inX7 hown hK hP 0 rfl rfl 4 (by decide) fl_22 (fun _ h9 => h9) rfl dX7_measures_29 ?_
  refine lv_bipush (v := (121 : Int32)) hx hb dX7_measures_32 (by decide) ?_
  refine lv_iload_n hx hb dX7_measures_34 rfl (lv_at hl 1 rfl) ?_
  refine lv_imul hx hb dX7_measures_35 ?_
  refine lv_iload_n hx hb dX7_measures_36 rfl (lv_at hl 1 rfl) ?_
  refine lv_iadd hx hb dX7_measures_37 ?_
  refine lv_iconst (v := (0 : Int32)) hx hb dX7_measures_38 (by decide) ?_
  obtain ⟨h_18, hw⟩ := hw
  refine va_iast hx hb hK hP hD hS 2 1 rfl rfl h_18 dX7_measures_39 (fun H locs hP hD hS => ?_)
  have hP : va_P D vwCl (cl_X7_measures ad cs vZ_players vZ_fill vZ_patience vZ_turn vZ_made vZ_out vZ_finishers vZ_thrown vZ_next (upd vZ_far_17 (((121 : Int32) * x1) + x1).toNatClampNeg (0 : Int32)) vZ_queue) H := hP
  have hD : va_D A (cl_X7_measures ad cs vZ_players vZ_fill vZ_patience vZ_turn vZ_made vZ_out vZ_finishers vZ_thrown vZ_next (upd vZ_far_17 (((121 : Int32) * x1) + x1).toNatClampNeg (0 : Int32)) vZ_queue) := hD
  refine lv_aload_n hx hb dX7_measures_40 rfl (lv_at hl 0 rfl) ?_
  refine va_get (D := D) (ci := 7) (v := .ref (ad 44)) (C := RX7) (T := TX7) (N := 27) hx hb hts inX7 hown hK hP 0 rfl rfl 22 (by decide) fl_59 (fun _ h9 => h9) rfl dX7_measures_41 ?_
  refine lv_iconst (v := (0 : Int32)) hx hb dX7_measures_44 (by decide) ?_
  refine lv_iload_n hx hb dX7_measures_45 rfl (lv_at hl 1 rfl) ?_
  obtain ⟨h_19, hw⟩ := hw
  refine va_iast hx hb hK hP hD hS 3 2 rfl rfl h_19 dX7_measures_46 (fun H locs hP hD hS => ?_)
  have hP : va_P D vwCl (cl_X7_measures ad cs vZ_players vZ_fill vZ_patience vZ_turn vZ_made vZ_out vZ_finishers vZ_thrown vZ_next (upd vZ_far_17 (((121 : Int32) * x1) + x1).toNatClampNeg (0 : Int32)) (upd vZ_queue (0 : Int32).toNatClampNeg x1)) H := hP
  have hD : va_D A (cl_X7_measures ad cs vZ_players vZ_fill vZ_patience vZ_turn vZ_made vZ_out vZ_finishers vZ_thrown vZ_next (upd vZ_far_17 (((121 : Int32) * x1) + x1).toNatClampNeg (0 : Int32)) (upd vZ_queue (0 : Int32).toNatClampNeg x1)) := hD
  refine lv_iconst (v := (1 : Int32)) hx hb dX7_measures_47 (by decide) ?_
  refine lv_istore_n (lv' := [(2, .int (1 : Int32)), (0, .ref (ad 28)), (1, .int x1)]) hx hb dX7_measures_48 rfl hl (by decide) rfl (fun ls hl => ?_)
  refine lv_iconst (v := (0 : Int32)) hx hb dX7_measures_49 (by decide) ?_
  refine lv_istore_n (lv' := [(3, .int (0 : Int32)), (2, .int (1 : Int32)), (0, .ref (ad 28)), (1, .int x1)]) hx hb dX7_measures_50 rfl hl (by decide) rfl (fun ls hl => ?_)
  refine hL51 x1 _ (upd vZ_far_17 (((121 : Int32) * x1) + x1).toNatClampNeg (0 : Int32)) (upd vZ_queue (0 : Int32).toNatClampNeg x1) (1 : Int32) (0 : Int32) hw ?_ _ _ _ hP hD hS (lv_sub hl [2, 3, 1, 0] rfl)
  intro vZ_far_20 vZ_queue_21 hw H locs ls hP hD hS hl
  exact hret _ _ _ _ _ _ hw hP hD hS dX7_measures_162
set_option maxHeartbeats 4000000 in
set_option maxRecDepth 100000 in
theorem c_X7_measures (l : Launch) (D : va_G) (ad : Nat → Nat) (cs : Nat → ClassId) (sz : Nat) (vZ_players vZ_fill vZ_patience vZ_turn vZ_made vZ_out vZ_finishers vZ_thrown : Int32) (vZ_next vZ_far vZ_queue : Nat → Int32) (x1 : Int32) (Q : (Nat → Int32) → (Nat → Int32) → Prop) (hw : wp_X7_measures vZ_players vZ_fill vZ_patience vZ_turn vZ_made vZ_out vZ_finishers vZ_thrown vZ_next vZ_far vZ_queue x1 Q) :
  Met l yX7_measures wsX7_measures rm_X7_measures (va_Pc [.ref (ad 28), .int x1] (PX D (cl_X7_measures ad cs vZ_players vZ_fill vZ_patience vZ_turn vZ_made vZ_out vZ_finishers vZ_thrown vZ_next vZ_far vZ_queue) (ty_X7_measures cs) sz)) (va_Qv (fun (u : (Nat → Int32) × (Nat → Int32)) => Q u.1 u.2) (fun (u : (Nat → Int32) × (Nat → Int32)) t => va_P D vwCl (cl_X7_measures ad cs vZ_players vZ_fill vZ_patience vZ_turn vZ_made vZ_out vZ_finishers vZ_thrown vZ_next u.1 u.2) t.heap ∧ va_D (va_A (cl_X7_measures ad cs vZ_players vZ_fill vZ_patience vZ_turn vZ_made vZ_out vZ_finishers vZ_thrown vZ_next vZ_far vZ_queue) sz) (cl_X7_measures ad cs vZ_players vZ_fill vZ_patience vZ_turn vZ_made vZ_out vZ_finishers vZ_thrown vZ_next u.1 u.2)) (va_A (cl_X7_measures ad cs vZ_players vZ_fill vZ_patience vZ_turn vZ_made vZ_out vZ_finishers vZ_thrown vZ_next vZ_far vZ_queue) sz)) 0 0 (va_A (cl_X7_measures ad cs vZ_players vZ_fill vZ_patience vZ_turn vZ_made vZ_out vZ_finishers vZ_thrown vZ_next vZ_far vZ_queue) sz) := by
  refine Met.ofW (cc := cX7_measures) (maxL := 6) (ret := none) (by decide) rfl ?_
  intro p e s m args below meth c s₁ B hml hv
  obtain ⟨rfl, hsz, hP, hK, hD0, hN⟩ := hv
  subst hsz
  have hl := lv_entry ([.ref (ad 28), .int x1]) (n := 6) (Nat.le_of_ble_eq_true rfl)
  rw [lg_entry_eq]
  have hx := B.exec
  have hb := B.bytes
  have hr := B.returns
  exact b_X7_measures l D ad cs vZ_players vZ_fill vZ_patience vZ_turn vZ_made vZ_out vZ_finishers vZ_thrown vZ_next vZ_far vZ_queue x1 Q hx hb hml (findClass_of_methodNamed B.named) (atoms_spec (ws := wsX7_measures) B.pre) hN hP hK hD0.self (fun q h => Or.inr h) hl (fun o0 o1 H locs pc ls hq hP hD hS hd => W.vret hx hb hr (fun t ht hW => ⟨⟨(o0, o1), rfl, hq, by rw [ht]; exact hP, hD⟩, hS.F ht⟩) hS.2.2 hd) hw
abbrev rm_X7_plays : Room := { frames := 1, cells := 0, slots := 0, locals := 22 }
abbrev cl_X7_plays (ad : Nat → Nat) (cs : Nat → ClassId) (vZ_players vZ_fill vZ_patience vZ_turn vZ_made vZ_out vZ_finishers vZ_thrown : Int32) : va_W := [((ad 28), .inr (7, [.ref (ad 29), .ref (ad 30), .ref (ad 31), .ref (ad 32), .ref (ad 33), .ref (ad 34), .int vZ_players, .int vZ_fill, .int vZ_patience, .ref (ad 35), .int vZ_turn, .int vZ_made, .int vZ_out, .ref (ad 36), .int vZ_finishers, .ref (ad 37), .ref (ad 38), .ref (ad 39), .ref (ad 40), .ref (ad 41), .ref (ad 42), .ref (ad 43), .ref (ad 44), .ref (ad 45), .ref (ad 46), .ref (ad 47), .int vZ_thrown]))]
abbrev ty_X7_plays (cs : Nat → ClassId) : List (ClassId × FieldType) := []
def wp_X7_plays (vZ_players vZ_fill vZ_patience vZ_turn vZ_made vZ_out vZ_finishers vZ_thrown x1 : Int32) (Q : Int32 → Prop) : Prop :=
 wp_X7_isIn x1 (0 : Int32) (5 : Int32) (fun r_1 =>
 ((r_1 = 0 → Q (0 : Int32)) ∧
 (¬ r_1 = 0 → ((¬ ((vZ_players >>> (x1 &&& 31)) &&& (1 : Int32)) = (1 : Int32) → Q (0 : Int32)) ∧
 (((vZ_players >>> (x1 &&& 31)) &&& (1 : Int32)) = (1 : Int32) → Q (1 : Int32))))))
set_option maxHeartbeats 4000000 in
set_option maxRecDepth 100000 in
theorem b_X7_plays {p : Program} {e : Env} {s : State} {m : MethodId} {args : Array Value} {below : List Frame} {meth : Method} {c : Code} {QQ : State → Prop} {A : Nat → Prop} {ls : Array Slot} (l : Launch) (D : va_G) (ad : Nat → Nat) (cs : Nat → ClassId) (vZ_players vZ_fill vZ_patience vZ_turn vZ_made vZ_out vZ_finishers vZ_thrown x1 : Int32) (Q : Int32 → Prop) (hx : p.tables.exec = Jvm.exec) (hb : c.code = cX7_plays) (hml : c.maxLocals = 2) (hown : s.vm.findClass RX7 = some m.cls) (hts : ∀ w ∈ wsX7_plays, w.before args s = true) (hN : NW s) (hP : va_P D vwCl (cl_X7_plays ad cs vZ_players vZ_fill vZ_patience vZ_turn vZ_made vZ_out vZ_finishers vZ_thrown) s.heap) (hK : va_K D vwCl (ty_X7_plays cs) s) (hD : va_D A (cl_X7_plays ad cs vZ_players vZ_fill vZ_patience vZ_turn vZ_made vZ_out vZ_finishers vZ_thrown)) (hA : ∀ q : Nat, s.heap.size ≤ q → A q) (hl : lv_has ls 2 [(0, .ref (ad 28)), (1, .int x1)])
  (hret : ∀ (r : Int32) (pc : Nat) (ls : Array Slot), nb r → Q r → decode cX7_plays pc = .ok (.ireturn, 1) → W p l e rm_X7_plays s m args below meth c s.heap [] 0 0 QQ (F0 m pc ls [.int r]))
  (hw : wp_X7_plays vZ_players vZ_fill vZ_patience vZ_turn vZ_made vZ_out vZ_finishers vZ_thrown x1 Q) :
  W p l e rm_X7_plays s m args below meth c s.heap [] 0 0 QQ (F0 m 0 ls []) := by
  have S0 : CallFix p m c cX7_plays 2 s args wsX7_plays RX7 := ⟨hx, hb, hml, hown, hts⟩
  have inX7 : ∀ w ∈ u_ws RX7 TX7 27, w ∈ wsX7_plays := by decide +kernel
  have fl_93 := hts (.fieldLink RX7 93 "HopperCourtModel" "players" "I") (by decide +kernel)
  unfold wp_X7_plays at hw
  refine lv_iload_n hx hb dX7_plays_0 rfl (lv_at hl 1 rfl) ?_
  refine lv_iconst (v := (0 : Int32)) hx hb dX7_plays_1 (by decide) ?_
  refine lv_iconst (v := (5 : Int32)) hx hb dX7_plays_2 (by decide) ?_
  refine pcS (rest := []) S0 (c_X7_isIn l D ad cs s.heap.size x1 (0 : Int32) (5 : Int32) _ hw) (va_cwS 3 hts gX7_plays_X7_isIn rfl rfl rfl (by decide +kernel) ⟨Nat.le_of_ble_eq_true rfl, Nat.le_of_ble_eq_true rfl⟩) hN hK hP hD [] [] rfl rfl rfl rfl rfl hl.1 (Nat.le_of_ble_eq_true rfl) ⟨Nat.le_of_ble_eq_true rfl, Nat.le_of_ble_eq_true rfl⟩ dX7_plays_3 (fun r_1 hw => ?_)
  refine lv_if_eq (tgt := 25) hx hb dX7_plays_6 (by decide) (fun c_2 => ?_) (fun c_2 => ?_)
  · have hw := hw.1 c_2
    refine lv_iconst (v := (0 : Int32)) hx hb dX7_plays_25 (by decide) ?_
    exact hret _ _ _ nb_0 hw dX7_plays_26
  · have hw := hw.2 c_2
    refine lv_aload_n hx hb dX7_plays_9 rfl (lv_at hl 0 rfl) ?_
    refine va_get (D := D) (ci := 7) (v := .int vZ_players) (C := RX7) (T := TX7) (N := 27) hx hb hts inX7 hown hK hP 0 rfl rfl 6 (by decide) fl_93 (fun _ h9 => h9) rfl dX7_plays_10 ?_
    refine lv_iload_n hx hb dX7_plays_13 rfl (lv_at hl 1 rfl) ?_
    refine lv_ishr hx hb dX7_plays_14 ?_
    refine lv_iconst (v := (1 : Int32)) hx hb dX7_plays_15 (by decide) ?_
    refine lv_iand hx hb dX7_plays_16 ?_
    refine lv_iconst (v := (1 : Int32)) hx hb dX7_plays_17 (by decide) ?_
    refine lv_icmp_ne (tgt := 25) hx hb dX7_plays_18 (by decide) (fun c_3 => ?_) (fun c_3 => ?_)
    · have hw := hw.1 c_3
      refine lv_iconst (v := (0 : Int32)) hx hb dX7_plays_25 (by decide) ?_
      exact hret _ _ _ nb_0 hw dX7_plays_26
    · have hw := hw.2 c_3
      refine lv_iconst (v := (1 : Int32)) hx hb dX7_plays_21 (by decide) ?_
      refine lv_goto (tgt := 26) hx hb dX7_plays_22 (by decide) ?_
      exact hret _ _ _ nb_1 hw dX7_plays_26
set_option maxHeartbeats 4000000 in
set_option maxRecDepth 100000 in
theorem c_X7_plays (l : Launch) (D : va_G) (ad : Nat → Nat) (cs : Nat → ClassId) (sz : Nat) (vZ_players vZ_fill vZ_patience vZ_turn vZ_made vZ_out vZ_finishers vZ_thrown x1 : Int32) (Q : Int32 → Prop) (hw : wp_X7_plays vZ_players vZ_fill vZ_patience vZ_turn vZ_made vZ_out vZ_finishers vZ_thrown x1 Q) :
  Met l yX7_plays wsX7_plays rm_X7_plays (va_Pc [.ref (ad 28), .int x1] (PX D (cl_X7_plays ad cs vZ_players vZ_fill vZ_patience vZ_turn vZ_made vZ_out vZ_finishers vZ_thrown) (ty_X7_plays cs) sz)) (vp_Si Q) 0 0 (fun _ => False) := by
  refine Met.ofW (cc := cX7_plays) (maxL := 2) (ret := (some .boolean)) (by decide) rfl ?_
  intro p e s m args below meth c s₁ B hml hv
  obtain ⟨rfl, hsz, hP, hK, hD0, hN⟩ := hv
  subst hsz
  have hl := lv_entry ([.ref (ad 28), .int x1]) (n := 2) (Nat.le_of_ble_eq_true rfl)
  rw [lg_entry_eq]
  have hx := B.exec
  have hb := B.bytes
  have hr := B.returns
  exact b_X7_plays l D ad cs vZ_players vZ_fill vZ_patience vZ_turn vZ_made vZ_out vZ_finishers vZ_thrown x1 Q hx hb hml (findClass_of_methodNamed B.named) (atoms_spec (ws := wsX7_plays) B.pre) hN hP hK hD0.self (fun q h => Or.inr h) hl (A := va_A (cl_X7_plays ad cs vZ_players vZ_fill vZ_patience vZ_turn vZ_made vZ_out vZ_finishers vZ_thrown) s.heap.size) (fun r pc ls hn hq hd => W.zret (v := r) hx hb hr hn (fun t ht hW => ⟨r, rfl, hq, ht⟩) (fun _ h => nomatch h) hd) hw
abbrev rm_X7_begin : Room := { frames := 2, cells := 0, slots := 0, locals := 43 }
abbrev cl_X7_begin (ad : Nat → Nat) (cs : Nat → ClassId) (vZ_players vZ_fill vZ_patience vZ_turn vZ_made vZ_out vZ_finishers vZ_thrown : Int32) (vZ_camp vZ_board vZ_movesOf : Nat → Int32) : va_W := [((ad 28), .inr (7, [.ref (ad 29), .ref (ad 30), .ref (ad 31), .ref (ad 32), .ref (ad 33), .ref (ad 34), .int vZ_players, .int vZ_fill, .int vZ_patience, .ref (ad 35), .int vZ_turn, .int vZ_made, .int vZ_out, .ref (ad 36), .int vZ_finishers, .ref (ad 37), .ref (ad 38), .ref (ad 39), .ref (ad 40), .ref (ad 41), .ref (ad 42), .ref (ad 43), .ref (ad 44), .ref (ad 45), .ref (ad 46), .ref (ad 47), .int vZ_thrown])), ((ad 31), .inl ((cs 31), 121, .inl vZ_camp)), ((ad 35), .inl ((cs 35), 121, .inl vZ_board)), ((ad 36), .inl ((cs 36), 6, .inl vZ_movesOf))]
abbrev ty_X7_begin (cs : Nat → ClassId) : List (ClassId × FieldType) := [((cs 31), .int), ((cs 35), .int), ((cs 36), .int)]
def wb_X7_begin_4 (x1 : Int32) (K4 : Int32 → Prop) (P4 : Int32 → Int32 → Prop) (x2 x3 : Int32) : Prop :=
 (((6 : Int32) ≤ x3 → K4 x2) ∧
 (¬ (6 : Int32) ≤ x3 → P4 (x2 + ((x1 >>> (x3 &&& 31)) &&& (1 : Int32))) (x3 + (1 : Int32))))
def wl_X7_begin_4 (x1 : Int32) (K4 : Int32 → Prop) (x2 x3 : Int32) : Prop := ∀ P4 : Int32 → Int32 → Prop, (∀ (x2 x3 : Int32), wb_X7_begin_4 x1 K4 P4 x2 x3 → P4 x2 x3) → P4 x2 x3
def wJ_X7_begin_92 (vZ_board : Nat → Int32) (x3 t1 t2 : Int32) (P58 : (Nat → Int32) → Int32 → Prop) : Prop :=
 (vp_in t1 121 ∧
 P58 (upd vZ_board t1.toNatClampNeg t2) (x3 + (1 : Int32)))
def wb_X7_begin_58 (vZ_players vZ_fill vZ_patience vZ_turn vZ_made vZ_out vZ_finishers vZ_thrown : Int32) (vZ_camp : Nat → Int32) (K58 : (Nat → Int32) → Prop) (P58 : (Nat → Int32) → Int32 → Prop) (vZ_board : Nat → Int32) (x3 : Int32) : Prop :=
 (((121 : Int32) ≤ x3 → K58 vZ_board) ∧
 (¬ (121 : Int32) ≤ x3 → (vp_in x3 121 ∧
 wp_X7_plays vZ_players vZ_fill vZ_patience vZ_turn vZ_made vZ_out vZ_finishers vZ_thrown (vZ_camp x3.toNatClampNeg) (fun r_5 =>
 ((r_5 = 0 → wJ_X7_begin_92 vZ_board x3 x3 (-1 : Int32) P58) ∧
 (¬ r_5 = 0 → (vp_in x3 121 ∧
 wJ_X7_begin_92 vZ_board x3 x3 (vZ_camp x3.toNatClampNeg) P58)))))))
def wl_X7_begin_58 (vZ_players vZ_fill vZ_patience vZ_turn vZ_made vZ_out vZ_finishers vZ_thrown : Int32) (vZ_camp : Nat → Int32) (K58 : (Nat → Int32) → Prop) (vZ_board : Nat → Int32) (x3 : Int32) : Prop := ∀ P58 : (Nat → Int32) → Int32 → Prop, (∀ (vZ_board : Nat → Int32) (x3 : Int32), wb_X7_begin_58 vZ_players vZ_fill vZ_patience vZ_turn vZ_made vZ_out vZ_finishers vZ_thrown vZ_camp K58 P58 vZ_board x3 → P58 vZ_board x3) → P58 vZ_board x3
def wJ_X7_begin_129 (vZ_movesOf : Nat → Int32) (x3 t1 : Int32) (P101 : Int32 → (Nat → Int32) → Int32 → Prop) : Prop :=
 P101 t1 vZ_movesOf (x3 + (-1 : Int32))
def wb_X7_begin_101 (vZ_players vZ_fill vZ_patience vZ_made vZ_out vZ_finishers vZ_thrown : Int32) (K101 : Int32 → (Nat → Int32) → Prop) (P101 : Int32 → (Nat → Int32) → Int32 → Prop) (vZ_turn : Int32) (vZ_movesOf : Nat → Int32) (x3 : Int32) : Prop :=
 ((x3 < 0 → K101 vZ_turn vZ_movesOf) ∧
 (¬ x3 < 0 → (vp_in x3 6 ∧
 wp_X7_plays vZ_players vZ_fill vZ_patience vZ_turn vZ_made vZ_out vZ_finishers vZ_thrown x3 (fun r_10 =>
 ((r_10 = 0 → wJ_X7_begin_129 (upd vZ_movesOf x3.toNatClampNeg (0 : Int32)) x3 vZ_turn P101) ∧
 (¬ r_10 = 0 → wJ_X7_begin_129 (upd vZ_movesOf x3.toNatClampNeg (0 : Int32)) x3 x3 P101))))))
def wl_X7_begin_101 (vZ_players vZ_fill vZ_patience vZ_made vZ_out vZ_finishers vZ_thrown : Int32) (K101 : Int32 → (Nat → Int32) → Prop) (vZ_turn : Int32) (vZ_movesOf : Nat → Int32) (x3 : Int32) : Prop := ∀ P101 : Int32 → (Nat → Int32) → Int32 → Prop, (∀ (vZ_turn : Int32) (vZ_movesOf : Nat → Int32) (x3 : Int32), wb_X7_begin_101 vZ_players vZ_fill vZ_patience vZ_made vZ_out vZ_finishers vZ_thrown K101 P101 vZ_turn vZ_movesOf x3 → P101 vZ_turn vZ_movesOf x3) → P101 vZ_turn vZ_movesOf x3
def wJ_X7_begin_45 (vZ_players vZ_fill vZ_patience vZ_turn vZ_made vZ_out vZ_finishers vZ_thrown : Int32) (vZ_camp vZ_board vZ_movesOf : Nat → Int32) (x1 t1 : Int32) (Q : Int32 → Int32 → Int32 → Int32 → Int32 → Int32 → (Nat → Int32) → (Nat → Int32) → Prop) : Prop :=
 wp_X7_can vZ_players vZ_fill vZ_patience vZ_turn vZ_made vZ_out vZ_finishers vZ_thrown t1 (fun r_12 vZ_thrown_13 =>
 ((r_12 = 0 → Q vZ_players vZ_turn vZ_made vZ_out vZ_finishers vZ_thrown_13 vZ_board vZ_movesOf) ∧
 (¬ r_12 = 0 → wl_X7_begin_58 x1 vZ_fill vZ_patience vZ_turn vZ_made vZ_out vZ_finishers vZ_thrown_13 vZ_camp (fun vZ_board_15 => wl_X7_begin_101 x1 vZ_fill vZ_patience vZ_made vZ_out vZ_finishers vZ_thrown_13 (fun vZ_turn_16 vZ_movesOf_17 => Q x1 vZ_turn_16 (0 : Int32) (0 : Int32) (0 : Int32) vZ_thrown_13 vZ_board_15 vZ_movesOf_17) vZ_turn vZ_movesOf (5 : Int32)) vZ_board (0 : Int32))))
def wp_X7_begin (vZ_players vZ_fill vZ_patience vZ_turn vZ_made vZ_out vZ_finishers vZ_thrown : Int32) (vZ_camp vZ_board vZ_movesOf : Nat → Int32) (x1 : Int32) (Q : Int32 → Int32 → Int32 → Int32 → Int32 → Int32 → (Nat → Int32) → (Nat → Int32) → Prop) : Prop :=
 wl_X7_begin_4 x1 (fun x2_18 => wp_X7_isIn x1 (0 : Int32) (63 : Int32) (fun r_19 =>
 ((r_19 = 0 → wJ_X7_begin_45 vZ_players vZ_fill vZ_patience vZ_turn vZ_made vZ_out vZ_finishers vZ_thrown vZ_camp vZ_board vZ_movesOf x1 (1 : Int32) Q) ∧
 (¬ r_19 = 0 → ((x2_18 < (2 : Int32) → wJ_X7_begin_45 vZ_players vZ_fill vZ_patience vZ_turn vZ_made vZ_out vZ_finishers vZ_thrown vZ_camp vZ_board vZ_movesOf x1 (1 : Int32) Q) ∧
 (¬ x2_18 < (2 : Int32) → wJ_X7_begin_45 vZ_players vZ_fill vZ_patience vZ_turn vZ_made vZ_out vZ_finishers vZ_thrown vZ_camp vZ_board vZ_movesOf x1 (0 : Int32) Q)))))) (0 : Int32) (0 : Int32)
set_option maxHeartbeats 4000000 in
set_option maxRecDepth 100000 in
theorem b_X7_begin {p : Program} {e : Env} {s : State} {m : MethodId} {args : Array Value} {below : List Frame} {meth : Method} {c : Code} {QQ : State → Prop} {A : Nat → Prop} {ls : Array Slot} (l : Launch) (D : va_G) (ad : Nat → Nat) (cs : Nat → ClassId) (vZ_players vZ_fill vZ_patience vZ_turn vZ_made vZ_out vZ_finishers vZ_thrown : Int32) (vZ_camp vZ_board vZ_movesOf : Nat → Int32) (x1 : Int32) (Q : Int32 → Int32 → Int32 → Int32 → Int32 → Int32 → (Nat → Int32) → (Nat → Int32) → Prop) (hx : p.tables.exec = Jvm.exec) (hb : c.code = cX7_begin) (hml : c.maxLocals = 4) (hown : s.vm.findClass RX7 = some m.cls) (hts : ∀ w ∈ wsX7_begin, w.before args s = true) (hN : NW s) (hP : va_P D vwCl (cl_X7_begin ad cs vZ_players vZ_fill vZ_patience vZ_turn vZ_made vZ_out vZ_finishers vZ_thrown vZ_camp vZ_board vZ_movesOf) s.heap) (hK : va_K D vwCl (ty_X7_begin cs) s) (hD : va_D A (cl_X7_begin ad cs vZ_players vZ_fill vZ_patience vZ_turn vZ_made vZ_out vZ_finishers vZ_thrown vZ_camp vZ_board vZ_movesOf)) (hA : ∀ q : Nat, s.heap.size ≤ q → A q) (hl : lv_has ls 4 [(0, .ref (ad 28)), (1, .int x1)])
  (hret : ∀ (o0 : Int32) (o1 : Int32) (o2 : Int32) (o3 : Int32) (o4 : Int32) (o5 : Int32) (o6 : Nat → Int32) (o7 : Nat → Int32) (H : Heap) (locs : List Loc) (pc : Nat) (ls : Array Slot), Q o0 o1 o2 o3 o4 o5 o6 o7 → va_P D vwCl (cl_X7_begin ad cs o0 vZ_fill vZ_patience o1 o2 o3 o4 o5 vZ_camp o6 o7) H → va_D A (cl_X7_begin ad cs o0 vZ_fill vZ_patience o1 o2 o3 o4 o5 vZ_camp o6 o7) → va_S A s.heap H locs → decode cX7_begin pc = .ok (.return_, 1) → W p l e rm_X7_begin s m args below meth c H locs 0 0 QQ (F0 m pc ls []))
  (hw : wp_X7_begin vZ_players vZ_fill vZ_patience vZ_turn vZ_made vZ_out vZ_finishers vZ_thrown vZ_camp vZ_board vZ_movesOf x1 Q) :
  W p l e rm_X7_begin s m args below meth c s.heap [] 0 0 QQ (F0 m 0 ls []) := by
  have S0 : CallFix p m c cX7_begin 4 s args wsX7_begin RX7 := ⟨hx, hb, hml, hown, hts⟩
  have inX7 : ∀ w ∈ u_ws RX7 TX7 27, w ∈ wsX7_begin := by decide +kernel
  have fl_103 := hts (.fieldLink RX7 103 "HopperCourtModel" "made" "I") (by decide +kernel)
  have fl_106 := hts (.fieldLink RX7 106 "HopperCourtModel" "out" "I") (by decide +kernel)
  have fl_109 := hts (.fieldLink RX7 109 "HopperCourtModel" "finishers" "I") (by decide +kernel)
  have fl_16 := hts (.fieldLink RX7 16 "HopperCourtModel" "camp" "[I") (by decide +kernel)
  have fl_32 := hts (.fieldLink RX7 32 "HopperCourtModel" "board" "[I") (by decide +kernel)
  have fl_35 := hts (.fieldLink RX7 35 "HopperCourtModel" "movesOf" "[I") (by decide +kernel)
  have fl_83 := hts (.fieldLink RX7 83 "HopperCourtModel" "turn" "I") (by decide +kernel)
  have fl_93 := hts (.fieldLink RX7 93 "HopperCourtModel" "players" "I") (by decide +kernel)
  have hL4 : ∀ (x1 : Int32) (K4 : Int32 → Prop) (x2 x3 vZ_players vZ_turn vZ_made vZ_out vZ_finishers vZ_thrown : Int32) (vZ_board vZ_movesOf : Nat → Int32), wl_X7_begin_4 x1 K4 x2 x3 → (∀ (x2 : Int32), K4 x2 → ∀ (H : Heap) (locs : List Loc) (ls : Array Slot), va_P D vwCl (cl_X7_begin ad cs vZ_players vZ_fill vZ_patience vZ_turn vZ_made vZ_out vZ_finishers vZ_thrown vZ_camp vZ_board vZ_movesOf) H → va_D A (cl_X7_begin ad cs vZ_players vZ_fill vZ_patience vZ_turn vZ_made vZ_out vZ_finishers vZ_thrown vZ_camp vZ_board vZ_movesOf) → va_S A s.heap H locs → lv_has ls 4 [(0, .ref (ad 28)), (1, .int x1), (2, .int x2)] → W p l e rm_X7_begin s m args below meth c H locs 0 0 QQ (F0 m 24 ls [])) → ∀ (H : Heap) (locs : List Loc) (ls : Array Slot), va_P D vwCl (cl_X7_begin ad cs vZ_players vZ_fill vZ_patience vZ_turn vZ_made vZ_out vZ_finishers vZ_thrown vZ_camp vZ_board vZ_movesOf) H → va_D A (cl_X7_begin ad cs vZ_players vZ_fill vZ_patience vZ_turn vZ_made vZ_out vZ_finishers vZ_thrown vZ_camp vZ_board vZ_movesOf) → va_S A s.heap H locs → lv_has ls 4 [(0, .ref (ad 28)), (1, .int x1), (2, .int x2), (3, .int x3)] → W p l e rm_X7_begin s m args below meth c H locs 0 0 QQ (F0 m 4 ls []) := by
    intro x1 K4 x2 x3 vZ_players vZ_turn vZ_made vZ_out vZ_finishers vZ_thrown vZ_board vZ_movesOf hw hK4
    unfold wl_X7_begin_4 at hw
    refine hw (fun (x2 x3 : Int32) => ∀ (H : Heap) (locs : List Loc) (ls : Array Slot), va_P D vwCl (cl_X7_begin ad cs vZ_players vZ_fill vZ_patience vZ_turn vZ_made vZ_out vZ_finishers vZ_thrown vZ_camp vZ_board vZ_movesOf) H → va_D A (cl_X7_begin ad cs vZ_players vZ_fill vZ_patience vZ_turn vZ_made vZ_out vZ_finishers vZ_thrown vZ_camp vZ_board vZ_movesOf) → va_S A s.heap H locs → lv_has ls 4 [(0, .ref (ad 28)), (1, .int x1), (2, .int x2), (3, .int x3)] → W p l e rm_X7_begin s m args below meth c H locs 0 0 QQ (F0 m 4 ls [])) ?_
    intro x2 x3 hw H locs ls hP hD hS hl
    unfold wb_X7_begin_4 at hw
    refine lv_iload_n hx hb dX7_begin_4 rfl (lv_at hl 3 rfl) ?_
    refine lv_bipush (v := (6 : Int32)) hx hb dX7_begin_5 (by decide) ?_
    refine lv_icmp_ge (tgt := 24) hx hb dX7_begin_7 (by decide) (fun c_1 => ?_) (fun c_1 => ?_)
    · have hw := hw.1 c_1
      exact hK4 x2 hw _ _ _ hP hD hS (lv_sub hl [0, 1, 2] rfl)
    · have hw := hw.2 c_1
      refine lv_iload_n hx hb dX7_begin_10 rfl (lv_at hl 2 rfl) ?_
      refine lv_iload_n hx hb dX7_begin_11 rfl (lv_at hl 1 rfl) ?_
      refine lv_iload_n hx hb dX7_begin_12 rfl (lv_at hl 3 rfl) ?_
      refine lv_ishr hx hb dX7_begin_13 ?_
      refine lv_iconst (v := (1 : Int32)) hx hb dX7_begin_14 (by decide) ?_
      refine lv_iand hx hb dX7_begin_15 ?_
      refine lv_iadd hx hb dX7_begin_16 ?_
      refine lv_istore_n (lv' := [(2, .int (x2 + ((x1 >>> (x3 &&& 31)) &&& (1 : Int32)))), (0, .ref (ad 28)), (1, .int x1), (3, .int x3)]) hx hb dX7_begin_17 rfl hl (by decide) rfl (fun ls hl => ?_)
      refine lv_iinc (v := (x3 + (1 : Int32))) (lv' := [(3, .int (x3 + (1 : Int32))), (2, .int (x2 + ((x1 >>> (x3 &&& 31)) &&& (1 : Int32)))), (0, .ref (ad 28)), (1, .int x1)]) hx hb dX7_begin_18 hl (k := 3) rfl rfl (by decide) rfl (fun ls hl => ?_)
      refine lv_goto (tgt := 4) hx hb dX7_begin_21 (by decide) ?_
      exact hw _ _ _ hP hD hS (lv_sub hl [2, 3, 1, 0] rfl)
  have hJ92 : ∀ (vZ_board : Nat → Int32) (x3 t1 t2 : Int32) (P58 : (Nat → Int32) → Int32 → Prop) (vZ_players vZ_turn vZ_made vZ_out vZ_finishers vZ_thrown : Int32) (vZ_movesOf : Nat → Int32), wJ_X7_begin_92 vZ_board x3 t1 t2 P58 → (∀ (vZ_board : Nat → Int32) (x3 : Int32), P58 vZ_board x3 → ∀ (H : Heap) (locs : List Loc) (ls : Array Slot), va_P D vwCl (cl_X7_begin ad cs vZ_players vZ_fill vZ_patience vZ_turn vZ_made vZ_out vZ_finishers vZ_thrown vZ_camp vZ_board vZ_movesOf) H → va_D A (cl_X7_begin ad cs vZ_players vZ_fill vZ_patience vZ_turn vZ_made vZ_out vZ_finishers vZ_thrown vZ_camp vZ_board vZ_movesOf) → va_S A s.heap H locs → lv_has ls 4 [(0, .ref (ad 28)), (3, .int x3)] → W p l e rm_X7_begin s m args below meth c H locs 0 0 QQ (F0 m 58 ls [])) → ∀ (H : Heap) (locs : List Loc) (ls : Array Slot), va_P D vwCl (cl_X7_begin ad cs vZ_players vZ_fill vZ_patience vZ_turn vZ_made vZ_out vZ_finishers vZ_thrown vZ_camp vZ_board vZ_movesOf) H → va_D A (cl_X7_begin ad cs vZ_players vZ_fill vZ_patience vZ_turn vZ_made vZ_out vZ_finishers vZ_thrown vZ_camp vZ_board vZ_movesOf) → va_S A s.heap H locs → lv_has ls 4 [(0, .ref (ad 28)), (3, .int x3)] → W p l e rm_X7_begin s m args below meth c H locs 0 0 QQ (F0 m 92 ls [.int t2, .int t1, .ref (ad 35)]) := by
    intro vZ_board x3 t1 t2 P58 vZ_players vZ_turn vZ_made vZ_out vZ_finishers vZ_thrown vZ_movesOf hw hB58 H locs ls hP hD hS hl
    unfold wJ_X7_begin_92 at hw
    obtain ⟨h_2, hw⟩ := hw
    refine va_iast hx hb hK hP hD hS 2 1 rfl rfl h_2 dX7_begin_92 (fun H locs hP hD hS => ?_)
    have hP : va_P D vwCl (cl_X7_begin ad cs vZ_players vZ_fill vZ_patience vZ_turn vZ_made vZ_out vZ_finishers vZ_thrown vZ_camp (upd vZ_board t1.toNatClampNeg t2) vZ_movesOf) H := hP
    have hD : va_D A (cl_X7_begin ad cs vZ_players vZ_fill vZ_patience vZ_turn vZ_made vZ_out vZ_finishers vZ_thrown vZ_camp (upd vZ_board t1.toNatClampNeg t2) vZ_movesOf) := hD
    refine lv_iinc (v := (x3 + (1 : Int32))) (lv' := [(3, .int (x3 + (1 : Int32))), (0, .ref (ad 28))]) hx hb dX7_begin_93 hl (k := 1) rfl rfl (by decide) rfl (fun ls hl => ?_)
    refine lv_goto (tgt := 58) hx hb dX7_begin_96 (by decide) ?_
    exact hB58 (upd vZ_board t1.toNatClampNeg t2) (x3 + (1 : Int32)) hw _ _ _ hP hD hS (lv_sub hl [1, 0] rfl)
  have hL58 : ∀ (vZ_players vZ_turn vZ_made vZ_out vZ_finishers vZ_thrown : Int32) (K58 : (Nat → Int32) → Prop) (vZ_board : Nat → Int32) (x3 : Int32) (vZ_movesOf : Nat → Int32), wl_X7_begin_58 vZ_players vZ_fill vZ_patience vZ_turn vZ_made vZ_out vZ_finishers vZ_thrown vZ_camp K58 vZ_board x3 → (∀ (vZ_board : Nat → Int32), K58 vZ_board → ∀ (H : Heap) (locs : List Loc) (ls : Array Slot), va_P D vwCl (cl_X7_begin ad cs vZ_players vZ_fill vZ_patience vZ_turn vZ_made vZ_out vZ_finishers vZ_thrown vZ_camp vZ_board vZ_movesOf) H → va_D A (cl_X7_begin ad cs vZ_players vZ_fill vZ_patience vZ_turn vZ_made vZ_out vZ_finishers vZ_thrown vZ_camp vZ_board vZ_movesOf) → va_S A s.heap H locs → lv_has ls 4 [(0, .ref (ad 28))] → W p l e rm_X7_begin s m args below meth c H locs 0 0 QQ (F0 m 99 ls [])) → ∀ (H : Heap) (locs : List Loc) (ls : Array Slot), va_P D vwCl (cl_X7_begin ad cs vZ_players vZ_fill vZ_patience vZ_turn vZ_made vZ_out vZ_finishers vZ_thrown vZ_camp vZ_board vZ_movesOf) H → va_D A (cl_X7_begin ad cs vZ_players vZ_fill vZ_patience vZ_turn vZ_made vZ_out vZ_finishers vZ_thrown vZ_camp vZ_board vZ_movesOf) → va_S A s.heap H locs → lv_has ls 4 [(0, .ref (ad 28)), (3, .int x3)] → W p l e rm_X7_begin s m args below meth c H locs 0 0 QQ (F0 m 58 ls []) := by
    intro vZ_players vZ_turn vZ_made vZ_out vZ_finishers vZ_thrown K58 vZ_board x3 vZ_movesOf hw hK58
    unfold wl_X7_begin_58 at hw
    refine hw (fun (vZ_board : Nat → Int32) (x3 : Int32) => ∀ (H : Heap) (locs : List Loc) (ls : Array Slot), va_P D vwCl (cl_X7_begin ad cs vZ_players vZ_fill vZ_patience vZ_turn vZ_made vZ_out vZ_finishers vZ_thrown vZ_camp vZ_board vZ_movesOf) H → va_D A (cl_X7_begin ad cs vZ_players vZ_fill vZ_patience vZ_turn vZ_made vZ_out vZ_finishers vZ_thrown vZ_camp vZ_board vZ_movesOf) → va_S A s.heap H locs → lv_has ls 4 [(0, .ref (ad 28)), (3, .int x3)] → W p l e rm_X7_begin s m args below meth c H locs 0 0 QQ (F0 m 58 ls [])) ?_
    intro vZ_board x3 hw H locs ls hP hD hS hl
    unfold wb_X7_begin_58 at hw
    refine lv_iload_n hx hb dX7_begin_58 rfl (lv_at hl 1 rfl) ?_
    refine lv_bipush (v := (121 : Int32)) hx hb dX7_begin_59 (by decide) ?_
    refine lv_icmp_ge (tgt := 99) hx hb dX7_begin_61 (by decide) (fun c_3 => ?_) (fun c_3 => ?_)
    · have hw := hw.1 c_3
      exact hK58 vZ_board hw _ _ _ hP hD hS (lv_sub hl [0] rfl)
    · have hw := hw.2 c_3
      refine lv_aload_n hx hb dX7_begin_64 rfl (lv_at hl 0 rfl) ?_
      refine va_get (D := D) (ci := 7) (v := .ref (ad 35)) (C := RX7) (T := TX7) (N := 27) hx hb hts inX7 hown hK hP 0 rfl rfl 9 (by decide) fl_32 (fun _ h9 => h9) rfl dX7_begin_65 ?_
      refine lv_iload_n hx hb dX7_begin_68 rfl (lv_at hl 1 rfl) ?_
      refine lv_aload_n hx hb dX7_begin_69 rfl (lv_at hl 0 rfl) ?_
      refine lv_aload_n hx hb dX7_begin_70 rfl (lv_at hl 0 rfl) ?_
      refine va_get (D := D) (ci := 7) (v := .ref (ad 31)) (C := RX7) (T := TX7) (N := 27) hx hb hts inX7 hown hK hP 0 rfl rfl 2 (by decide) fl_16 (fun _ h9 => h9) rfl dX7_begin_71 ?_
      refine lv_iload_n hx hb dX7_begin_74 rfl (lv_at hl 1 rfl) ?_
      obtain ⟨h_4, hw⟩ := hw
      refine va_iald hx hb hK hP 1 0 rfl rfl h_4 dX7_begin_75 ?_
      refine pcV (rest := [.int x3, .ref (ad 35)]) (ci := 7) S0 (c_X7_plays l D ad cs H.size vZ_players vZ_fill vZ_patience vZ_turn vZ_made vZ_out vZ_finishers vZ_thrown (vZ_camp x3.toNatClampNeg) _ hw) (cwV 1 hts gX7_begin_X7_plays rfl rfl rfl (by decide +kernel) ⟨Nat.le_of_ble_eq_true rfl, Nat.le_of_ble_eq_true rfl⟩) hN hK hP hD [0] [] rfl rfl rfl 0 rfl rfl rfl rfl hl.1 (Nat.le_of_ble_eq_true rfl) ⟨Nat.le_of_ble_eq_true rfl, Nat.le_of_ble_eq_true rfl⟩ dX7_begin_76 (fun r_5 hw => ?_)
      refine lv_if_eq (tgt := 91) hx hb dX7_begin_79 (by decide) (fun c_6 => ?_) (fun c_6 => ?_)
      · have hw := hw.1 c_6
        refine lv_iconst (v := (-1 : Int32)) hx hb dX7_begin_91 (by decide) ?_
        exact hJ92 vZ_board x3 x3 (-1 : Int32) _ _ _ _ _ _ _ _ hw (fun _ _ h => h) _ _ _ hP hD hS (lv_sub hl [0, 1] rfl)
      · have hw := hw.2 c_6
        refine lv_aload_n hx hb dX7_begin_82 rfl (lv_at hl 0 rfl) ?_
        refine va_get (D := D) (ci := 7) (v := .ref (ad 31)) (C := RX7) (T := TX7) (N := 27) hx hb hts inX7 hown hK hP 0 rfl rfl 2 (by decide) fl_16 (fun _ h9 => h9) rfl dX7_begin_83 ?_
        refine lv_iload_n hx hb dX7_begin_86 rfl (lv_at hl 1 rfl) ?_
        obtain ⟨h_7, hw⟩ := hw
        refine va_iald hx hb hK hP 1 0 rfl rfl h_7 dX7_begin_87 ?_
        refine lv_goto (tgt := 92) hx hb dX7_begin_88 (by decide) ?_
        exact hJ92 vZ_board x3 x3 (vZ_camp x3.toNatClampNeg) _ _ _ _ _ _ _ _ hw (fun _ _ h => h) _ _ _ hP hD hS (lv_sub hl [0, 1] rfl)
  have hJ129 : ∀ (vZ_movesOf : Nat → Int32) (x3 t1 : Int32) (P101 : Int32 → (Nat → Int32) → Int32 → Prop) (vZ_players vZ_turn vZ_made vZ_out vZ_finishers vZ_thrown : Int32) (vZ_board : Nat → Int32), wJ_X7_begin_129 vZ_movesOf x3 t1 P101 → (∀ (vZ_turn : Int32) (vZ_movesOf : Nat → Int32) (x3 : Int32), P101 vZ_turn vZ_movesOf x3 → ∀ (H : Heap) (locs : List Loc) (ls : Array Slot), va_P D vwCl (cl_X7_begin ad cs vZ_players vZ_fill vZ_patience vZ_turn vZ_made vZ_out vZ_finishers vZ_thrown vZ_camp vZ_board vZ_movesOf) H → va_D A (cl_X7_begin ad cs vZ_players vZ_fill vZ_patience vZ_turn vZ_made vZ_out vZ_finishers vZ_thrown vZ_camp vZ_board vZ_movesOf) → va_S A s.heap H locs → lv_has ls 4 [(0, .ref (ad 28)), (3, .int x3)] → W p l e rm_X7_begin s m args below meth c H locs 0 0 QQ (F0 m 101 ls [])) → ∀ (H : Heap) (locs : List Loc) (ls : Array Slot), va_P D vwCl (cl_X7_begin ad cs vZ_players vZ_fill vZ_patience vZ_turn vZ_made vZ_out vZ_finishers vZ_thrown vZ_camp vZ_board vZ_movesOf) H → va_D A (cl_X7_begin ad cs vZ_players vZ_fill vZ_patience vZ_turn vZ_made vZ_out vZ_finishers vZ_thrown vZ_camp vZ_board vZ_movesOf) → va_S A s.heap H locs → lv_has ls 4 [(0, .ref (ad 28)), (3, .int x3)] → W p l e rm_X7_begin s m args below meth c H locs 0 0 QQ (F0 m 129 ls [.int t1, .ref (ad 28)]) := by
    intro vZ_movesOf x3 t1 P101 vZ_players vZ_turn vZ_made vZ_out vZ_finishers vZ_thrown vZ_board hw hB101 H locs ls hP hD hS hl
    unfold wJ_X7_begin_129 at hw
    refine va_put (D := D) (ci := 7) (v := .int t1) (ty := .int) (C := RX7) (T := TX7) (N := 27) hx hb hts inX7 tyX7 tyX7_ok nmX7 hown hK hP hD hS 0 rfl rfl 10 (by decide) fl_83 (fun _ h9 => h9) rfl (by decide +kernel) rfl rfl (Nat.le_of_ble_eq_true rfl) dX7_begin_129 (fun H locs hP hD hS => ?_)
    have hP : va_P D vwCl (cl_X7_begin ad cs vZ_players vZ_fill vZ_patience t1 vZ_made vZ_out vZ_finishers vZ_thrown vZ_camp vZ_board vZ_movesOf) H := hP
    have hD : va_D A (cl_X7_begin ad cs vZ_players vZ_fill vZ_patience t1 vZ_made vZ_out vZ_finishers vZ_thrown vZ_camp vZ_board vZ_movesOf) := hD
    refine lv_iinc (v := (x3 + (-1 : Int32))) (lv' := [(3, .int (x3 + (-1 : Int32))), (0, .ref (ad 28))]) hx hb dX7_begin_132 hl (k := 1) rfl rfl (by decide) rfl (fun ls hl => ?_)
    refine lv_goto (tgt := 101) hx hb dX7_begin_135 (by decide) ?_
    exact hB101 t1 vZ_movesOf (x3 + (-1 : Int32)) hw _ _ _ hP hD hS (lv_sub hl [1, 0] rfl)
  have hL101 : ∀ (vZ_players vZ_made vZ_out vZ_finishers vZ_thrown : Int32) (K101 : Int32 → (Nat → Int32) → Prop) (vZ_turn : Int32) (vZ_movesOf : Nat → Int32) (x3 : Int32) (vZ_board : Nat → Int32), wl_X7_begin_101 vZ_players vZ_fill vZ_patience vZ_made vZ_out vZ_finishers vZ_thrown K101 vZ_turn vZ_movesOf x3 → (∀ (vZ_turn : Int32) (vZ_movesOf : Nat → Int32), K101 vZ_turn vZ_movesOf → ∀ (H : Heap) (locs : List Loc) (ls : Array Slot), va_P D vwCl (cl_X7_begin ad cs vZ_players vZ_fill vZ_patience vZ_turn vZ_made vZ_out vZ_finishers vZ_thrown vZ_camp vZ_board vZ_movesOf) H → va_D A (cl_X7_begin ad cs vZ_players vZ_fill vZ_patience vZ_turn vZ_made vZ_out vZ_finishers vZ_thrown vZ_camp vZ_board vZ_movesOf) → va_S A s.heap H locs → lv_has ls 4 [(0, .ref (ad 28))] → W p l e rm_X7_begin s m args below meth c H locs 0 0 QQ (F0 m 138 ls [])) → ∀ (H : Heap) (locs : List Loc) (ls : Array Slot), va_P D vwCl (cl_X7_begin ad cs vZ_players vZ_fill vZ_patience vZ_turn vZ_made vZ_out vZ_finishers vZ_thrown vZ_camp vZ_board vZ_movesOf) H → va_D A (cl_X7_begin ad cs vZ_players vZ_fill vZ_patience vZ_turn vZ_made vZ_out vZ_finishers vZ_thrown vZ_camp vZ_board vZ_movesOf) → va_S A s.heap H locs → lv_has ls 4 [(0, .ref (ad 28)), (3, .int x3)] → W p l e rm_X7_begin s m args below meth c H locs 0 0 QQ (F0 m 101 ls []) := by
    intro vZ_players vZ_made vZ_out vZ_finishers vZ_thrown K101 vZ_turn vZ_movesOf x3 vZ_board hw hK101
    unfold wl_X7_begin_101 at hw
    refine hw (fun (vZ_turn : Int32) (vZ_movesOf : Nat → Int32) (x3 : Int32) => ∀ (H : Heap) (locs : List Loc) (ls : Array Slot), va_P D vwCl (cl_X7_begin ad cs vZ_players vZ_fill vZ_patience vZ_turn vZ_made vZ_out vZ_finishers vZ_thrown vZ_camp vZ_board vZ_movesOf) H → va_D A (cl_X7_begin ad cs vZ_players vZ_fill vZ_patience vZ_turn vZ_made vZ_out vZ_finishers vZ_thrown vZ_camp vZ_board vZ_movesOf) → va_S A s.heap H locs → lv_has ls 4 [(0, .ref (ad 28)), (3, .int x3)] → W p l e rm_X7_begin s m args below meth c H locs 0 0 QQ (F0 m 101 ls [])) ?_
    intro vZ_turn vZ_movesOf x3 hw H locs ls hP hD hS hl
    unfold wb_X7_begin_101 at hw
    refine lv_iload_n hx hb dX7_begin_101 rfl (lv_at hl 1 rfl) ?_
    refine lv_if_lt (tgt := 138) hx hb dX7_begin_102 (by decide) (fun c_8 => ?_) (fun c_8 => ?_)
    · have hw := hw.1 c_8
      exact hK101 vZ_turn vZ_movesOf hw _ _ _ hP hD hS (lv_sub hl [0] rfl)
    · have hw := hw.2 c_8
      refine lv_aload_n hx hb dX7_begin_105 rfl (lv_at hl 0 rfl) ?_
      refine va_get (D := D) (ci := 7) (v := .ref (ad 36)) (C := RX7) (T := TX7) (N := 27) hx hb hts inX7 hown hK hP 0 rfl rfl 13 (by decide) fl_35 (fun _ h9 => h9) rfl dX7_begin_106 ?_
      refine lv_iload_n hx hb dX7_begin_109 rfl (lv_at hl 1 rfl) ?_
      refine lv_iconst (v := (0 : Int32)) hx hb dX7_begin_110 (by decide) ?_
      obtain ⟨h_9, hw⟩ := hw
      refine va_iast hx hb hK hP hD hS 3 2 rfl rfl h_9 dX7_begin_111 (fun H locs hP hD hS => ?_)
      have hP : va_P D vwCl (cl_X7_begin ad cs vZ_players vZ_fill vZ_patience vZ_turn vZ_made vZ_out vZ_finishers vZ_thrown vZ_camp vZ_board (upd vZ_movesOf x3.toNatClampNeg (0 : Int32))) H := hP
      have hD : va_D A (cl_X7_begin ad cs vZ_players vZ_fill vZ_patience vZ_turn vZ_made vZ_out vZ_finishers vZ_thrown vZ_camp vZ_board (upd vZ_movesOf x3.toNatClampNeg (0 : Int32))) := hD
      refine lv_aload_n hx hb dX7_begin_112 rfl (lv_at hl 0 rfl) ?_
      refine lv_aload_n hx hb dX7_begin_113 rfl (lv_at hl 0 rfl) ?_
      refine lv_iload_n hx hb dX7_begin_114 rfl (lv_at hl 1 rfl) ?_
      refine pcV (rest := [.ref (ad 28)]) (ci := 7) S0 (c_X7_plays l D ad cs H.size vZ_players vZ_fill vZ_patience vZ_turn vZ_made vZ_out vZ_finishers vZ_thrown x3 _ hw) (cwV 1 hts gX7_begin_X7_plays rfl rfl rfl (by decide +kernel) ⟨Nat.le_of_ble_eq_true rfl, Nat.le_of_ble_eq_true rfl⟩) hN hK hP hD [0] [] rfl rfl rfl 0 rfl rfl rfl rfl hl.1 (Nat.le_of_ble_eq_true rfl) ⟨Nat.le_of_ble_eq_true rfl, Nat.le_of_ble_eq_true rfl⟩ dX7_begin_115 (fun r_10 hw => ?_)
      refine lv_if_eq (tgt := 125) hx hb dX7_begin_118 (by decide) (fun c_11 => ?_) (fun c_11 => ?_)
      · have hw := hw.1 c_11
        refine lv_aload_n hx hb dX7_begin_125 rfl (lv_at hl 0 rfl) ?_
        refine va_get (D := D) (ci := 7) (v := .int vZ_turn) (C := RX7) (T := TX7) (N := 27) hx hb hts inX7 hown hK hP 0 rfl rfl 10 (by decide) fl_83 (fun _ h9 => h9) rfl dX7_begin_126 ?_
        exact hJ129 (upd vZ_movesOf x3.toNatClampNeg (0 : Int32)) x3 vZ_turn _ _ _ _ _ _ _ _ hw (fun _ _ _ h => h) _ _ _ hP hD hS (lv_sub hl [0, 1] rfl)
      · have hw := hw.2 c_11
        refine lv_iload_n hx hb dX7_begin_121 rfl (lv_at hl 1 rfl) ?_
        refine lv_goto (tgt := 129) hx hb dX7_begin_122 (by decide) ?_
        exact hJ129 (upd vZ_movesOf x3.toNatClampNeg (0 : Int32)) x3 x3 _ _ _ _ _ _ _ _ hw (fun _ _ _ h => h) _ _ _ hP hD hS (lv_sub hl [0, 1] rfl)
  have hJ45 : ∀ (vZ_players vZ_turn vZ_made vZ_out vZ_finishers vZ_thrown : Int32) (vZ_board vZ_movesOf : Nat → Int32) (x1 t1 : Int32), wJ_X7_begin_45 vZ_players vZ_fill vZ_patience vZ_turn vZ_made vZ_out vZ_finishers vZ_thrown vZ_camp vZ_board vZ_movesOf x1 t1 Q → ∀ (H : Heap) (locs : List Loc) (ls : Array Slot), va_P D vwCl (cl_X7_begin ad cs vZ_players vZ_fill vZ_patience vZ_turn vZ_made vZ_out vZ_finishers vZ_thrown vZ_camp vZ_board vZ_movesOf) H → va_D A (cl_X7_begin ad cs vZ_players vZ_fill vZ_patience vZ_turn vZ_made vZ_out vZ_finishers vZ_thrown vZ_camp vZ_board vZ_movesOf) → va_S A s.heap H locs → lv_has ls 4 [(0, .ref (ad 28)), (1, .int x1)] → W p l e rm_X7_begin s m args below meth c H locs 0 0 QQ (F0 m 45 ls [.int t1, .ref (ad 28)]) := by
    intro vZ_players vZ_turn vZ_made vZ_out vZ_finishers vZ_thrown vZ_board vZ_movesOf x1 t1 hw  H locs ls hP hD hS hl
    unfold wJ_X7_begin_45 at hw
    refine pcVi (rest := []) (wr := [((ad 31), .inl ((cs 31), 121, .inl vZ_camp)), ((ad 35), .inl ((cs 35), 121, .inl vZ_board)), ((ad 36), .inl ((cs 36), 6, .inl vZ_movesOf))]) (ci := 7) S0 (c_X7_can l D ad cs H.size vZ_players vZ_fill vZ_patience vZ_turn vZ_made vZ_out vZ_finishers vZ_thrown t1 _ hw) (cwV 1 hts gX7_begin_X7_can rfl rfl rfl (by decide +kernel) ⟨Nat.le_of_ble_eq_true rfl, Nat.le_of_ble_eq_true rfl⟩) hN hK hP hD hS hA [0] [1, 2, 3] [] ⟨rfl, rfl, rfl, rfl, rfl, by decide⟩ 0 rfl rfl rfl rfl hl.1 (Nat.le_of_ble_eq_true rfl) ⟨Nat.le_of_ble_eq_true rfl, Nat.le_of_ble_eq_true rfl⟩ dX7_begin_45 (fun r_12 u H locs hw hP hD hS => ?_)
    obtain ⟨vZ_thrown_13, rfl⟩ : ∃ z, z = u := ⟨_, rfl⟩
    have hP : va_P D vwCl (cl_X7_begin ad cs vZ_players vZ_fill vZ_patience vZ_turn vZ_made vZ_out vZ_finishers vZ_thrown_13 vZ_camp vZ_board vZ_movesOf) H := hP.sub [3, 0, 1, 2] rfl
    have hD : va_D A (cl_X7_begin ad cs vZ_players vZ_fill vZ_patience vZ_turn vZ_made vZ_out vZ_finishers vZ_thrown_13 vZ_camp vZ_board vZ_movesOf) := hD.sub [3, 0, 1, 2] (by decide) rfl
    refine lv_if_eq (tgt := 153) hx hb dX7_begin_48 (by decide) (fun c_14 => ?_) (fun c_14 => ?_)
    · have hw := hw.1 c_14
      exact hret _ _ _ _ _ _ _ _ _ _ _ _ hw hP hD hS dX7_begin_153
    · have hw := hw.2 c_14
      refine lv_aload_n hx hb dX7_begin_51 rfl (lv_at hl 0 rfl) ?_
      refine lv_iload_n hx hb dX7_begin_52 rfl (lv_at hl 1 rfl) ?_
      refine va_put (D := D) (ci := 7) (v := .int x1) (ty := .int) (C := RX7) (T := TX7) (N := 27) hx hb hts inX7 tyX7 tyX7_ok nmX7 hown hK hP hD hS 0 rfl rfl 6 (by decide) fl_93 (fun _ h9 => h9) rfl (by decide +kernel) rfl rfl (Nat.le_of_ble_eq_true rfl) dX7_begin_53 (fun H locs hP hD hS => ?_)
      have hP : va_P D vwCl (cl_X7_begin ad cs x1 vZ_fill vZ_patience vZ_turn vZ_made vZ_out vZ_finishers vZ_thrown_13 vZ_camp vZ_board vZ_movesOf) H := hP
      have hD : va_D A (cl_X7_begin ad cs x1 vZ_fill vZ_patience vZ_turn vZ_made vZ_out vZ_finishers vZ_thrown_13 vZ_camp vZ_board vZ_movesOf) := hD
      refine lv_iconst (v := (0 : Int32)) hx hb dX7_begin_56 (by decide) ?_
      refine lv_istore_n (lv' := [(3, .int (0 : Int32)), (0, .ref (ad 28)), (1, .int x1)]) hx hb dX7_begin_57 rfl hl (by decide) rfl (fun ls hl => ?_)
      refine hL58 x1 vZ_turn vZ_made vZ_out vZ_finishers vZ_thrown_13 _ vZ_board (0 : Int32) _ hw ?_ _ _ _ hP hD hS (lv_sub hl [1, 0] rfl)
      intro vZ_board_15 hw H locs ls hP hD hS hl
      refine lv_iconst (v := (5 : Int32)) hx hb dX7_begin_99 (by decide) ?_
      refine lv_istore_n (lv' := [(3, .int (5 : Int32)), (0, .ref (ad 28))]) hx hb dX7_begin_100 rfl hl (by decide) rfl (fun ls hl => ?_)
      refine hL101 x1 vZ_made vZ_out vZ_finishers vZ_thrown_13 _ vZ_turn vZ_movesOf (5 : Int32) _ hw ?_ _ _ _ hP hD hS (lv_sub hl [1, 0] rfl)
      intro vZ_turn_16 vZ_movesOf_17 hw H locs ls hP hD hS hl
      refine lv_aload_n hx hb dX7_begin_138 rfl (lv_at hl 0 rfl) ?_
      refine lv_iconst (v := (0 : Int32)) hx hb dX7_begin_139 (by decide) ?_
      refine va_put (D := D) (ci := 7) (v := .int (0 : Int32)) (ty := .int) (C := RX7) (T := TX7) (N := 27) hx hb hts inX7 tyX7 tyX7_ok nmX7 hown hK hP hD hS 0 rfl rfl 11 (by decide) fl_103 (fun _ h9 => h9) rfl (by decide +kernel) rfl rfl (Nat.le_of_ble_eq_true rfl) dX7_begin_140 (fun H locs hP hD hS => ?_)
      have hP : va_P D vwCl (cl_X7_begin ad cs x1 vZ_fill vZ_patience vZ_turn_16 (0 : Int32) vZ_out vZ_finishers vZ_thrown_13 vZ_camp vZ_board_15 vZ_movesOf_17) H := hP
      have hD : va_D A (cl_X7_begin ad cs x1 vZ_fill vZ_patience vZ_turn_16 (0 : Int32) vZ_out vZ_finishers vZ_thrown_13 vZ_camp vZ_board_15 vZ_movesOf_17) := hD
      refine lv_aload_n hx hb dX7_begin_143 rfl (lv_at hl 0 rfl) ?_
      refine lv_iconst (v := (0 : Int32)) hx hb dX7_begin_144 (by decide) ?_
      refine va_put (D := D) (ci := 7) (v := .int (0 : Int32)) (ty := .int) (C := RX7) (T := TX7) (N := 27) hx hb hts inX7 tyX7 tyX7_ok nmX7 hown hK hP hD hS 0 rfl rfl 12 (by decide) fl_106 (fun _ h9 => h9) rfl (by decide +kernel) rfl rfl (Nat.le_of_ble_eq_true rfl) dX7_begin_145 (fun H locs hP hD hS => ?_)
      have hP : va_P D vwCl (cl_X7_begin ad cs x1 vZ_fill vZ_patience vZ_turn_16 (0 : Int32) (0 : Int32) vZ_finishers vZ_thrown_13 vZ_camp vZ_board_15 vZ_movesOf_17) H := hP
      have hD : va_D A (cl_X7_begin ad cs x1 vZ_fill vZ_patience vZ_turn_16 (0 : Int32) (0 : Int32) vZ_finishers vZ_thrown_13 vZ_camp vZ_board_15 vZ_movesOf_17) := hD
      refine lv_aload_n hx hb dX7_begin_148 rfl (lv_at hl 0 rfl) ?_
      refine lv_iconst (v := (0 : Int32)) hx hb dX7_begin_149 (by decide) ?_
      refine va_put (D := D) (ci := 7) (v := .int (0 : Int32)) (ty := .int) (C := RX7) (T := TX7) (N := 27) hx hb hts inX7 tyX7 tyX7_ok nmX7 hown hK hP hD hS 0 rfl rfl 14 (by decide) fl_109 (fun _ h9 => h9) rfl (by decide +kernel) rfl rfl (Nat.le_of_ble_eq_true rfl) dX7_begin_150 (fun H locs hP hD hS => ?_)
      have hP : va_P D vwCl (cl_X7_begin ad cs x1 vZ_fill vZ_patience vZ_turn_16 (0 : Int32) (0 : Int32) (0 : Int32) vZ_thrown_13 vZ_camp vZ_board_15 vZ_movesOf_17) H := hP
      have hD : va_D A (cl_X7_begin ad cs x1 vZ_fill vZ_patience vZ_turn_16 (0 : Int32) (0 : Int32) (0 : Int32) vZ_thrown_13 vZ_camp vZ_board_15 vZ_movesOf_17) := hD
      exact hret _ _ _ _ _ _ _ _ _ _ _ _ hw hP hD hS dX7_begin_153
  obtain ⟨H, hH⟩ : ∃ H : Heap, H = s.heap := ⟨_, rfl⟩
  have hS : va_S A s.heap H [] := by rw [hH]; exact va_S.rf
  rw [← hH] at hP ⊢
  unfold wp_X7_begin at hw
  refine lv_iconst (v := (0 : Int32)) hx hb dX7_begin_0 (by decide) ?_
  refine lv_istore_n (lv' := [(2, .int (0 : Int32)), (0, .ref (ad 28)), (1, .int x1)]) hx hb dX7_begin_1 rfl hl (by decide) rfl (fun ls hl => ?_)
  refine lv_iconst (v := (0 : Int32)) hx hb dX7_begin_2 (by decide) ?_
  refine lv_istore_n (lv' := [(3, .int (0 : Int32)), (2, .int (0 : Int32)), (0, .ref (ad 28)), (1, .int x1)]) hx hb dX7_begin_3 rfl hl (by decide) rfl (fun ls hl => ?_)
  refine hL4 x1 _ (0 : Int32) (0 : Int32) _ _ _ _ _ _ _ _ hw ?_ _ _ _ hP hD hS (lv_sub hl [2, 3, 1, 0] rfl)
  intro x2_18 hw H locs ls hP hD hS hl
  refine lv_aload_n hx hb dX7_begin_24 rfl (lv_at hl 0 rfl) ?_
  refine lv_iload_n hx hb dX7_begin_25 rfl (lv_at hl 1 rfl) ?_
  refine lv_iconst (v := (0 : Int32)) hx hb dX7_begin_26 (by decide) ?_
  refine lv_bipush (v := (63 : Int32)) hx hb dX7_begin_27 (by decide) ?_
  refine pcS (rest := [.ref (ad 28)]) S0 (c_X7_isIn l D ad cs H.size x1 (0 : Int32) (63 : Int32) _ hw) (va_cwS 3 hts gX7_begin_X7_isIn rfl rfl rfl (by decide +kernel) ⟨Nat.le_of_ble_eq_true rfl, Nat.le_of_ble_eq_true rfl⟩) hN hK hP hD [] [] rfl rfl rfl rfl rfl hl.1 (Nat.le_of_ble_eq_true rfl) ⟨Nat.le_of_ble_eq_true rfl, Nat.le_of_ble_eq_true rfl⟩ dX7_begin_29 (fun r_19 hw => ?_)
  refine lv_if_eq (tgt := 44) hx hb dX7_begin_32 (by decide) (fun c_20 => ?_) (fun c_20 => ?_)
  · have hw := hw.1 c_20
    refine lv_iconst (v := (1 : Int32)) hx hb dX7_begin_44 (by decide) ?_
    exact hJ45 vZ_players vZ_turn vZ_made vZ_out vZ_finishers vZ_thrown vZ_board vZ_movesOf x1 (1 : Int32) hw _ _ _ hP hD hS (lv_sub hl [0, 1] rfl)
  · have hw := hw.2 c_20
    refine lv_iload_n hx hb dX7_begin_35 rfl (lv_at hl 2 rfl) ?_
    refine lv_iconst (v := (2 : Int32)) hx hb dX7_begin_36 (by decide) ?_
    refine lv_icmp_lt (tgt := 44) hx hb dX7_begin_37 (by decide) (fun c_21 => ?_) (fun c_21 => ?_)
    · have hw := hw.1 c_21
      refine lv_iconst (v := (1 : Int32)) hx hb dX7_begin_44 (by decide) ?_
      exact hJ45 vZ_players vZ_turn vZ_made vZ_out vZ_finishers vZ_thrown vZ_board vZ_movesOf x1 (1 : Int32) hw _ _ _ hP hD hS (lv_sub hl [0, 1] rfl)
    · have hw := hw.2 c_21
      refine lv_iconst (v := (0 : Int32)) hx hb dX7_begin_40 (by decide) ?_
      refine lv_goto (tgt := 45) hx hb dX7_begin_41 (by decide) ?_
      exact hJ45 vZ_players vZ_turn vZ_made vZ_out vZ_finishers vZ_thrown vZ_board vZ_movesOf x1 (0 : Int32) hw _ _ _ hP hD hS (lv_sub hl [0, 1] rfl)
set_option maxHeartbeats 4000000 in
set_option maxRecDepth 100000 in
theorem c_X7_begin (l : Launch) (D : va_G) (ad : Nat → Nat) (cs : Nat → ClassId) (sz : Nat) (vZ_players vZ_fill vZ_patience vZ_turn vZ_made vZ_out vZ_finishers vZ_thrown : Int32) (vZ_camp vZ_board vZ_movesOf : Nat → Int32) (x1 : Int32) (Q : Int32 → Int32 → Int32 → Int32 → Int32 → Int32 → (Nat → Int32) → (Nat → Int32) → Prop) (hw : wp_X7_begin vZ_players vZ_fill vZ_patience vZ_turn vZ_made vZ_out vZ_finishers vZ_thrown vZ_camp vZ_board vZ_movesOf x1 Q) :
  Met l yX7_begin wsX7_begin rm_X7_begin (va_Pc [.ref (ad 28), .int x1] (PX D (cl_X7_begin ad cs vZ_players vZ_fill vZ_patience vZ_turn vZ_made vZ_out vZ_finishers vZ_thrown vZ_camp vZ_board vZ_movesOf) (ty_X7_begin cs) sz)) (va_Qv (fun (u : Int32 × Int32 × Int32 × Int32 × Int32 × Int32 × (Nat → Int32) × (Nat → Int32)) => Q u.1 u.2.1 u.2.2.1 u.2.2.2.1 u.2.2.2.2.1 u.2.2.2.2.2.1 u.2.2.2.2.2.2.1 u.2.2.2.2.2.2.2) (fun (u : Int32 × Int32 × Int32 × Int32 × Int32 × Int32 × (Nat → Int32) × (Nat → Int32)) t => va_P D vwCl (cl_X7_begin ad cs u.1 vZ_fill vZ_patience u.2.1 u.2.2.1 u.2.2.2.1 u.2.2.2.2.1 u.2.2.2.2.2.1 vZ_camp u.2.2.2.2.2.2.1 u.2.2.2.2.2.2.2) t.heap ∧ va_D (va_A (cl_X7_begin ad cs vZ_players vZ_fill vZ_patience vZ_turn vZ_made vZ_out vZ_finishers vZ_thrown vZ_camp vZ_board vZ_movesOf) sz) (cl_X7_begin ad cs u.1 vZ_fill vZ_patience u.2.1 u.2.2.1 u.2.2.2.1 u.2.2.2.2.1 u.2.2.2.2.2.1 vZ_camp u.2.2.2.2.2.2.1 u.2.2.2.2.2.2.2)) (va_A (cl_X7_begin ad cs vZ_players vZ_fill vZ_patience vZ_turn vZ_made vZ_out vZ_finishers vZ_thrown vZ_camp vZ_board vZ_movesOf) sz)) 0 0 (va_A (cl_X7_begin ad cs vZ_players vZ_fill vZ_patience vZ_turn vZ_made vZ_out vZ_finishers vZ_thrown vZ_camp vZ_board vZ_movesOf) sz) := by
  refine Met.ofW (cc := cX7_begin) (maxL := 4) (ret := none) (by decide) rfl ?_
  intro p e s m args below meth c s₁ B hml hv
  obtain ⟨rfl, hsz, hP, hK, hD0, hN⟩ := hv
  subst hsz
  have hl := lv_entry ([.ref (ad 28), .int x1]) (n := 4) (Nat.le_of_ble_eq_true rfl)
  rw [lg_entry_eq]
  have hx := B.exec
  have hb := B.bytes
  have hr := B.returns
  exact b_X7_begin l D ad cs vZ_players vZ_fill vZ_patience vZ_turn vZ_made vZ_out vZ_finishers vZ_thrown vZ_camp vZ_board vZ_movesOf x1 Q hx hb hml (findClass_of_methodNamed B.named) (atoms_spec (ws := wsX7_begin) B.pre) hN hP hK hD0.self (fun q h => Or.inr h) hl (fun o0 o1 o2 o3 o4 o5 o6 o7 H locs pc ls hq hP hD hS hd => W.vret hx hb hr (fun t ht hW => ⟨⟨(o0, o1, o2, o3, o4, o5, o6, o7), rfl, hq, by rw [ht]; exact hP, hD⟩, hS.F ht⟩) hS.2.2 hd) hw
abbrev rm_X7_setFill : Room := { frames := 1, cells := 0, slots := 0, locals := 22 }
abbrev cl_X7_setFill (ad : Nat → Nat) (cs : Nat → ClassId) (vZ_players vZ_fill vZ_patience vZ_turn vZ_made vZ_out vZ_finishers vZ_thrown : Int32) : va_W := [((ad 28), .inr (7, [.ref (ad 29), .ref (ad 30), .ref (ad 31), .ref (ad 32), .ref (ad 33), .ref (ad 34), .int vZ_players, .int vZ_fill, .int vZ_patience, .ref (ad 35), .int vZ_turn, .int vZ_made, .int vZ_out, .ref (ad 36), .int vZ_finishers, .ref (ad 37), .ref (ad 38), .ref (ad 39), .ref (ad 40), .ref (ad 41), .ref (ad 42), .ref (ad 43), .ref (ad 44), .ref (ad 45), .ref (ad 46), .ref (ad 47), .int vZ_thrown]))]
abbrev ty_X7_setFill (cs : Nat → ClassId) : List (ClassId × FieldType) := []
def wJ_X7_setFill_16 (vZ_players vZ_fill vZ_patience vZ_turn vZ_made vZ_out vZ_finishers vZ_thrown x1 t1 : Int32) (Q : Int32 → Int32 → Int32 → Prop) : Prop :=
 wp_X7_can vZ_players vZ_fill vZ_patience vZ_turn vZ_made vZ_out vZ_finishers vZ_thrown t1 (fun r_1 vZ_thrown_2 =>
 ((¬ r_1 = 0 → Q vZ_fill x1 vZ_thrown_2) ∧
 (r_1 = 0 → Q (0 : Int32) vZ_fill vZ_thrown_2)))
def wp_X7_setFill (vZ_players vZ_fill vZ_patience vZ_turn vZ_made vZ_out vZ_finishers vZ_thrown x1 : Int32) (Q : Int32 → Int32 → Int32 → Prop) : Prop :=
 wp_X7_isIn x1 (1 : Int32) (10 : Int32) (fun r_4 =>
 ((r_4 = 0 → wJ_X7_setFill_16 vZ_players vZ_fill vZ_patience vZ_turn vZ_made vZ_out vZ_finishers vZ_thrown x1 (1 : Int32) Q) ∧
 (¬ r_4 = 0 → wJ_X7_setFill_16 vZ_players vZ_fill vZ_patience vZ_turn vZ_made vZ_out vZ_finishers vZ_thrown x1 (0 : Int32) Q)))
set_option maxHeartbeats 4000000 in
set_option maxRecDepth 100000 in
theorem b_X7_setFill {p : Program} {e : Env} {s : State} {m : MethodId} {args : Array Value} {below : List Frame} {meth : Method} {c : Code} {QQ : State → Prop} {A : Nat → Prop} {ls : Array Slot} (l : Launch) (D : va_G) (ad : Nat → Nat) (cs : Nat → ClassId) (vZ_players vZ_fill vZ_patience vZ_turn vZ_made vZ_out vZ_finishers vZ_thrown x1 : Int32) (Q : Int32 → Int32 → Int32 → Prop) (hx : p.tables.exec = Jvm.exec) (hb : c.code = cX7_setFill) (hml : c.maxLocals = 3) (hown : s.vm.findClass RX7 = some m.cls) (hts : ∀ w ∈ wsX7_setFill, w.before args s = true) (hN : NW s) (hP : va_P D vwCl (cl_X7_setFill ad cs vZ_players vZ_fill vZ_patience vZ_turn vZ_made vZ_out vZ_finishers vZ_thrown) s.heap) (hK : va_K D vwCl (ty_X7_setFill cs) s) (hD : va_D A (cl_X7_setFill ad cs vZ_players vZ_fill vZ_patience vZ_turn vZ_made vZ_out vZ_finishers vZ_thrown)) (hA : ∀ q : Nat, s.heap.size ≤ q → A q) (hl : lv_has ls 3 [(0, .ref (ad 28)), (1, .int x1)])
  (hret : ∀ (r : Int32) (o0 : Int32) (o1 : Int32) (H : Heap) (locs : List Loc) (pc : Nat) (ls : Array Slot), Q r o0 o1 → va_P D vwCl (cl_X7_setFill ad cs vZ_players o0 vZ_patience vZ_turn vZ_made vZ_out vZ_finishers o1) H → va_D A (cl_X7_setFill ad cs vZ_players o0 vZ_patience vZ_turn vZ_made vZ_out vZ_finishers o1) → va_S A s.heap H locs → decode cX7_setFill pc = .ok (.ireturn, 1) → W p l e rm_X7_setFill s m args below meth c H locs 0 0 QQ (F0 m pc ls [.int r]))
  (hw : wp_X7_setFill vZ_players vZ_fill vZ_patience vZ_turn vZ_made vZ_out vZ_finishers vZ_thrown x1 Q) :
  W p l e rm_X7_setFill s m args below meth c s.heap [] 0 0 QQ (F0 m 0 ls []) := by
  have S0 : CallFix p m c cX7_setFill 3 s args wsX7_setFill RX7 := ⟨hx, hb, hml, hown, hts⟩
  have inX7 : ∀ w ∈ u_ws RX7 TX7 27, w ∈ wsX7_setFill := by decide +kernel
  have fl_28 := hts (.fieldLink RX7 28 "HopperCourtModel" "fill" "I") (by decide +kernel)
  have hJ16 : ∀ (vZ_fill vZ_thrown x1 t1 : Int32), wJ_X7_setFill_16 vZ_players vZ_fill vZ_patience vZ_turn vZ_made vZ_out vZ_finishers vZ_thrown x1 t1 Q → ∀ (H : Heap) (locs : List Loc) (ls : Array Slot), va_P D vwCl (cl_X7_setFill ad cs vZ_players vZ_fill vZ_patience vZ_turn vZ_made vZ_out vZ_finishers vZ_thrown) H → va_D A (cl_X7_setFill ad cs vZ_players vZ_fill vZ_patience vZ_turn vZ_made vZ_out vZ_finishers vZ_thrown) → va_S A s.heap H locs → lv_has ls 3 [(0, .ref (ad 28)), (1, .int x1)] → W p l e rm_X7_setFill s m args below meth c H locs 0 0 QQ (F0 m 16 ls [.int t1, .ref (ad 28)]) := by
    intro vZ_fill vZ_thrown x1 t1 hw  H locs ls hP hD hS hl
    unfold wJ_X7_setFill_16 at hw
    refine pcVi (rest := []) (wr := []) (ci := 7) S0 (c_X7_can l D ad cs H.size vZ_players vZ_fill vZ_patience vZ_turn vZ_made vZ_out vZ_finishers vZ_thrown t1 _ hw) (cwV 1 hts gX7_setFill_X7_can rfl rfl rfl (by decide +kernel) ⟨Nat.le_of_ble_eq_true rfl, Nat.le_of_ble_eq_true rfl⟩) hN hK hP hD hS hA [0] [] [] ⟨rfl, rfl, rfl, rfl, rfl, by decide⟩ 0 rfl rfl rfl rfl hl.1 (Nat.le_of_ble_eq_true rfl) ⟨Nat.le_of_ble_eq_true rfl, Nat.le_of_ble_eq_true rfl⟩ dX7_setFill_16 (fun r_1 u H locs hw hP hD hS => ?_)
    obtain ⟨vZ_thrown_2, rfl⟩ : ∃ z, z = u := ⟨_, rfl⟩
    have hP : va_P D vwCl (cl_X7_setFill ad cs vZ_players vZ_fill vZ_patience vZ_turn vZ_made vZ_out vZ_finishers vZ_thrown_2) H := hP.sub [0] rfl
    have hD : va_D A (cl_X7_setFill ad cs vZ_players vZ_fill vZ_patience vZ_turn vZ_made vZ_out vZ_finishers vZ_thrown_2) := hD.sub [0] (by decide) rfl
    refine lv_if_ne (tgt := 24) hx hb dX7_setFill_19 (by decide) (fun c_3 => ?_) (fun c_3 => ?_)
    · have hw := hw.1 c_3
      refine lv_aload_n hx hb dX7_setFill_24 rfl (lv_at hl 0 rfl) ?_
      refine va_get (D := D) (ci := 7) (v := .int vZ_fill) (C := RX7) (T := TX7) (N := 27) hx hb hts inX7 hown hK hP 0 rfl rfl 7 (by decide) fl_28 (fun _ h9 => h9) rfl dX7_setFill_25 ?_
      refine lv_istore_n (lv' := [(2, .int vZ_fill), (0, .ref (ad 28)), (1, .int x1)]) hx hb dX7_setFill_28 rfl hl (by decide) rfl (fun ls hl => ?_)
      refine lv_aload_n hx hb dX7_setFill_29 rfl (lv_at hl 1 rfl) ?_
      refine lv_iload_n hx hb dX7_setFill_30 rfl (lv_at hl 2 rfl) ?_
      refine va_put (D := D) (ci := 7) (v := .int x1) (ty := .int) (C := RX7) (T := TX7) (N := 27) hx hb hts inX7 tyX7 tyX7_ok nmX7 hown hK hP hD hS 0 rfl rfl 7 (by decide) fl_28 (fun _ h9 => h9) rfl (by decide +kernel) rfl rfl (Nat.le_of_ble_eq_true rfl) dX7_setFill_31 (fun H locs hP hD hS => ?_)
      have hP : va_P D vwCl (cl_X7_setFill ad cs vZ_players x1 vZ_patience vZ_turn vZ_made vZ_out vZ_finishers vZ_thrown_2) H := hP
      have hD : va_D A (cl_X7_setFill ad cs vZ_players x1 vZ_patience vZ_turn vZ_made vZ_out vZ_finishers vZ_thrown_2) := hD
      refine lv_iload_n hx hb dX7_setFill_34 rfl (lv_at hl 0 rfl) ?_
      exact hret _ _ _ _ _ _ _ hw hP hD hS dX7_setFill_35
    · have hw := hw.2 c_3
      refine lv_iconst (v := (0 : Int32)) hx hb dX7_setFill_22 (by decide) ?_
      exact hret _ _ _ _ _ _ _ hw hP hD hS dX7_setFill_23
  obtain ⟨H, hH⟩ : ∃ H : Heap, H = s.heap := ⟨_, rfl⟩
  have hS : va_S A s.heap H [] := by rw [hH]; exact va_S.rf
  rw [← hH] at hP ⊢
  unfold wp_X7_setFill at hw
  refine lv_aload_n hx hb dX7_setFill_0 rfl (lv_at hl 0 rfl) ?_
  refine lv_iload_n hx hb dX7_setFill_1 rfl (lv_at hl 1 rfl) ?_
  refine lv_iconst (v := (1 : Int32)) hx hb dX7_setFill_2 (by decide) ?_
  refine lv_bipush (v := (10 : Int32)) hx hb dX7_setFill_3 (by decide) ?_
  refine pcS (rest := [.ref (ad 28)]) S0 (c_X7_isIn l D ad cs H.size x1 (1 : Int32) (10 : Int32) _ hw) (va_cwS 3 hts gX7_setFill_X7_isIn rfl rfl rfl (by decide +kernel) ⟨Nat.le_of_ble_eq_true rfl, Nat.le_of_ble_eq_true rfl⟩) hN hK hP hD [] [] rfl rfl rfl rfl rfl hl.1 (Nat.le_of_ble_eq_true rfl) ⟨Nat.le_of_ble_eq_true rfl, Nat.le_of_ble_eq_true rfl⟩ dX7_setFill_5 (fun r_4 hw => ?_)
  refine lv_if_eq (tgt := 15) hx hb dX7_setFill_8 (by decide) (fun c_5 => ?_) (fun c_5 => ?_)
  · have hw := hw.1 c_5
    refine lv_iconst (v := (1 : Int32)) hx hb dX7_setFill_15 (by decide) ?_
    exact hJ16 vZ_fill vZ_thrown x1 (1 : Int32) hw _ _ _ hP hD hS (lv_sub hl [0, 1] rfl)
  · have hw := hw.2 c_5
    refine lv_iconst (v := (0 : Int32)) hx hb dX7_setFill_11 (by decide) ?_
    refine lv_goto (tgt := 16) hx hb dX7_setFill_12 (by decide) ?_
    exact hJ16 vZ_fill vZ_thrown x1 (0 : Int32) hw _ _ _ hP hD hS (lv_sub hl [0, 1] rfl)
set_option maxHeartbeats 4000000 in
set_option maxRecDepth 100000 in
theorem c_X7_setFill (l : Launch) (D : va_G) (ad : Nat → Nat) (cs : Nat → ClassId) (sz : Nat) (vZ_players vZ_fill vZ_patience vZ_turn vZ_made vZ_out vZ_finishers vZ_thrown x1 : Int32) (Q : Int32 → Int32 → Int32 → Prop) (hw : wp_X7_setFill vZ_players vZ_fill vZ_patience vZ_turn vZ_made vZ_out vZ_finishers vZ_thrown x1 Q) :
  Met l yX7_setFill wsX7_setFill rm_X7_setFill (va_Pc [.ref (ad 28), .int x1] (PX D (cl_X7_setFill ad cs vZ_players vZ_fill vZ_patience vZ_turn vZ_made vZ_out vZ_finishers vZ_thrown) (ty_X7_setFill cs) sz)) (va_Qi (fun (r : Int32) (u : Int32 × Int32) => Q r u.1 u.2) (fun (u : Int32 × Int32) t => va_P D vwCl (cl_X7_setFill ad cs vZ_players u.1 vZ_patience vZ_turn vZ_made vZ_out vZ_finishers u.2) t.heap ∧ va_D (va_A (cl_X7_setFill ad cs vZ_players vZ_fill vZ_patience vZ_turn vZ_made vZ_out vZ_finishers vZ_thrown) sz) (cl_X7_setFill ad cs vZ_players u.1 vZ_patience vZ_turn vZ_made vZ_out vZ_finishers u.2)) (va_A (cl_X7_setFill ad cs vZ_players vZ_fill vZ_patience vZ_turn vZ_made vZ_out vZ_finishers vZ_thrown) sz)) 0 0 (va_A (cl_X7_setFill ad cs vZ_players vZ_fill vZ_patience vZ_turn vZ_made vZ_out vZ_finishers vZ_thrown) sz) := by
  refine Met.ofW (cc := cX7_setFill) (maxL := 3) (ret := (some .int)) (by decide) rfl ?_
  intro p e s m args below meth c s₁ B hml hv
  obtain ⟨rfl, hsz, hP, hK, hD0, hN⟩ := hv
  subst hsz
  have hl := lv_entry ([.ref (ad 28), .int x1]) (n := 3) (Nat.le_of_ble_eq_true rfl)
  rw [lg_entry_eq]
  have hx := B.exec
  have hb := B.bytes
  have hr := B.returns
  exact b_X7_setFill l D ad cs vZ_players vZ_fill vZ_patience vZ_turn vZ_made vZ_out vZ_finishers vZ_thrown x1 Q hx hb hml (findClass_of_methodNamed B.named) (atoms_spec (ws := wsX7_setFill) B.pre) hN hP hK hD0.self (fun q h => Or.inr h) hl (fun r o0 o1 H locs pc ls hq hP hD hS hd => W.iret (v := r) hx hb hr (fun t ht hW => ⟨⟨r, (o0, o1), rfl, hq, by rw [ht]; exact hP, hD⟩, hS.F ht⟩) hS.2.2 hd) hw
abbrev rm_X7_setPatience : Room := { frames := 1, cells := 0, slots := 0, locals := 22 }
abbrev cl_X7_setPatience (ad : Nat → Nat) (cs : Nat → ClassId) (vZ_players vZ_fill vZ_patience vZ_turn vZ_made vZ_out vZ_finishers vZ_thrown : Int32) : va_W := [((ad 28), .inr (7, [.ref (ad 29), .ref (ad 30), .ref (ad 31), .ref (ad 32), .ref (ad 33), .ref (ad 34), .int vZ_players, .int vZ_fill, .int vZ_patience, .ref (ad 35), .int vZ_turn, .int vZ_made, .int vZ_out, .ref (ad 36), .int vZ_finishers, .ref (ad 37), .ref (ad 38), .ref (ad 39), .ref (ad 40), .ref (ad 41), .ref (ad 42), .ref (ad 43), .ref (ad 44), .ref (ad 45), .ref (ad 46), .ref (ad 47), .int vZ_thrown]))]
abbrev ty_X7_setPatience (cs : Nat → ClassId) : List (ClassId × FieldType) := []
def wJ_X7_setPatience_16 (vZ_players vZ_fill vZ_patience vZ_turn vZ_made vZ_out vZ_finishers vZ_thrown x1 t1 : Int32) (Q : Int32 → Int32 → Int32 → Prop) : Prop :=
 wp_X7_can vZ_players vZ_fill vZ_patience vZ_turn vZ_made vZ_out vZ_finishers vZ_thrown t1 (fun r_1 vZ_thrown_2 =>
 ((¬ r_1 = 0 → Q vZ_patience x1 vZ_thrown_2) ∧
 (r_1 = 0 → Q (0 : Int32) vZ_patience vZ_thrown_2)))
def wp_X7_setPatience (vZ_players vZ_fill vZ_patience vZ_turn vZ_made vZ_out vZ_finishers vZ_thrown x1 : Int32) (Q : Int32 → Int32 → Int32 → Prop) : Prop :=
 wp_X7_isIn x1 (0 : Int32) (100 : Int32) (fun r_4 =>
 ((r_4 = 0 → wJ_X7_setPatience_16 vZ_players vZ_fill vZ_patience vZ_turn vZ_made vZ_out vZ_finishers vZ_thrown x1 (1 : Int32) Q) ∧
 (¬ r_4 = 0 → wJ_X7_setPatience_16 vZ_players vZ_fill vZ_patience vZ_turn vZ_made vZ_out vZ_finishers vZ_thrown x1 (0 : Int32) Q)))
set_option maxHeartbeats 4000000 in
set_option maxRecDepth 100000 in
theorem b_X7_setPatience {p : Program} {e : Env} {s : State} {m : MethodId} {args : Array Value} {below : List Frame} {meth : Method} {c : Code} {QQ : State → Prop} {A : Nat → Prop} {ls : Array Slot} (l : Launch) (D : va_G) (ad : Nat → Nat) (cs : Nat → ClassId) (vZ_players vZ_fill vZ_patience vZ_turn vZ_made vZ_out vZ_finishers vZ_thrown x1 : Int32) (Q : Int32 → Int32 → Int32 → Prop) (hx : p.tables.exec = Jvm.exec) (hb : c.code = cX7_setPatience) (hml : c.maxLocals = 3) (hown : s.vm.findClass RX7 = some m.cls) (hts : ∀ w ∈ wsX7_setPatience, w.before args s = true) (hN : NW s) (hP : va_P D vwCl (cl_X7_setPatience ad cs vZ_players vZ_fill vZ_patience vZ_turn vZ_made vZ_out vZ_finishers vZ_thrown) s.heap) (hK : va_K D vwCl (ty_X7_setPatience cs) s) (hD : va_D A (cl_X7_setPatience ad cs vZ_players vZ_fill vZ_patience vZ_turn vZ_made vZ_out vZ_finishers vZ_thrown)) (hA : ∀ q : Nat, s.heap.size ≤ q → A q) (hl : lv_has ls 3 [(0, .ref (ad 28)), (1, .int x1)])
  (hret : ∀ (r : Int32) (o0 : Int32) (o1 : Int32) (H : Heap) (locs : List Loc) (pc : Nat) (ls : Array Slot), Q r o0 o1 → va_P D vwCl (cl_X7_setPatience ad cs vZ_players vZ_fill o0 vZ_turn vZ_made vZ_out vZ_finishers o1) H → va_D A (cl_X7_setPatience ad cs vZ_players vZ_fill o0 vZ_turn vZ_made vZ_out vZ_finishers o1) → va_S A s.heap H locs → decode cX7_setPatience pc = .ok (.ireturn, 1) → W p l e rm_X7_setPatience s m args below meth c H locs 0 0 QQ (F0 m pc ls [.int r]))
  (hw : wp_X7_setPatience vZ_players vZ_fill vZ_patience vZ_turn vZ_made vZ_out vZ_finishers vZ_thrown x1 Q) :
  W p l e rm_X7_setPatience s m args below meth c s.heap [] 0 0 QQ (F0 m 0 ls []) := by
  have S0 : CallFix p m c cX7_setPatience 3 s args wsX7_setPatience RX7 := ⟨hx, hb, hml, hown, hts⟩
  have inX7 : ∀ w ∈ u_ws RX7 TX7 27, w ∈ wsX7_setPatience := by decide +kernel
  have fl_112 := hts (.fieldLink RX7 112 "HopperCourtModel" "patience" "I") (by decide +kernel)
  have hJ16 : ∀ (vZ_patience vZ_thrown x1 t1 : Int32), wJ_X7_setPatience_16 vZ_players vZ_fill vZ_patience vZ_turn vZ_made vZ_out vZ_finishers vZ_thrown x1 t1 Q → ∀ (H : Heap) (locs : List Loc) (ls : Array Slot), va_P D vwCl (cl_X7_setPatience ad cs vZ_players vZ_fill vZ_patience vZ_turn vZ_made vZ_out vZ_finishers vZ_thrown) H → va_D A (cl_X7_setPatience ad cs vZ_players vZ_fill vZ_patience vZ_turn vZ_made vZ_out vZ_finishers vZ_thrown) → va_S A s.heap H locs → lv_has ls 3 [(0, .ref (ad 28)), (1, .int x1)] → W p l e rm_X7_setPatience s m args below meth c H locs 0 0 QQ (F0 m 16 ls [.int t1, .ref (ad 28)]) := by
    intro vZ_patience vZ_thrown x1 t1 hw  H locs ls hP hD hS hl
    unfold wJ_X7_setPatience_16 at hw
    refine pcVi (rest := []) (wr := []) (ci := 7) S0 (c_X7_can l D ad cs H.size vZ_players vZ_fill vZ_patience vZ_turn vZ_made vZ_out vZ_finishers vZ_thrown t1 _ hw) (cwV 1 hts gX7_setPatience_X7_can rfl rfl rfl (by decide +kernel) ⟨Nat.le_of_ble_eq_true rfl, Nat.le_of_ble_eq_true rfl⟩) hN hK hP hD hS hA [0] [] [] ⟨rfl, rfl, rfl, rfl, rfl, by decide⟩ 0 rfl rfl rfl rfl hl.1 (Nat.le_of_ble_eq_true rfl) ⟨Nat.le_of_ble_eq_true rfl, Nat.le_of_ble_eq_true rfl⟩ dX7_setPatience_16 (fun r_1 u H locs hw hP hD hS => ?_)
    obtain ⟨vZ_thrown_2, rfl⟩ : ∃ z, z = u := ⟨_, rfl⟩
    have hP : va_P D vwCl (cl_X7_setPatience ad cs vZ_players vZ_fill vZ_patience vZ_turn vZ_made vZ_out vZ_finishers vZ_thrown_2) H := hP.sub [0] rfl
    have hD : va_D A (cl_X7_setPatience ad cs vZ_players vZ_fill vZ_patience vZ_turn vZ_made vZ_out vZ_finishers vZ_thrown_2) := hD.sub [0] (by decide) rfl
    refine lv_if_ne (tgt := 24) hx hb dX7_setPatience_19 (by decide) (fun c_3 => ?_) (fun c_3 => ?_)
    · have hw := hw.1 c_3
      refine lv_aload_n hx hb dX7_setPatience_24 rfl (lv_at hl 0 rfl) ?_
      refine va_get (D := D) (ci := 7) (v := .int vZ_patience) (C := RX7) (T := TX7) (N := 27) hx hb hts inX7 hown hK hP 0 rfl rfl 8 (by decide) fl_112 (fun _ h9 => h9) rfl dX7_setPatience_25 ?_
      refine lv_istore_n (lv' := [(2, .int vZ_patience), (0, .ref (ad 28)), (1, .int x1)]) hx hb dX7_setPatience_28 rfl hl (by decide) rfl (fun ls hl => ?_)
      refine lv_aload_n hx hb dX7_setPatience_29 rfl (lv_at hl 1 rfl) ?_
      refine lv_iload_n hx hb dX7_setPatience_30 rfl (lv_at hl 2 rfl) ?_
      refine va_put (D := D) (ci := 7) (v := .int x1) (ty := .int) (C := RX7) (T := TX7) (N := 27) hx hb hts inX7 tyX7 tyX7_ok nmX7 hown hK hP hD hS 0 rfl rfl 8 (by decide) fl_112 (fun _ h9 => h9) rfl (by decide +kernel) rfl rfl (Nat.le_of_ble_eq_true rfl) dX7_setPatience_31 (fun H locs hP hD hS => ?_)
      have hP : va_P D vwCl (cl_X7_setPatience ad cs vZ_players vZ_fill x1 vZ_turn vZ_made vZ_out vZ_finishers vZ_thrown_2) H := hP
      have hD : va_D A (cl_X7_setPatience ad cs vZ_players vZ_fill x1 vZ_turn vZ_made vZ_out vZ_finishers vZ_thrown_2) := hD
      refine lv_iload_n hx hb dX7_setPatience_34 rfl (lv_at hl 0 rfl) ?_
      exact hret _ _ _ _ _ _ _ hw hP hD hS dX7_setPatience_35
    · have hw := hw.2 c_3
      refine lv_iconst (v := (0 : Int32)) hx hb dX7_setPatience_22 (by decide) ?_
      exact hret _ _ _ _ _ _ _ hw hP hD hS dX7_setPatience_23
  obtain ⟨H, hH⟩ : ∃ H : Heap, H = s.heap := ⟨_, rfl⟩
  have hS : va_S A s.heap H [] := by rw [hH]; exact va_S.rf
  rw [← hH] at hP ⊢
  unfold wp_X7_setPatience at hw
  refine lv_aload_n hx hb dX7_setPatience_0 rfl (lv_at hl 0 rfl) ?_
  refine lv_iload_n hx hb dX7_setPatience_1 rfl (lv_at hl 1 rfl) ?_
  refine lv_iconst (v := (0 : Int32)) hx hb dX7_setPatience_2 (by decide) ?_
  refine lv_bipush (v := (100 : Int32)) hx hb dX7_setPatience_3 (by decide) ?_
  refine pcS (rest := [.ref (ad 28)]) S0 (c_X7_isIn l D ad cs H.size x1 (0 : Int32) (100 : Int32) _ hw) (va_cwS 3 hts gX7_setPatience_X7_isIn rfl rfl rfl (by decide +kernel) ⟨Nat.le_of_ble_eq_true rfl, Nat.le_of_ble_eq_true rfl⟩) hN hK hP hD [] [] rfl rfl rfl rfl rfl hl.1 (Nat.le_of_ble_eq_true rfl) ⟨Nat.le_of_ble_eq_true rfl, Nat.le_of_ble_eq_true rfl⟩ dX7_setPatience_5 (fun r_4 hw => ?_)
  refine lv_if_eq (tgt := 15) hx hb dX7_setPatience_8 (by decide) (fun c_5 => ?_) (fun c_5 => ?_)
  · have hw := hw.1 c_5
    refine lv_iconst (v := (1 : Int32)) hx hb dX7_setPatience_15 (by decide) ?_
    exact hJ16 vZ_patience vZ_thrown x1 (1 : Int32) hw _ _ _ hP hD hS (lv_sub hl [0, 1] rfl)
  · have hw := hw.2 c_5
    refine lv_iconst (v := (0 : Int32)) hx hb dX7_setPatience_11 (by decide) ?_
    refine lv_goto (tgt := 16) hx hb dX7_setPatience_12 (by decide) ?_
    exact hJ16 vZ_patience vZ_thrown x1 (0 : Int32) hw _ _ _ hP hD hS (lv_sub hl [0, 1] rfl)
set_option maxHeartbeats 4000000 in
set_option maxRecDepth 100000 in
theorem c_X7_setPatience (l : Launch) (D : va_G) (ad : Nat → Nat) (cs : Nat → ClassId) (sz : Nat) (vZ_players vZ_fill vZ_patience vZ_turn vZ_made vZ_out vZ_finishers vZ_thrown x1 : Int32) (Q : Int32 → Int32 → Int32 → Prop) (hw : wp_X7_setPatience vZ_players vZ_fill vZ_patience vZ_turn vZ_made vZ_out vZ_finishers vZ_thrown x1 Q) :
  Met l yX7_setPatience wsX7_setPatience rm_X7_setPatience (va_Pc [.ref (ad 28), .int x1] (PX D (cl_X7_setPatience ad cs vZ_players vZ_fill vZ_patience vZ_turn vZ_made vZ_out vZ_finishers vZ_thrown) (ty_X7_setPatience cs) sz)) (va_Qi (fun (r : Int32) (u : Int32 × Int32) => Q r u.1 u.2) (fun (u : Int32 × Int32) t => va_P D vwCl (cl_X7_setPatience ad cs vZ_players vZ_fill u.1 vZ_turn vZ_made vZ_out vZ_finishers u.2) t.heap ∧ va_D (va_A (cl_X7_setPatience ad cs vZ_players vZ_fill vZ_patience vZ_turn vZ_made vZ_out vZ_finishers vZ_thrown) sz) (cl_X7_setPatience ad cs vZ_players vZ_fill u.1 vZ_turn vZ_made vZ_out vZ_finishers u.2)) (va_A (cl_X7_setPatience ad cs vZ_players vZ_fill vZ_patience vZ_turn vZ_made vZ_out vZ_finishers vZ_thrown) sz)) 0 0 (va_A (cl_X7_setPatience ad cs vZ_players vZ_fill vZ_patience vZ_turn vZ_made vZ_out vZ_finishers vZ_thrown) sz) := by
  refine Met.ofW (cc := cX7_setPatience) (maxL := 3) (ret := (some .int)) (by decide) rfl ?_
  intro p e s m args below meth c s₁ B hml hv
  obtain ⟨rfl, hsz, hP, hK, hD0, hN⟩ := hv
  subst hsz
  have hl := lv_entry ([.ref (ad 28), .int x1]) (n := 3) (Nat.le_of_ble_eq_true rfl)
  rw [lg_entry_eq]
  have hx := B.exec
  have hb := B.bytes
  have hr := B.returns
  exact b_X7_setPatience l D ad cs vZ_players vZ_fill vZ_patience vZ_turn vZ_made vZ_out vZ_finishers vZ_thrown x1 Q hx hb hml (findClass_of_methodNamed B.named) (atoms_spec (ws := wsX7_setPatience) B.pre) hN hP hK hD0.self (fun q h => Or.inr h) hl (fun r o0 o1 H locs pc ls hq hP hD hS hd => W.iret (v := r) hx hb hr (fun t ht hW => ⟨⟨r, (o0, o1), rfl, hq, by rw [ht]; exact hP, hD⟩, hS.F ht⟩) hS.2.2 hd) hw
abbrev rm_X7_hasFinished : Room := { frames := 0, cells := 0, slots := 0, locals := 0 }
abbrev cl_X7_hasFinished (ad : Nat → Nat) (cs : Nat → ClassId) (vZ_players vZ_fill vZ_patience vZ_turn vZ_made vZ_out vZ_finishers vZ_thrown : Int32) (vZ_places : Nat → Int32) : va_W := [((ad 28), .inr (7, [.ref (ad 29), .ref (ad 30), .ref (ad 31), .ref (ad 32), .ref (ad 33), .ref (ad 34), .int vZ_players, .int vZ_fill, .int vZ_patience, .ref (ad 35), .int vZ_turn, .int vZ_made, .int vZ_out, .ref (ad 36), .int vZ_finishers, .ref (ad 37), .ref (ad 38), .ref (ad 39), .ref (ad 40), .ref (ad 41), .ref (ad 42), .ref (ad 43), .ref (ad 44), .ref (ad 45), .ref (ad 46), .ref (ad 47), .int vZ_thrown])), ((ad 37), .inl ((cs 37), 6, .inl vZ_places))]
abbrev ty_X7_hasFinished (cs : Nat → ClassId) : List (ClassId × FieldType) := [((cs 37), .int)]
def wb_X7_hasFinished_4 (vZ_finishers : Int32) (vZ_places : Nat → Int32) (x1 : Int32) (K4 : Int32 → Prop) (P4 : Int32 → Int32 → Prop) (x2 x3 : Int32) : Prop :=
 ((vZ_finishers ≤ x3 → K4 x2) ∧
 (¬ vZ_finishers ≤ x3 → ((¬ x2 = 0 → P4 (1 : Int32) (x3 + (1 : Int32))) ∧
 (x2 = 0 → (vp_in x3 6 ∧
 ((¬ (vZ_places x3.toNatClampNeg) = x1 → P4 (0 : Int32) (x3 + (1 : Int32))) ∧
 ((vZ_places x3.toNatClampNeg) = x1 → P4 (1 : Int32) (x3 + (1 : Int32)))))))))
def wl_X7_hasFinished_4 (vZ_finishers : Int32) (vZ_places : Nat → Int32) (x1 : Int32) (K4 : Int32 → Prop) (x2 x3 : Int32) : Prop := ∀ P4 : Int32 → Int32 → Prop, (∀ (x2 x3 : Int32), wb_X7_hasFinished_4 vZ_finishers vZ_places x1 K4 P4 x2 x3 → P4 x2 x3) → P4 x2 x3
def wp_X7_hasFinished (vZ_players vZ_fill vZ_patience vZ_turn vZ_made vZ_out vZ_finishers vZ_thrown : Int32) (vZ_places : Nat → Int32) (x1 : Int32) (Q : Int32 → Prop) : Prop :=
 wl_X7_hasFinished_4 vZ_finishers vZ_places x1 (fun x2_5 => (nb x2_5 ∧ Q x2_5)) (0 : Int32) (0 : Int32)
set_option maxHeartbeats 4000000 in
set_option maxRecDepth 100000 in
theorem b_X7_hasFinished {p : Program} {e : Env} {s : State} {m : MethodId} {args : Array Value} {below : List Frame} {meth : Method} {c : Code} {QQ : State → Prop} {A : Nat → Prop} {ls : Array Slot} (l : Launch) (D : va_G) (ad : Nat → Nat) (cs : Nat → ClassId) (vZ_players vZ_fill vZ_patience vZ_turn vZ_made vZ_out vZ_finishers vZ_thrown : Int32) (vZ_places : Nat → Int32) (x1 : Int32) (Q : Int32 → Prop) (hx : p.tables.exec = Jvm.exec) (hb : c.code = cX7_hasFinished) (hml : c.maxLocals = 4) (hown : s.vm.findClass RX7 = some m.cls) (hts : ∀ w ∈ wsX7_hasFinished, w.before args s = true) (hN : NW s) (hP : va_P D vwCl (cl_X7_hasFinished ad cs vZ_players vZ_fill vZ_patience vZ_turn vZ_made vZ_out vZ_finishers vZ_thrown vZ_places) s.heap) (hK : va_K D vwCl (ty_X7_hasFinished cs) s) (hD : va_D A (cl_X7_hasFinished ad cs vZ_players vZ_fill vZ_patience vZ_turn vZ_made vZ_out vZ_finishers vZ_thrown vZ_places)) (hA : ∀ q : Nat, s.heap.size ≤ q → A q) (hl : lv_has ls 4 [(0, .ref (ad 28)), (1, .int x1)])
  (hret : ∀ (r : Int32) (pc : Nat) (ls : Array Slot), nb r → Q r → decode cX7_hasFinished pc = .ok (.ireturn, 1) → W p l e rm_X7_hasFinished s m args below meth c s.heap [] 0 0 QQ (F0 m pc ls [.int r]))
  (hw : wp_X7_hasFinished vZ_players vZ_fill vZ_patience vZ_turn vZ_made vZ_out vZ_finishers vZ_thrown vZ_places x1 Q) :
  W p l e rm_X7_hasFinished s m args below meth c s.heap [] 0 0 QQ (F0 m 0 ls []) := by
  have S0 : CallFix p m c cX7_hasFinished 4 s args wsX7_hasFinished RX7 := ⟨hx, hb, hml, hown, hts⟩
  have inX7 : ∀ w ∈ u_ws RX7 TX7 27, w ∈ wsX7_hasFinished := by decide +kernel
  have fl_109 := hts (.fieldLink RX7 109 "HopperCourtModel" "finishers" "I") (by decide +kernel)
  have fl_38 := hts (.fieldLink RX7 38 "HopperCourtModel" "places" "[I") (by decide +kernel)
  have hL4 : ∀ (x1 : Int32) (K4 : Int32 → Prop) (x2 x3 : Int32), wl_X7_hasFinished_4 vZ_finishers vZ_places x1 K4 x2 x3 → (∀ (x2 : Int32), K4 x2 → ∀ (ls : Array Slot), lv_has ls 4 [(2, .int x2)] → W p l e rm_X7_hasFinished s m args below meth c s.heap [] 0 0 QQ (F0 m 38 ls [])) → ∀ (ls : Array Slot), lv_has ls 4 [(0, .ref (ad 28)), (1, .int x1), (2, .int x2), (3, .int x3)] → W p l e rm_X7_hasFinished s m args below meth c s.heap [] 0 0 QQ (F0 m 4 ls []) := by
    intro x1 K4 x2 x3 hw hK4
    unfold wl_X7_hasFinished_4 at hw
    refine hw (fun (x2 x3 : Int32) => ∀ (ls : Array Slot), lv_has ls 4 [(0, .ref (ad 28)), (1, .int x1), (2, .int x2), (3, .int x3)] → W p l e rm_X7_hasFinished s m args below meth c s.heap [] 0 0 QQ (F0 m 4 ls [])) ?_
    intro x2 x3 hw ls hl
    unfold wb_X7_hasFinished_4 at hw
    refine lv_iload_n hx hb dX7_hasFinished_4 rfl (lv_at hl 3 rfl) ?_
    refine lv_aload_n hx hb dX7_hasFinished_5 rfl (lv_at hl 0 rfl) ?_
    refine va_get (D := D) (ci := 7) (v := .int vZ_finishers) (C := RX7) (T := TX7) (N := 27) hx hb hts inX7 hown hK hP 0 rfl rfl 14 (by decide) fl_109 (fun _ h9 => h9) rfl dX7_hasFinished_6 ?_
    refine lv_icmp_ge (tgt := 38) hx hb dX7_hasFinished_9 (by decide) (fun c_1 => ?_) (fun c_1 => ?_)
    · have hw := hw.1 c_1
      exact hK4 x2 hw _ (lv_sub hl [2] rfl)
    · have hw := hw.2 c_1
      refine lv_iload_n hx hb dX7_hasFinished_12 rfl (lv_at hl 2 rfl) ?_
      refine lv_if_ne (tgt := 26) hx hb dX7_hasFinished_13 (by decide) (fun c_2 => ?_) (fun c_2 => ?_)
      · have hw := hw.1 c_2
        refine lv_iconst (v := (1 : Int32)) hx hb dX7_hasFinished_26 (by decide) ?_
        refine lv_goto (tgt := 31) hx hb dX7_hasFinished_27 (by decide) ?_
        refine lv_istore_n (lv' := [(2, .int (1 : Int32)), (0, .ref (ad 28)), (1, .int x1), (3, .int x3)]) hx hb dX7_hasFinished_31 rfl hl (by decide) rfl (fun ls hl => ?_)
        refine lv_iinc (v := (x3 + (1 : Int32))) (lv' := [(3, .int (x3 + (1 : Int32))), (2, .int (1 : Int32)), (0, .ref (ad 28)), (1, .int x1)]) hx hb dX7_hasFinished_32 hl (k := 3) rfl rfl (by decide) rfl (fun ls hl => ?_)
        refine lv_goto (tgt := 4) hx hb dX7_hasFinished_35 (by decide) ?_
        exact hw _ (lv_sub hl [2, 3, 1, 0] rfl)
      · have hw := hw.2 c_2
        refine lv_aload_n hx hb dX7_hasFinished_16 rfl (lv_at hl 0 rfl) ?_
        refine va_get (D := D) (ci := 7) (v := .ref (ad 37)) (C := RX7) (T := TX7) (N := 27) hx hb hts inX7 hown hK hP 0 rfl rfl 15 (by decide) fl_38 (fun _ h9 => h9) rfl dX7_hasFinished_17 ?_
        refine lv_iload_n hx hb dX7_hasFinished_20 rfl (lv_at hl 3 rfl) ?_
        obtain ⟨h_3, hw⟩ := hw
        refine va_iald hx hb hK hP 1 0 rfl rfl h_3 dX7_hasFinished_21 ?_
        refine lv_iload_n hx hb dX7_hasFinished_22 rfl (lv_at hl 1 rfl) ?_
        refine lv_icmp_ne (tgt := 30) hx hb dX7_hasFinished_23 (by decide) (fun c_4 => ?_) (fun c_4 => ?_)
        · have hw := hw.1 c_4
          refine lv_iconst (v := (0 : Int32)) hx hb dX7_hasFinished_30 (by decide) ?_
          refine lv_istore_n (lv' := [(2, .int (0 : Int32)), (0, .ref (ad 28)), (1, .int x1), (3, .int x3)]) hx hb dX7_hasFinished_31 rfl hl (by decide) rfl (fun ls hl => ?_)
          refine lv_iinc (v := (x3 + (1 : Int32))) (lv' := [(3, .int (x3 + (1 : Int32))), (2, .int (0 : Int32)), (0, .ref (ad 28)), (1, .int x1)]) hx hb dX7_hasFinished_32 hl (k := 3) rfl rfl (by decide) rfl (fun ls hl => ?_)
          refine lv_goto (tgt := 4) hx hb dX7_hasFinished_35 (by decide) ?_
          exact hw _ (lv_sub hl [2, 3, 1, 0] rfl)
        · have hw := hw.2 c_4
          refine lv_iconst (v := (1 : Int32)) hx hb dX7_hasFinished_26 (by decide) ?_
          refine lv_goto (tgt := 31) hx hb dX7_hasFinished_27 (by decide) ?_
          refine lv_istore_n (lv' := [(2, .int (1 : Int32)), (0, .ref (ad 28)), (1, .int x1), (3, .int x3)]) hx hb dX7_hasFinished_31 rfl hl (by decide) rfl (fun ls hl => ?_)
          refine lv_iinc (v := (x3 + (1 : Int32))) (lv' := [(3, .int (x3 + (1 : Int32))), (2, .int (1 : Int32)), (0, .ref (ad 28)), (1, .int x1)]) hx hb dX7_hasFinished_32 hl (k := 3) rfl rfl (by decide) rfl (fun ls hl => ?_)
          refine lv_goto (tgt := 4) hx hb dX7_hasFinished_35 (by decide) ?_
          exact hw _ (lv_sub hl [2, 3, 1, 0] rfl)
  unfold wp_X7_hasFinished at hw
  refine lv_iconst (v := (0 : Int32)) hx hb dX7_hasFinished_0 (by decide) ?_
  refine lv_istore_n (lv' := [(2, .int (0 : Int32)), (0, .ref (ad 28)), (1, .int x1)]) hx hb dX7_hasFinished_1 rfl hl (by decide) rfl (fun ls hl => ?_)
  refine lv_iconst (v := (0 : Int32)) hx hb dX7_hasFinished_2 (by decide) ?_
  refine lv_istore_n (lv' := [(3, .int (0 : Int32)), (2, .int (0 : Int32)), (0, .ref (ad 28)), (1, .int x1)]) hx hb dX7_hasFinished_3 rfl hl (by decide) rfl (fun ls hl => ?_)
  refine hL4 x1 _ (0 : Int32) (0 : Int32) hw ?_ _ (lv_sub hl [2, 3, 1, 0] rfl)
  intro x2_5 hw ls hl
  refine lv_iload_n hx hb dX7_hasFinished_38 rfl (lv_at hl 0 rfl) ?_
  obtain ⟨h_6, hw⟩ := hw
  exact hret _ _ _ h_6 hw dX7_hasFinished_39
set_option maxHeartbeats 4000000 in
set_option maxRecDepth 100000 in
theorem c_X7_hasFinished (l : Launch) (D : va_G) (ad : Nat → Nat) (cs : Nat → ClassId) (sz : Nat) (vZ_players vZ_fill vZ_patience vZ_turn vZ_made vZ_out vZ_finishers vZ_thrown : Int32) (vZ_places : Nat → Int32) (x1 : Int32) (Q : Int32 → Prop) (hw : wp_X7_hasFinished vZ_players vZ_fill vZ_patience vZ_turn vZ_made vZ_out vZ_finishers vZ_thrown vZ_places x1 Q) :
  Met l yX7_hasFinished wsX7_hasFinished rm_X7_hasFinished (va_Pc [.ref (ad 28), .int x1] (PX D (cl_X7_hasFinished ad cs vZ_players vZ_fill vZ_patience vZ_turn vZ_made vZ_out vZ_finishers vZ_thrown vZ_places) (ty_X7_hasFinished cs) sz)) (vp_Si Q) 0 0 (fun _ => False) := by
  refine Met.ofW (cc := cX7_hasFinished) (maxL := 4) (ret := (some .boolean)) (by decide) rfl ?_
  intro p e s m args below meth c s₁ B hml hv
  obtain ⟨rfl, hsz, hP, hK, hD0, hN⟩ := hv
  subst hsz
  have hl := lv_entry ([.ref (ad 28), .int x1]) (n := 4) (Nat.le_of_ble_eq_true rfl)
  rw [lg_entry_eq]
  have hx := B.exec
  have hb := B.bytes
  have hr := B.returns
  exact b_X7_hasFinished l D ad cs vZ_players vZ_fill vZ_patience vZ_turn vZ_made vZ_out vZ_finishers vZ_thrown vZ_places x1 Q hx hb hml (findClass_of_methodNamed B.named) (atoms_spec (ws := wsX7_hasFinished) B.pre) hN hP hK hD0.self (fun q h => Or.inr h) hl (A := va_A (cl_X7_hasFinished ad cs vZ_players vZ_fill vZ_patience vZ_turn vZ_made vZ_out vZ_finishers vZ_thrown vZ_places) s.heap.size) (fun r pc ls hn hq hd => W.zret (v := r) hx hb hr hn (fun t ht hW => ⟨r, rfl, hq, ht⟩) (fun _ h => nomatch h) hd) hw
abbrev rm_X7_ownIn : Room := { frames := 0, cells := 0, slots := 0, locals := 0 }
abbrev cl_X7_ownIn (ad : Nat → Nat) (cs : Nat → ClassId) (vZ_players vZ_fill vZ_patience vZ_turn vZ_made vZ_out vZ_finishers vZ_thrown : Int32) (vZ_cells vZ_board : Nat → Int32) : va_W := [((ad 28), .inr (7, [.ref (ad 29), .ref (ad 30), .ref (ad 31), .ref (ad 32), .ref (ad 33), .ref (ad 34), .int vZ_players, .int vZ_fill, .int vZ_patience, .ref (ad 35), .int vZ_turn, .int vZ_made, .int vZ_out, .ref (ad 36), .int vZ_finishers, .ref (ad 37), .ref (ad 38), .ref (ad 39), .ref (ad 40), .ref (ad 41), .ref (ad 42), .ref (ad 43), .ref (ad 44), .ref (ad 45), .ref (ad 46), .ref (ad 47), .int vZ_thrown])), ((ad 34), .inl ((cs 34), 60, .inl vZ_cells)), ((ad 35), .inl ((cs 35), 121, .inl vZ_board))]
abbrev ty_X7_ownIn (cs : Nat → ClassId) : List (ClassId × FieldType) := [((cs 34), .int), ((cs 35), .int)]
def wb_X7_ownIn_8 (vZ_cells vZ_board : Nat → Int32) (x1 x2 : Int32) (K8 : Int32 → Prop) (P8 : Int32 → Int32 → Prop) (x3 x4 : Int32) : Prop :=
 (((((10 : Int32) * x2) + (10 : Int32)) ≤ x4 → K8 x3) ∧
 (¬ (((10 : Int32) * x2) + (10 : Int32)) ≤ x4 → (vp_in x4 60 ∧
 (vp_in (vZ_cells x4.toNatClampNeg) 121 ∧
 ((¬ (vZ_board (vZ_cells x4.toNatClampNeg).toNatClampNeg) = x1 → P8 (x3 + (0 : Int32)) (x4 + (1 : Int32))) ∧
 ((vZ_board (vZ_cells x4.toNatClampNeg).toNatClampNeg) = x1 → P8 (x3 + (1 : Int32)) (x4 + (1 : Int32))))))))
def wl_X7_ownIn_8 (vZ_cells vZ_board : Nat → Int32) (x1 x2 : Int32) (K8 : Int32 → Prop) (x3 x4 : Int32) : Prop := ∀ P8 : Int32 → Int32 → Prop, (∀ (x3 x4 : Int32), wb_X7_ownIn_8 vZ_cells vZ_board x1 x2 K8 P8 x3 x4 → P8 x3 x4) → P8 x3 x4
def wp_X7_ownIn (vZ_players vZ_fill vZ_patience vZ_turn vZ_made vZ_out vZ_finishers vZ_thrown : Int32) (vZ_cells vZ_board : Nat → Int32) (x1 x2 : Int32) (Q : Int32 → Prop) : Prop :=
 wl_X7_ownIn_8 vZ_cells vZ_board x1 x2 (fun x3_5 => Q x3_5) (0 : Int32) ((10 : Int32) * x2)
set_option maxHeartbeats 4000000 in
set_option maxRecDepth 100000 in
theorem b_X7_ownIn {p : Program} {e : Env} {s : State} {m : MethodId} {args : Array Value} {below : List Frame} {meth : Method} {c : Code} {QQ : State → Prop} {A : Nat → Prop} {ls : Array Slot} (l : Launch) (D : va_G) (ad : Nat → Nat) (cs : Nat → ClassId) (vZ_players vZ_fill vZ_patience vZ_turn vZ_made vZ_out vZ_finishers vZ_thrown : Int32) (vZ_cells vZ_board : Nat → Int32) (x1 x2 : Int32) (Q : Int32 → Prop) (hx : p.tables.exec = Jvm.exec) (hb : c.code = cX7_ownIn) (hml : c.maxLocals = 5) (hown : s.vm.findClass RX7 = some m.cls) (hts : ∀ w ∈ wsX7_ownIn, w.before args s = true) (hN : NW s) (hP : va_P D vwCl (cl_X7_ownIn ad cs vZ_players vZ_fill vZ_patience vZ_turn vZ_made vZ_out vZ_finishers vZ_thrown vZ_cells vZ_board) s.heap) (hK : va_K D vwCl (ty_X7_ownIn cs) s) (hD : va_D A (cl_X7_ownIn ad cs vZ_players vZ_fill vZ_patience vZ_turn vZ_made vZ_out vZ_finishers vZ_thrown vZ_cells vZ_board)) (hA : ∀ q : Nat, s.heap.size ≤ q → A q) (hl : lv_has ls 5 [(0, .ref (ad 28)), (1, .int x1), (2, .int x2)])
  (hret : ∀ (r : Int32) (pc : Nat) (ls : Array Slot), Q r → decode cX7_ownIn pc = .ok (.ireturn, 1) → W p l e rm_X7_ownIn s m args below meth c s.heap [] 0 0 QQ (F0 m pc ls [.int r]))
  (hw : wp_X7_ownIn vZ_players vZ_fill vZ_patience vZ_turn vZ_made vZ_out vZ_finishers vZ_thrown vZ_cells vZ_board x1 x2 Q) :
  W p l e rm_X7_ownIn s m args below meth c s.heap [] 0 0 QQ (F0 m 0 ls []) := by
  have S0 : CallFix p m c cX7_ownIn 5 s args wsX7_ownIn RX7 := ⟨hx, hb, hml, hown, hts⟩
  have inX7 : ∀ w ∈ u_ws RX7 TX7 27, w ∈ wsX7_ownIn := by decide +kernel
  have fl_25 := hts (.fieldLink RX7 25 "HopperCourtModel" "cells" "[I") (by decide +kernel)
  have fl_32 := hts (.fieldLink RX7 32 "HopperCourtModel" "board" "[I") (by decide +kernel)
  have hL8 : ∀ (x1 x2 : Int32) (K8 : Int32 → Prop) (x3 x4 : Int32), wl_X7_ownIn_8 vZ_cells vZ_board x1 x2 K8 x3 x4 → (∀ (x3 : Int32), K8 x3 → ∀ (ls : Array Slot), lv_has ls 5 [(3, .int x3)] → W p l e rm_X7_ownIn s m args below meth c s.heap [] 0 0 QQ (F0 m 50 ls [])) → ∀ (ls : Array Slot), lv_has ls 5 [(0, .ref (ad 28)), (1, .int x1), (2, .int x2), (3, .int x3), (4, .int x4)] → W p l e rm_X7_ownIn s m args below meth c s.heap [] 0 0 QQ (F0 m 8 ls []) := by
    intro x1 x2 K8 x3 x4 hw hK8
    unfold wl_X7_ownIn_8 at hw
    refine hw (fun (x3 x4 : Int32) => ∀ (ls : Array Slot), lv_has ls 5 [(0, .ref (ad 28)), (1, .int x1), (2, .int x2), (3, .int x3), (4, .int x4)] → W p l e rm_X7_ownIn s m args below meth c s.heap [] 0 0 QQ (F0 m 8 ls [])) ?_
    intro x3 x4 hw ls hl
    unfold wb_X7_ownIn_8 at hw
    refine lv_iload hx hb dX7_ownIn_8 (lv_at hl 4 rfl) ?_
    refine lv_bipush (v := (10 : Int32)) hx hb dX7_ownIn_10 (by decide) ?_
    refine lv_iload_n hx hb dX7_ownIn_12 rfl (lv_at hl 2 rfl) ?_
    refine lv_imul hx hb dX7_ownIn_13 ?_
    refine lv_bipush (v := (10 : Int32)) hx hb dX7_ownIn_14 (by decide) ?_
    refine lv_iadd hx hb dX7_ownIn_16 ?_
    refine lv_icmp_ge (tgt := 50) hx hb dX7_ownIn_17 (by decide) (fun c_1 => ?_) (fun c_1 => ?_)
    · have hw := hw.1 c_1
      exact hK8 x3 hw _ (lv_sub hl [3] rfl)
    · have hw := hw.2 c_1
      refine lv_iload_n hx hb dX7_ownIn_20 rfl (lv_at hl 3 rfl) ?_
      refine lv_aload_n hx hb dX7_ownIn_21 rfl (lv_at hl 0 rfl) ?_
      refine va_get (D := D) (ci := 7) (v := .ref (ad 35)) (C := RX7) (T := TX7) (N := 27) hx hb hts inX7 hown hK hP 0 rfl rfl 9 (by decide) fl_32 (fun _ h9 => h9) rfl dX7_ownIn_22 ?_
      refine lv_aload_n hx hb dX7_ownIn_25 rfl (lv_at hl 0 rfl) ?_
      refine va_get (D := D) (ci := 7) (v := .ref (ad 34)) (C := RX7) (T := TX7) (N := 27) hx hb hts inX7 hown hK hP 0 rfl rfl 5 (by decide) fl_25 (fun _ h9 => h9) rfl dX7_ownIn_26 ?_
      refine lv_iload hx hb dX7_ownIn_29 (lv_at hl 4 rfl) ?_
      obtain ⟨h_2, hw⟩ := hw
      refine va_iald hx hb hK hP 1 0 rfl rfl h_2 dX7_ownIn_31 ?_
      obtain ⟨h_3, hw⟩ := hw
      refine va_iald hx hb hK hP 2 1 rfl rfl h_3 dX7_ownIn_32 ?_
      refine lv_iload_n hx hb dX7_ownIn_33 rfl (lv_at hl 1 rfl) ?_
      refine lv_icmp_ne (tgt := 41) hx hb dX7_ownIn_34 (by decide) (fun c_4 => ?_) (fun c_4 => ?_)
      · have hw := hw.1 c_4
        refine lv_iconst (v := (0 : Int32)) hx hb dX7_ownIn_41 (by decide) ?_
        refine lv_iadd hx hb dX7_ownIn_42 ?_
        refine lv_istore_n (lv' := [(3, .int (x3 + (0 : Int32))), (0, .ref (ad 28)), (1, .int x1), (2, .int x2), (4, .int x4)]) hx hb dX7_ownIn_43 rfl hl (by decide) rfl (fun ls hl => ?_)
        refine lv_iinc (v := (x4 + (1 : Int32))) (lv' := [(4, .int (x4 + (1 : Int32))), (3, .int (x3 + (0 : Int32))), (0, .ref (ad 28)), (1, .int x1), (2, .int x2)]) hx hb dX7_ownIn_44 hl (k := 4) rfl rfl (by decide) rfl (fun ls hl => ?_)
        refine lv_goto (tgt := 8) hx hb dX7_ownIn_47 (by decide) ?_
        exact hw _ (lv_sub hl [2, 3, 4, 1, 0] rfl)
      · have hw := hw.2 c_4
        refine lv_iconst (v := (1 : Int32)) hx hb dX7_ownIn_37 (by decide) ?_
        refine lv_goto (tgt := 42) hx hb dX7_ownIn_38 (by decide) ?_
        refine lv_iadd hx hb dX7_ownIn_42 ?_
        refine lv_istore_n (lv' := [(3, .int (x3 + (1 : Int32))), (0, .ref (ad 28)), (1, .int x1), (2, .int x2), (4, .int x4)]) hx hb dX7_ownIn_43 rfl hl (by decide) rfl (fun ls hl => ?_)
        refine lv_iinc (v := (x4 + (1 : Int32))) (lv' := [(4, .int (x4 + (1 : Int32))), (3, .int (x3 + (1 : Int32))), (0, .ref (ad 28)), (1, .int x1), (2, .int x2)]) hx hb dX7_ownIn_44 hl (k := 4) rfl rfl (by decide) rfl (fun ls hl => ?_)
        refine lv_goto (tgt := 8) hx hb dX7_ownIn_47 (by decide) ?_
        exact hw _ (lv_sub hl [2, 3, 4, 1, 0] rfl)
  unfold wp_X7_ownIn at hw
  refine lv_iconst (v := (0 : Int32)) hx hb dX7_ownIn_0 (by decide) ?_
  refine lv_istore_n (lv' := [(3, .int (0 : Int32)), (0, .ref (ad 28)), (1, .int x1), (2, .int x2)]) hx hb dX7_ownIn_1 rfl hl (by decide) rfl (fun ls hl => ?_)
  refine lv_bipush (v := (10 : Int32)) hx hb dX7_ownIn_2 (by decide) ?_
  refine lv_iload_n hx hb dX7_ownIn_4 rfl (lv_at hl 3 rfl) ?_
  refine lv_imul hx hb dX7_ownIn_5 ?_
  refine lv_istore (lv' := [(4, .int ((10 : Int32) * x2)), (3, .int (0 : Int32)), (0, .ref (ad 28)), (1, .int x1), (2, .int x2)]) hx hb dX7_ownIn_6 hl (by decide) rfl (fun ls hl => ?_)
  refine hL8 x1 x2 _ (0 : Int32) ((10 : Int32) * x2) hw ?_ _ (lv_sub hl [2, 3, 4, 1, 0] rfl)
  intro x3_5 hw ls hl
  refine lv_iload_n hx hb dX7_ownIn_50 rfl (lv_at hl 0 rfl) ?_
  exact hret _ _ _ hw dX7_ownIn_51
set_option maxHeartbeats 4000000 in
set_option maxRecDepth 100000 in
theorem c_X7_ownIn (l : Launch) (D : va_G) (ad : Nat → Nat) (cs : Nat → ClassId) (sz : Nat) (vZ_players vZ_fill vZ_patience vZ_turn vZ_made vZ_out vZ_finishers vZ_thrown : Int32) (vZ_cells vZ_board : Nat → Int32) (x1 x2 : Int32) (Q : Int32 → Prop) (hw : wp_X7_ownIn vZ_players vZ_fill vZ_patience vZ_turn vZ_made vZ_out vZ_finishers vZ_thrown vZ_cells vZ_board x1 x2 Q) :
  Met l yX7_ownIn wsX7_ownIn rm_X7_ownIn (va_Pc [.ref (ad 28), .int x1, .int x2] (PX D (cl_X7_ownIn ad cs vZ_players vZ_fill vZ_patience vZ_turn vZ_made vZ_out vZ_finishers vZ_thrown vZ_cells vZ_board) (ty_X7_ownIn cs) sz)) (vp_Si Q) 0 0 (fun _ => False) := by
  refine Met.ofW (cc := cX7_ownIn) (maxL := 5) (ret := (some .int)) (by decide) rfl ?_
  intro p e s m args below meth c s₁ B hml hv
  obtain ⟨rfl, hsz, hP, hK, hD0, hN⟩ := hv
  subst hsz
  have hl := lv_entry ([.ref (ad 28), .int x1, .int x2]) (n := 5) (Nat.le_of_ble_eq_true rfl)
  rw [lg_entry_eq]
  have hx := B.exec
  have hb := B.bytes
  have hr := B.returns
  exact b_X7_ownIn l D ad cs vZ_players vZ_fill vZ_patience vZ_turn vZ_made vZ_out vZ_finishers vZ_thrown vZ_cells vZ_board x1 x2 Q hx hb hml (findClass_of_methodNamed B.named) (atoms_spec (ws := wsX7_ownIn) B.pre) hN hP hK hD0.self (fun q h => Or.inr h) hl (A := va_A (cl_X7_ownIn ad cs vZ_players vZ_fill vZ_patience vZ_turn vZ_made vZ_out vZ_finishers vZ_thrown vZ_cells vZ_board) s.heap.size) (fun r pc ls hq hd => W.iret (v := r) hx hb hr (fun t ht hW => ⟨r, rfl, hq, ht⟩) (fun _ h => nomatch h) hd) hw
abbrev rm_X7_isFull : Room := { frames := 1, cells := 0, slots := 0, locals := 24 }
abbrev cl_X7_isFull (ad : Nat → Nat) (cs : Nat → ClassId) (vZ_players vZ_fill vZ_patience vZ_turn vZ_made vZ_out vZ_finishers vZ_thrown : Int32) (vZ_cells vZ_board : Nat → Int32) : va_W := [((ad 28), .inr (7, [.ref (ad 29), .ref (ad 30), .ref (ad 31), .ref (ad 32), .ref (ad 33), .ref (ad 34), .int vZ_players, .int vZ_fill, .int vZ_patience, .ref (ad 35), .int vZ_turn, .int vZ_made, .int vZ_out, .ref (ad 36), .int vZ_finishers, .ref (ad 37), .ref (ad 38), .ref (ad 39), .ref (ad 40), .ref (ad 41), .ref (ad 42), .ref (ad 43), .ref (ad 44), .ref (ad 45), .ref (ad 46), .ref (ad 47), .int vZ_thrown])), ((ad 34), .inl ((cs 34), 60, .inl vZ_cells)), ((ad 35), .inl ((cs 35), 121, .inl vZ_board))]
abbrev ty_X7_isFull (cs : Nat → ClassId) : List (ClassId × FieldType) := [((cs 34), .int), ((cs 35), .int)]
def wp_X7_isFull (vZ_players vZ_fill vZ_patience vZ_turn vZ_made vZ_out vZ_finishers vZ_thrown : Int32) (vZ_cells vZ_board : Nat → Int32) (x1 : Int32) (Q : Int32 → Prop) : Prop :=
 wp_X7_ownIn vZ_players vZ_fill vZ_patience vZ_turn vZ_made vZ_out vZ_finishers vZ_thrown vZ_cells vZ_board (-1 : Int32) x1 (fun r_1 =>
 ((¬ r_1 = 0 → Q (0 : Int32)) ∧
 (r_1 = 0 → Q (1 : Int32))))
set_option maxHeartbeats 4000000 in
set_option maxRecDepth 100000 in
theorem b_X7_isFull {p : Program} {e : Env} {s : State} {m : MethodId} {args : Array Value} {below : List Frame} {meth : Method} {c : Code} {QQ : State → Prop} {A : Nat → Prop} {ls : Array Slot} (l : Launch) (D : va_G) (ad : Nat → Nat) (cs : Nat → ClassId) (vZ_players vZ_fill vZ_patience vZ_turn vZ_made vZ_out vZ_finishers vZ_thrown : Int32) (vZ_cells vZ_board : Nat → Int32) (x1 : Int32) (Q : Int32 → Prop) (hx : p.tables.exec = Jvm.exec) (hb : c.code = cX7_isFull) (hml : c.maxLocals = 2) (hown : s.vm.findClass RX7 = some m.cls) (hts : ∀ w ∈ wsX7_isFull, w.before args s = true) (hN : NW s) (hP : va_P D vwCl (cl_X7_isFull ad cs vZ_players vZ_fill vZ_patience vZ_turn vZ_made vZ_out vZ_finishers vZ_thrown vZ_cells vZ_board) s.heap) (hK : va_K D vwCl (ty_X7_isFull cs) s) (hD : va_D A (cl_X7_isFull ad cs vZ_players vZ_fill vZ_patience vZ_turn vZ_made vZ_out vZ_finishers vZ_thrown vZ_cells vZ_board)) (hA : ∀ q : Nat, s.heap.size ≤ q → A q) (hl : lv_has ls 2 [(0, .ref (ad 28)), (1, .int x1)])
  (hret : ∀ (r : Int32) (pc : Nat) (ls : Array Slot), nb r → Q r → decode cX7_isFull pc = .ok (.ireturn, 1) → W p l e rm_X7_isFull s m args below meth c s.heap [] 0 0 QQ (F0 m pc ls [.int r]))
  (hw : wp_X7_isFull vZ_players vZ_fill vZ_patience vZ_turn vZ_made vZ_out vZ_finishers vZ_thrown vZ_cells vZ_board x1 Q) :
  W p l e rm_X7_isFull s m args below meth c s.heap [] 0 0 QQ (F0 m 0 ls []) := by
  have S0 : CallFix p m c cX7_isFull 2 s args wsX7_isFull RX7 := ⟨hx, hb, hml, hown, hts⟩
  unfold wp_X7_isFull at hw
  refine lv_aload_n hx hb dX7_isFull_0 rfl (lv_at hl 0 rfl) ?_
  refine lv_iconst (v := (-1 : Int32)) hx hb dX7_isFull_1 (by decide) ?_
  refine lv_iload_n hx hb dX7_isFull_2 rfl (lv_at hl 1 rfl) ?_
  refine pcV (rest := []) (ci := 7) S0 (c_X7_ownIn l D ad cs s.heap.size vZ_players vZ_fill vZ_patience vZ_turn vZ_made vZ_out vZ_finishers vZ_thrown vZ_cells vZ_board (-1 : Int32) x1 _ hw) (cwV 2 hts gX7_isFull_X7_ownIn rfl rfl rfl (by decide +kernel) ⟨Nat.le_of_ble_eq_true rfl, Nat.le_of_ble_eq_true rfl⟩) hN hK hP hD [0, 1, 2] [0, 1] rfl rfl rfl 0 rfl rfl rfl rfl hl.1 (Nat.le_of_ble_eq_true rfl) ⟨Nat.le_of_ble_eq_true rfl, Nat.le_of_ble_eq_true rfl⟩ dX7_isFull_3 (fun r_1 hw => ?_)
  refine lv_if_ne (tgt := 13) hx hb dX7_isFull_6 (by decide) (fun c_2 => ?_) (fun c_2 => ?_)
  · have hw := hw.1 c_2
    refine lv_iconst (v := (0 : Int32)) hx hb dX7_isFull_13 (by decide) ?_
    exact hret _ _ _ nb_0 hw dX7_isFull_14
  · have hw := hw.2 c_2
    refine lv_iconst (v := (1 : Int32)) hx hb dX7_isFull_9 (by decide) ?_
    refine lv_goto (tgt := 14) hx hb dX7_isFull_10 (by decide) ?_
    exact hret _ _ _ nb_1 hw dX7_isFull_14
set_option maxHeartbeats 4000000 in
set_option maxRecDepth 100000 in
theorem c_X7_isFull (l : Launch) (D : va_G) (ad : Nat → Nat) (cs : Nat → ClassId) (sz : Nat) (vZ_players vZ_fill vZ_patience vZ_turn vZ_made vZ_out vZ_finishers vZ_thrown : Int32) (vZ_cells vZ_board : Nat → Int32) (x1 : Int32) (Q : Int32 → Prop) (hw : wp_X7_isFull vZ_players vZ_fill vZ_patience vZ_turn vZ_made vZ_out vZ_finishers vZ_thrown vZ_cells vZ_board x1 Q) :
  Met l yX7_isFull wsX7_isFull rm_X7_isFull (va_Pc [.ref (ad 28), .int x1] (PX D (cl_X7_isFull ad cs vZ_players vZ_fill vZ_patience vZ_turn vZ_made vZ_out vZ_finishers vZ_thrown vZ_cells vZ_board) (ty_X7_isFull cs) sz)) (vp_Si Q) 0 0 (fun _ => False) := by
  refine Met.ofW (cc := cX7_isFull) (maxL := 2) (ret := (some .boolean)) (by decide) rfl ?_
  intro p e s m args below meth c s₁ B hml hv
  obtain ⟨rfl, hsz, hP, hK, hD0, hN⟩ := hv
  subst hsz
  have hl := lv_entry ([.ref (ad 28), .int x1]) (n := 2) (Nat.le_of_ble_eq_true rfl)
  rw [lg_entry_eq]
  have hx := B.exec
  have hb := B.bytes
  have hr := B.returns
  exact b_X7_isFull l D ad cs vZ_players vZ_fill vZ_patience vZ_turn vZ_made vZ_out vZ_finishers vZ_thrown vZ_cells vZ_board x1 Q hx hb hml (findClass_of_methodNamed B.named) (atoms_spec (ws := wsX7_isFull) B.pre) hN hP hK hD0.self (fun q h => Or.inr h) hl (A := va_A (cl_X7_isFull ad cs vZ_players vZ_fill vZ_patience vZ_turn vZ_made vZ_out vZ_finishers vZ_thrown vZ_cells vZ_board) s.heap.size) (fun r pc ls hn hq hd => W.zret (v := r) hx hb hr hn (fun t ht hW => ⟨r, rfl, hq, ht⟩) (fun _ h => nomatch h) hd) hw
abbrev rm_X7_finishes : Room := { frames := 2, cells := 0, slots := 0, locals := 45 }
abbrev cl_X7_finishes (ad : Nat → Nat) (cs : Nat → ClassId) (vZ_players vZ_fill vZ_patience vZ_turn vZ_made vZ_out vZ_finishers vZ_thrown : Int32) (vZ_cells vZ_board vZ_places : Nat → Int32) : va_W := [((ad 28), .inr (7, [.ref (ad 29), .ref (ad 30), .ref (ad 31), .ref (ad 32), .ref (ad 33), .ref (ad 34), .int vZ_players, .int vZ_fill, .int vZ_patience, .ref (ad 35), .int vZ_turn, .int vZ_made, .int vZ_out, .ref (ad 36), .int vZ_finishers, .ref (ad 37), .ref (ad 38), .ref (ad 39), .ref (ad 40), .ref (ad 41), .ref (ad 42), .ref (ad 43), .ref (ad 44), .ref (ad 45), .ref (ad 46), .ref (ad 47), .int vZ_thrown])), ((ad 34), .inl ((cs 34), 60, .inl vZ_cells)), ((ad 35), .inl ((cs 35), 121, .inl vZ_board)), ((ad 37), .inl ((cs 37), 6, .inl vZ_places))]
abbrev ty_X7_finishes (cs : Nat → ClassId) : List (ClassId × FieldType) := [((cs 34), .int), ((cs 35), .int), ((cs 37), .int)]
def wb_X7_finishes_2 (vZ_players vZ_fill vZ_patience vZ_turn vZ_made vZ_out vZ_thrown : Int32) (vZ_cells vZ_board : Nat → Int32) (K2 : Int32 → (Nat → Int32) → Prop) (P2 : Int32 → (Nat → Int32) → Int32 → Prop) (vZ_finishers : Int32) (vZ_places : Nat → Int32) (x1 : Int32) : Prop :=
 (((6 : Int32) ≤ x1 → K2 vZ_finishers vZ_places) ∧
 (¬ (6 : Int32) ≤ x1 → wp_X7_plays vZ_players vZ_fill vZ_patience vZ_turn vZ_made vZ_out vZ_finishers vZ_thrown x1 (fun r_2 =>
 ((r_2 = 0 → P2 vZ_finishers vZ_places (x1 + (1 : Int32))) ∧
 (¬ r_2 = 0 → ((¬ ((vZ_out >>> (x1 &&& 31)) &&& (1 : Int32)) = 0 → P2 vZ_finishers vZ_places (x1 + (1 : Int32))) ∧
 (((vZ_out >>> (x1 &&& 31)) &&& (1 : Int32)) = 0 → wp_X7_hasFinished vZ_players vZ_fill vZ_patience vZ_turn vZ_made vZ_out vZ_finishers vZ_thrown vZ_places x1 (fun r_5 =>
 ((¬ r_5 = 0 → P2 vZ_finishers vZ_places (x1 + (1 : Int32))) ∧
 (r_5 = 0 → wp_X7_isFull vZ_players vZ_fill vZ_patience vZ_turn vZ_made vZ_out vZ_finishers vZ_thrown vZ_cells vZ_board ((x1 + (3 : Int32)) - (x1 + (3 : Int32)) / (6 : Int32) * (6 : Int32)) (fun r_7 =>
 ((r_7 = 0 → P2 vZ_finishers vZ_places (x1 + (1 : Int32))) ∧
 (¬ r_7 = 0 → wp_X7_ownIn vZ_players vZ_fill vZ_patience vZ_turn vZ_made vZ_out vZ_finishers vZ_thrown vZ_cells vZ_board x1 ((x1 + (3 : Int32)) - (x1 + (3 : Int32)) / (6 : Int32) * (6 : Int32)) (fun r_9 =>
 ((r_9 < vZ_fill → P2 vZ_finishers vZ_places (x1 + (1 : Int32))) ∧
 (¬ r_9 < vZ_fill → (vp_in vZ_finishers 6 ∧
 P2 (vZ_finishers + (1 : Int32)) (upd vZ_places vZ_finishers.toNatClampNeg x1) (x1 + (1 : Int32)))))))))))))))))))
def wl_X7_finishes_2 (vZ_players vZ_fill vZ_patience vZ_turn vZ_made vZ_out vZ_thrown : Int32) (vZ_cells vZ_board : Nat → Int32) (K2 : Int32 → (Nat → Int32) → Prop) (vZ_finishers : Int32) (vZ_places : Nat → Int32) (x1 : Int32) : Prop := ∀ P2 : Int32 → (Nat → Int32) → Int32 → Prop, (∀ (vZ_finishers : Int32) (vZ_places : Nat → Int32) (x1 : Int32), wb_X7_finishes_2 vZ_players vZ_fill vZ_patience vZ_turn vZ_made vZ_out vZ_thrown vZ_cells vZ_board K2 P2 vZ_finishers vZ_places x1 → P2 vZ_finishers vZ_places x1) → P2 vZ_finishers vZ_places x1
def wp_X7_finishes (vZ_players vZ_fill vZ_patience vZ_turn vZ_made vZ_out vZ_finishers vZ_thrown : Int32) (vZ_cells vZ_board vZ_places : Nat → Int32) (Q : Int32 → (Nat → Int32) → Prop) : Prop :=
 wl_X7_finishes_2 vZ_players vZ_fill vZ_patience vZ_turn vZ_made vZ_out vZ_thrown vZ_cells vZ_board (fun vZ_finishers_12 vZ_places_13 => Q vZ_finishers_12 vZ_places_13) vZ_finishers vZ_places (0 : Int32)
set_option maxHeartbeats 4000000 in
set_option maxRecDepth 100000 in
theorem b_X7_finishes {p : Program} {e : Env} {s : State} {m : MethodId} {args : Array Value} {below : List Frame} {meth : Method} {c : Code} {QQ : State → Prop} {A : Nat → Prop} {ls : Array Slot} (l : Launch) (D : va_G) (ad : Nat → Nat) (cs : Nat → ClassId) (vZ_players vZ_fill vZ_patience vZ_turn vZ_made vZ_out vZ_finishers vZ_thrown : Int32) (vZ_cells vZ_board vZ_places : Nat → Int32) (Q : Int32 → (Nat → Int32) → Prop) (hx : p.tables.exec = Jvm.exec) (hb : c.code = cX7_finishes) (hml : c.maxLocals = 3) (hown : s.vm.findClass RX7 = some m.cls) (hts : ∀ w ∈ wsX7_finishes, w.before args s = true) (hN : NW s) (hP : va_P D vwCl (cl_X7_finishes ad cs vZ_players vZ_fill vZ_patience vZ_turn vZ_made vZ_out vZ_finishers vZ_thrown vZ_cells vZ_board vZ_places) s.heap) (hK : va_K D vwCl (ty_X7_finishes cs) s) (hD : va_D A (cl_X7_finishes ad cs vZ_players vZ_fill vZ_patience vZ_turn vZ_made vZ_out vZ_finishers vZ_thrown vZ_cells vZ_board vZ_places)) (hA : ∀ q : Nat, s.heap.size ≤ q → A q) (hl : lv_has ls 3 [(0, .ref (ad 28))])
  (hret : ∀ (o0 : Int32) (o1 : Nat → Int32) (H : Heap) (locs : List Loc) (pc : Nat) (ls : Array Slot), Q o0 o1 → va_P D vwCl (cl_X7_finishes ad cs vZ_players vZ_fill vZ_patience vZ_turn vZ_made vZ_out o0 vZ_thrown vZ_cells vZ_board o1) H → va_D A (cl_X7_finishes ad cs vZ_players vZ_fill vZ_patience vZ_turn vZ_made vZ_out o0 vZ_thrown vZ_cells vZ_board o1) → va_S A s.heap H locs → decode cX7_finishes pc = .ok (.return_, 1) → W p l e rm_X7_finishes s m args below meth c H locs 0 0 QQ (F0 m pc ls []))
  (hw : wp_X7_finishes vZ_players vZ_fill vZ_patience vZ_turn vZ_made vZ_out vZ_finishers vZ_thrown vZ_cells vZ_board vZ_places Q) :
  W p l e rm_X7_finishes s m args below meth c s.heap [] 0 0 QQ (F0 m 0 ls []) := by
  have S0 : CallFix p m c cX7_finishes 3 s args wsX7_finishes RX7 := ⟨hx, hb, hml, hown, hts⟩
  have inX7 : ∀ w ∈ u_ws RX7 TX7 27, w ∈ wsX7_finishes := by decide +kernel
  have fl_106 := hts (.fieldLink RX7 106 "HopperCourtModel" "out" "I") (by decide +kernel)
  have fl_109 := hts (.fieldLink RX7 109 "HopperCourtModel" "finishers" "I") (by decide +kernel)
  have fl_28 := hts (.fieldLink RX7 28 "HopperCourtModel" "fill" "I") (by decide +kernel)
  have fl_38 := hts (.fieldLink RX7 38 "HopperCourtModel" "places" "[I") (by decide +kernel)
  have hL2 : ∀ (K2 : Int32 → (Nat → Int32) → Prop) (vZ_finishers : Int32) (vZ_places : Nat → Int32) (x1 : Int32), wl_X7_finishes_2 vZ_players vZ_fill vZ_patience vZ_turn vZ_made vZ_out vZ_thrown vZ_cells vZ_board K2 vZ_finishers vZ_places x1 → (∀ (vZ_finishers : Int32) (vZ_places : Nat → Int32), K2 vZ_finishers vZ_places → ∀ (H : Heap) (locs : List Loc) (ls : Array Slot), va_P D vwCl (cl_X7_finishes ad cs vZ_players vZ_fill vZ_patience vZ_turn vZ_made vZ_out vZ_finishers vZ_thrown vZ_cells vZ_board vZ_places) H → va_D A (cl_X7_finishes ad cs vZ_players vZ_fill vZ_patience vZ_turn vZ_made vZ_out vZ_finishers vZ_thrown vZ_cells vZ_board vZ_places) → va_S A s.heap H locs → lv_has ls 3 [] → W p l e rm_X7_finishes s m args below meth c H locs 0 0 QQ (F0 m 89 ls [])) → ∀ (H : Heap) (locs : List Loc) (ls : Array Slot), va_P D vwCl (cl_X7_finishes ad cs vZ_players vZ_fill vZ_patience vZ_turn vZ_made vZ_out vZ_finishers vZ_thrown vZ_cells vZ_board vZ_places) H → va_D A (cl_X7_finishes ad cs vZ_players vZ_fill vZ_patience vZ_turn vZ_made vZ_out vZ_finishers vZ_thrown vZ_cells vZ_board vZ_places) → va_S A s.heap H locs → lv_has ls 3 [(0, .ref (ad 28)), (1, .int x1)] → W p l e rm_X7_finishes s m args below meth c H locs 0 0 QQ (F0 m 2 ls []) := by
    intro K2 vZ_finishers vZ_places x1 hw hK2
    unfold wl_X7_finishes_2 at hw
    refine hw (fun (vZ_finishers : Int32) (vZ_places : Nat → Int32) (x1 : Int32) => ∀ (H : Heap) (locs : List Loc) (ls : Array Slot), va_P D vwCl (cl_X7_finishes ad cs vZ_players vZ_fill vZ_patience vZ_turn vZ_made vZ_out vZ_finishers vZ_thrown vZ_cells vZ_board vZ_places) H → va_D A (cl_X7_finishes ad cs vZ_players vZ_fill vZ_patience vZ_turn vZ_made vZ_out vZ_finishers vZ_thrown vZ_cells vZ_board vZ_places) → va_S A s.heap H locs → lv_has ls 3 [(0, .ref (ad 28)), (1, .int x1)] → W p l e rm_X7_finishes s m args below meth c H locs 0 0 QQ (F0 m 2 ls [])) ?_
    intro vZ_finishers vZ_places x1 hw H locs ls hP hD hS hl
    unfold wb_X7_finishes_2 at hw
    refine lv_iload_n hx hb dX7_finishes_2 rfl (lv_at hl 1 rfl) ?_
    refine lv_bipush (v := (6 : Int32)) hx hb dX7_finishes_3 (by decide) ?_
    refine lv_icmp_ge (tgt := 89) hx hb dX7_finishes_5 (by decide) (fun c_1 => ?_) (fun c_1 => ?_)
    · have hw := hw.1 c_1
      exact hK2 vZ_finishers vZ_places hw _ _ _ hP hD hS (lv_sub hl [] rfl)
    · have hw := hw.2 c_1
      refine lv_iload_n hx hb dX7_finishes_8 rfl (lv_at hl 1 rfl) ?_
      refine lv_iconst (v := (3 : Int32)) hx hb dX7_finishes_9 (by decide) ?_
      refine lv_iadd hx hb dX7_finishes_10 ?_
      refine lv_bipush (v := (6 : Int32)) hx hb dX7_finishes_11 (by decide) ?_
      refine lv_irem hx hb dX7_finishes_13 (by decide) ?_
      refine lv_istore_n (lv' := [(2, .int ((x1 + (3 : Int32)) - (x1 + (3 : Int32)) / (6 : Int32) * (6 : Int32))), (0, .ref (ad 28)), (1, .int x1)]) hx hb dX7_finishes_14 rfl hl (by decide) rfl (fun ls hl => ?_)
      refine lv_aload_n hx hb dX7_finishes_15 rfl (lv_at hl 1 rfl) ?_
      refine lv_iload_n hx hb dX7_finishes_16 rfl (lv_at hl 2 rfl) ?_
      refine pcV (rest := []) (ci := 7) S0 (c_X7_plays l D ad cs H.size vZ_players vZ_fill vZ_patience vZ_turn vZ_made vZ_out vZ_finishers vZ_thrown x1 _ hw) (cwV 1 hts gX7_finishes_X7_plays rfl rfl rfl (by decide +kernel) ⟨Nat.le_of_ble_eq_true rfl, Nat.le_of_ble_eq_true rfl⟩) hN hK hP hD [0] [] rfl rfl rfl 0 rfl rfl rfl rfl hl.1 (Nat.le_of_ble_eq_true rfl) ⟨Nat.le_of_ble_eq_true rfl, Nat.le_of_ble_eq_true rfl⟩ dX7_finishes_17 (fun r_2 hw => ?_)
      refine lv_if_eq (tgt := 83) hx hb dX7_finishes_20 (by decide) (fun c_3 => ?_) (fun c_3 => ?_)
      · have hw := hw.1 c_3
        refine lv_iinc (v := (x1 + (1 : Int32))) (lv' := [(1, .int (x1 + (1 : Int32))), (2, .int ((x1 + (3 : Int32)) - (x1 + (3 : Int32)) / (6 : Int32) * (6 : Int32))), (0, .ref (ad 28))]) hx hb dX7_finishes_83 hl (k := 2) rfl rfl (by decide) rfl (fun ls hl => ?_)
        refine lv_goto (tgt := 2) hx hb dX7_finishes_86 (by decide) ?_
        exact hw _ _ _ hP hD hS (lv_sub hl [2, 0] rfl)
      · have hw := hw.2 c_3
        refine lv_aload_n hx hb dX7_finishes_23 rfl (lv_at hl 1 rfl) ?_
        refine va_get (D := D) (ci := 7) (v := .int vZ_out) (C := RX7) (T := TX7) (N := 27) hx hb hts inX7 hown hK hP 0 rfl rfl 12 (by decide) fl_106 (fun _ h9 => h9) rfl dX7_finishes_24 ?_
        refine lv_iload_n hx hb dX7_finishes_27 rfl (lv_at hl 2 rfl) ?_
        refine lv_ishr hx hb dX7_finishes_28 ?_
        refine lv_iconst (v := (1 : Int32)) hx hb dX7_finishes_29 (by decide) ?_
        refine lv_iand hx hb dX7_finishes_30 ?_
        refine lv_if_ne (tgt := 83) hx hb dX7_finishes_31 (by decide) (fun c_4 => ?_) (fun c_4 => ?_)
        · have hw := hw.1 c_4
          refine lv_iinc (v := (x1 + (1 : Int32))) (lv' := [(1, .int (x1 + (1 : Int32))), (2, .int ((x1 + (3 : Int32)) - (x1 + (3 : Int32)) / (6 : Int32) * (6 : Int32))), (0, .ref (ad 28))]) hx hb dX7_finishes_83 hl (k := 2) rfl rfl (by decide) rfl (fun ls hl => ?_)
          refine lv_goto (tgt := 2) hx hb dX7_finishes_86 (by decide) ?_
          exact hw _ _ _ hP hD hS (lv_sub hl [2, 0] rfl)
        · have hw := hw.2 c_4
          refine lv_aload_n hx hb dX7_finishes_34 rfl (lv_at hl 1 rfl) ?_
          refine lv_iload_n hx hb dX7_finishes_35 rfl (lv_at hl 2 rfl) ?_
          refine pcV (rest := []) (ci := 7) S0 (c_X7_hasFinished l D ad cs H.size vZ_players vZ_fill vZ_patience vZ_turn vZ_made vZ_out vZ_finishers vZ_thrown vZ_places x1 _ hw) (cwV 1 hts gX7_finishes_X7_hasFinished rfl rfl rfl (by decide +kernel) ⟨Nat.le_of_ble_eq_true rfl, Nat.le_of_ble_eq_true rfl⟩) hN hK hP hD [0, 3] [2] rfl rfl rfl 0 rfl rfl rfl rfl hl.1 (Nat.le_of_ble_eq_true rfl) ⟨Nat.le_of_ble_eq_true rfl, Nat.le_of_ble_eq_true rfl⟩ dX7_finishes_36 (fun r_5 hw => ?_)
          refine lv_if_ne (tgt := 83) hx hb dX7_finishes_39 (by decide) (fun c_6 => ?_) (fun c_6 => ?_)
          · have hw := hw.1 c_6
            refine lv_iinc (v := (x1 + (1 : Int32))) (lv' := [(1, .int (x1 + (1 : Int32))), (2, .int ((x1 + (3 : Int32)) - (x1 + (3 : Int32)) / (6 : Int32) * (6 : Int32))), (0, .ref (ad 28))]) hx hb dX7_finishes_83 hl (k := 2) rfl rfl (by decide) rfl (fun ls hl => ?_)
            refine lv_goto (tgt := 2) hx hb dX7_finishes_86 (by decide) ?_
            exact hw _ _ _ hP hD hS (lv_sub hl [2, 0] rfl)
          · have hw := hw.2 c_6
            refine lv_aload_n hx hb dX7_finishes_42 rfl (lv_at hl 1 rfl) ?_
            refine lv_iload_n hx hb dX7_finishes_43 rfl (lv_at hl 0 rfl) ?_
            refine pcV (rest := []) (ci := 7) S0 (c_X7_isFull l D ad cs H.size vZ_players vZ_fill vZ_patience vZ_turn vZ_made vZ_out vZ_finishers vZ_thrown vZ_cells vZ_board ((x1 + (3 : Int32)) - (x1 + (3 : Int32)) / (6 : Int32) * (6 : Int32)) _ hw) (cwV 1 hts gX7_finishes_X7_isFull rfl rfl rfl (by decide +kernel) ⟨Nat.le_of_ble_eq_true rfl, Nat.le_of_ble_eq_true rfl⟩) hN hK hP hD [0, 1, 2] [0, 1] rfl rfl rfl 0 rfl rfl rfl rfl hl.1 (Nat.le_of_ble_eq_true rfl) ⟨Nat.le_of_ble_eq_true rfl, Nat.le_of_ble_eq_true rfl⟩ dX7_finishes_44 (fun r_7 hw => ?_)
            refine lv_if_eq (tgt := 83) hx hb dX7_finishes_47 (by decide) (fun c_8 => ?_) (fun c_8 => ?_)
            · have hw := hw.1 c_8
              refine lv_iinc (v := (x1 + (1 : Int32))) (lv' := [(1, .int (x1 + (1 : Int32))), (2, .int ((x1 + (3 : Int32)) - (x1 + (3 : Int32)) / (6 : Int32) * (6 : Int32))), (0, .ref (ad 28))]) hx hb dX7_finishes_83 hl (k := 2) rfl rfl (by decide) rfl (fun ls hl => ?_)
              refine lv_goto (tgt := 2) hx hb dX7_finishes_86 (by decide) ?_
              exact hw _ _ _ hP hD hS (lv_sub hl [2, 0] rfl)
            · have hw := hw.2 c_8
              refine lv_aload_n hx hb dX7_finishes_50 rfl (lv_at hl 1 rfl) ?_
              refine lv_iload_n hx hb dX7_finishes_51 rfl (lv_at hl 2 rfl) ?_
              refine lv_iload_n hx hb dX7_finishes_52 rfl (lv_at hl 0 rfl) ?_
              refine pcV (rest := []) (ci := 7) S0 (c_X7_ownIn l D ad cs H.size vZ_players vZ_fill vZ_patience vZ_turn vZ_made vZ_out vZ_finishers vZ_thrown vZ_cells vZ_board x1 ((x1 + (3 : Int32)) - (x1 + (3 : Int32)) / (6 : Int32) * (6 : Int32)) _ hw) (cwV 2 hts gX7_finishes_X7_ownIn rfl rfl rfl (by decide +kernel) ⟨Nat.le_of_ble_eq_true rfl, Nat.le_of_ble_eq_true rfl⟩) hN hK hP hD [0, 1, 2] [0, 1] rfl rfl rfl 0 rfl rfl rfl rfl hl.1 (Nat.le_of_ble_eq_true rfl) ⟨Nat.le_of_ble_eq_true rfl, Nat.le_of_ble_eq_true rfl⟩ dX7_finishes_53 (fun r_9 hw => ?_)
              refine lv_aload_n hx hb dX7_finishes_56 rfl (lv_at hl 1 rfl) ?_
              refine va_get (D := D) (ci := 7) (v := .int vZ_fill) (C := RX7) (T := TX7) (N := 27) hx hb hts inX7 hown hK hP 0 rfl rfl 7 (by decide) fl_28 (fun _ h9 => h9) rfl dX7_finishes_57 ?_
              refine lv_icmp_lt (tgt := 83) hx hb dX7_finishes_60 (by decide) (fun c_10 => ?_) (fun c_10 => ?_)
              · have hw := hw.1 c_10
                refine lv_iinc (v := (x1 + (1 : Int32))) (lv' := [(1, .int (x1 + (1 : Int32))), (2, .int ((x1 + (3 : Int32)) - (x1 + (3 : Int32)) / (6 : Int32) * (6 : Int32))), (0, .ref (ad 28))]) hx hb dX7_finishes_83 hl (k := 2) rfl rfl (by decide) rfl (fun ls hl => ?_)
                refine lv_goto (tgt := 2) hx hb dX7_finishes_86 (by decide) ?_
                exact hw _ _ _ hP hD hS (lv_sub hl [2, 0] rfl)
              · have hw := hw.2 c_10
                refine lv_aload_n hx hb dX7_finishes_63 rfl (lv_at hl 1 rfl) ?_
                refine va_get (D := D) (ci := 7) (v := .ref (ad 37)) (C := RX7) (T := TX7) (N := 27) hx hb hts inX7 hown hK hP 0 rfl rfl 15 (by decide) fl_38 (fun _ h9 => h9) rfl dX7_finishes_64 ?_
                refine lv_aload_n hx hb dX7_finishes_67 rfl (lv_at hl 1 rfl) ?_
                refine va_get (D := D) (ci := 7) (v := .int vZ_finishers) (C := RX7) (T := TX7) (N := 27) hx hb hts inX7 hown hK hP 0 rfl rfl 14 (by decide) fl_109 (fun _ h9 => h9) rfl dX7_finishes_68 ?_
                refine lv_iload_n hx hb dX7_finishes_71 rfl (lv_at hl 2 rfl) ?_
                obtain ⟨h_11, hw⟩ := hw
                refine va_iast hx hb hK hP hD hS 3 2 rfl rfl h_11 dX7_finishes_72 (fun H locs hP hD hS => ?_)
                have hP : va_P D vwCl (cl_X7_finishes ad cs vZ_players vZ_fill vZ_patience vZ_turn vZ_made vZ_out vZ_finishers vZ_thrown vZ_cells vZ_board (upd vZ_places vZ_finishers.toNatClampNeg x1)) H := hP
                have hD : va_D A (cl_X7_finishes ad cs vZ_players vZ_fill vZ_patience vZ_turn vZ_made vZ_out vZ_finishers vZ_thrown vZ_cells vZ_board (upd vZ_places vZ_finishers.toNatClampNeg x1)) := hD
                refine lv_aload_n hx hb dX7_finishes_73 rfl (lv_at hl 1 rfl) ?_
                refine lv_dup hx hb dX7_finishes_74 rfl ?_
                refine va_get (D := D) (ci := 7) (v := .int vZ_finishers) (C := RX7) (T := TX7) (N := 27) hx hb hts inX7 hown hK hP 0 rfl rfl 14 (by decide) fl_109 (fun _ h9 => h9) rfl dX7_finishes_75 ?_
                refine lv_iconst (v := (1 : Int32)) hx hb dX7_finishes_78 (by decide) ?_
                refine lv_iadd hx hb dX7_finishes_79 ?_
                refine va_put (D := D) (ci := 7) (v := .int (vZ_finishers + (1 : Int32))) (ty := .int) (C := RX7) (T := TX7) (N := 27) hx hb hts inX7 tyX7 tyX7_ok nmX7 hown hK hP hD hS 0 rfl rfl 14 (by decide) fl_109 (fun _ h9 => h9) rfl (by decide +kernel) rfl rfl (Nat.le_of_ble_eq_true rfl) dX7_finishes_80 (fun H locs hP hD hS => ?_)
                have hP : va_P D vwCl (cl_X7_finishes ad cs vZ_players vZ_fill vZ_patience vZ_turn vZ_made vZ_out (vZ_finishers + (1 : Int32)) vZ_thrown vZ_cells vZ_board (upd vZ_places vZ_finishers.toNatClampNeg x1)) H := hP
                have hD : va_D A (cl_X7_finishes ad cs vZ_players vZ_fill vZ_patience vZ_turn vZ_made vZ_out (vZ_finishers + (1 : Int32)) vZ_thrown vZ_cells vZ_board (upd vZ_places vZ_finishers.toNatClampNeg x1)) := hD
                refine lv_iinc (v := (x1 + (1 : Int32))) (lv' := [(1, .int (x1 + (1 : Int32))), (2, .int ((x1 + (3 : Int32)) - (x1 + (3 : Int32)) / (6 : Int32) * (6 : Int32))), (0, .ref (ad 28))]) hx hb dX7_finishes_83 hl (k := 2) rfl rfl (by decide) rfl (fun ls hl => ?_)
                refine lv_goto (tgt := 2) hx hb dX7_finishes_86 (by decide) ?_
                exact hw _ _ _ hP hD hS (lv_sub hl [2, 0] rfl)
  obtain ⟨H, hH⟩ : ∃ H : Heap, H = s.heap := ⟨_, rfl⟩
  have hS : va_S A s.heap H [] := by rw [hH]; exact va_S.rf
  rw [← hH] at hP ⊢
  unfold wp_X7_finishes at hw
  refine lv_iconst (v := (0 : Int32)) hx hb dX7_finishes_0 (by decide) ?_
  refine lv_istore_n (lv' := [(1, .int (0 : Int32)), (0, .ref (ad 28))]) hx hb dX7_finishes_1 rfl hl (by decide) rfl (fun ls hl => ?_)
  refine hL2 _ vZ_finishers vZ_places (0 : Int32) hw ?_ _ _ _ hP hD hS (lv_sub hl [1, 0] rfl)
  intro vZ_finishers_12 vZ_places_13 hw H locs ls hP hD hS hl
  exact hret _ _ _ _ _ _ hw hP hD hS dX7_finishes_89
set_option maxHeartbeats 4000000 in
set_option maxRecDepth 100000 in
theorem c_X7_finishes (l : Launch) (D : va_G) (ad : Nat → Nat) (cs : Nat → ClassId) (sz : Nat) (vZ_players vZ_fill vZ_patience vZ_turn vZ_made vZ_out vZ_finishers vZ_thrown : Int32) (vZ_cells vZ_board vZ_places : Nat → Int32) (Q : Int32 → (Nat → Int32) → Prop) (hw : wp_X7_finishes vZ_players vZ_fill vZ_patience vZ_turn vZ_made vZ_out vZ_finishers vZ_thrown vZ_cells vZ_board vZ_places Q) :
  Met l yX7_finishes wsX7_finishes rm_X7_finishes (va_Pc [.ref (ad 28)] (PX D (cl_X7_finishes ad cs vZ_players vZ_fill vZ_patience vZ_turn vZ_made vZ_out vZ_finishers vZ_thrown vZ_cells vZ_board vZ_places) (ty_X7_finishes cs) sz)) (va_Qv (fun (u : Int32 × (Nat → Int32)) => Q u.1 u.2) (fun (u : Int32 × (Nat → Int32)) t => va_P D vwCl (cl_X7_finishes ad cs vZ_players vZ_fill vZ_patience vZ_turn vZ_made vZ_out u.1 vZ_thrown vZ_cells vZ_board u.2) t.heap ∧ va_D (va_A (cl_X7_finishes ad cs vZ_players vZ_fill vZ_patience vZ_turn vZ_made vZ_out vZ_finishers vZ_thrown vZ_cells vZ_board vZ_places) sz) (cl_X7_finishes ad cs vZ_players vZ_fill vZ_patience vZ_turn vZ_made vZ_out u.1 vZ_thrown vZ_cells vZ_board u.2)) (va_A (cl_X7_finishes ad cs vZ_players vZ_fill vZ_patience vZ_turn vZ_made vZ_out vZ_finishers vZ_thrown vZ_cells vZ_board vZ_places) sz)) 0 0 (va_A (cl_X7_finishes ad cs vZ_players vZ_fill vZ_patience vZ_turn vZ_made vZ_out vZ_finishers vZ_thrown vZ_cells vZ_board vZ_places) sz) := by
  refine Met.ofW (cc := cX7_finishes) (maxL := 3) (ret := none) (by decide) rfl ?_
  intro p e s m args below meth c s₁ B hml hv
  obtain ⟨rfl, hsz, hP, hK, hD0, hN⟩ := hv
  subst hsz
  have hl := lv_entry ([.ref (ad 28)]) (n := 3) (Nat.le_of_ble_eq_true rfl)
  rw [lg_entry_eq]
  have hx := B.exec
  have hb := B.bytes
  have hr := B.returns
  exact b_X7_finishes l D ad cs vZ_players vZ_fill vZ_patience vZ_turn vZ_made vZ_out vZ_finishers vZ_thrown vZ_cells vZ_board vZ_places Q hx hb hml (findClass_of_methodNamed B.named) (atoms_spec (ws := wsX7_finishes) B.pre) hN hP hK hD0.self (fun q h => Or.inr h) hl (fun o0 o1 H locs pc ls hq hP hD hS hd => W.vret hx hb hr (fun t ht hW => ⟨⟨(o0, o1), rfl, hq, by rw [ht]; exact hP, hD⟩, hS.F ht⟩) hS.2.2 hd) hw
abbrev rm_X7_turns : Room := { frames := 2, cells := 0, slots := 0, locals := 43 }
abbrev cl_X7_turns (ad : Nat → Nat) (cs : Nat → ClassId) (vZ_players vZ_fill vZ_patience vZ_turn vZ_made vZ_out vZ_finishers vZ_thrown : Int32) (vZ_cells vZ_board vZ_movesOf vZ_places : Nat → Int32) : va_W := [((ad 28), .inr (7, [.ref (ad 29), .ref (ad 30), .ref (ad 31), .ref (ad 32), .ref (ad 33), .ref (ad 34), .int vZ_players, .int vZ_fill, .int vZ_patience, .ref (ad 35), .int vZ_turn, .int vZ_made, .int vZ_out, .ref (ad 36), .int vZ_finishers, .ref (ad 37), .ref (ad 38), .ref (ad 39), .ref (ad 40), .ref (ad 41), .ref (ad 42), .ref (ad 43), .ref (ad 44), .ref (ad 45), .ref (ad 46), .ref (ad 47), .int vZ_thrown])), ((ad 34), .inl ((cs 34), 60, .inl vZ_cells)), ((ad 35), .inl ((cs 35), 121, .inl vZ_board)), ((ad 36), .inl ((cs 36), 6, .inl vZ_movesOf)), ((ad 37), .inl ((cs 37), 6, .inl vZ_places))]
abbrev ty_X7_turns (cs : Nat → ClassId) : List (ClassId × FieldType) := [((cs 34), .int), ((cs 35), .int), ((cs 36), .int), ((cs 37), .int)]
def wJ_X7_turns_113 (x2 x3 x4 t1 t2 : Int32) (P12 : Int32 → Int32 → Int32 → Prop) : Prop :=
 ((x4 = 0 → P12 x3 (t1 ||| t2) (x2 + (1 : Int32))) ∧
 (¬ x4 = 0 → P12 (-1 : Int32) (t1 ||| t2) (x2 + (1 : Int32))))
def wJ_X7_turns_94 (vZ_out x2 x3 t0 : Int32) (P12 : Int32 → Int32 → Int32 → Prop) : Prop :=
 ((t0 = 0 → wJ_X7_turns_113 x2 x3 t0 vZ_out (0 : Int32) P12) ∧
 (¬ t0 = 0 → wJ_X7_turns_113 x2 x3 t0 vZ_out ((1 : Int32) <<< (x3 &&& 31)) P12))
def wb_X7_turns_12 (vZ_players vZ_fill vZ_patience vZ_made vZ_finishers vZ_thrown : Int32) (vZ_cells vZ_board vZ_movesOf vZ_places : Nat → Int32) (x1 : Int32) (K12 : Int32 → Int32 → Prop) (P12 : Int32 → Int32 → Int32 → Prop) (vZ_turn vZ_out x2 : Int32) : Prop :=
 (((6 : Int32) < x2 → K12 vZ_turn vZ_out) ∧
 (¬ (6 : Int32) < x2 → ((¬ vZ_turn = (-1 : Int32) → K12 vZ_turn vZ_out) ∧
 (vZ_turn = (-1 : Int32) → wp_X7_plays vZ_players vZ_fill vZ_patience vZ_turn vZ_made vZ_out vZ_finishers vZ_thrown ((x1 + x2) - (x1 + x2) / (6 : Int32) * (6 : Int32)) (fun r_5 =>
 ((r_5 = 0 → P12 vZ_turn vZ_out (x2 + (1 : Int32))) ∧
 (¬ r_5 = 0 → wp_X7_hasFinished vZ_players vZ_fill vZ_patience vZ_turn vZ_made vZ_out vZ_finishers vZ_thrown vZ_places ((x1 + x2) - (x1 + x2) / (6 : Int32) * (6 : Int32)) (fun r_7 =>
 ((¬ r_7 = 0 → P12 vZ_turn vZ_out (x2 + (1 : Int32))) ∧
 (r_7 = 0 → ((¬ ((vZ_out >>> (((x1 + x2) - (x1 + x2) / (6 : Int32) * (6 : Int32)) &&& 31)) &&& (1 : Int32)) = 0 → P12 vZ_turn vZ_out (x2 + (1 : Int32))) ∧
 (((vZ_out >>> (((x1 + x2) - (x1 + x2) / (6 : Int32) * (6 : Int32)) &&& 31)) &&& (1 : Int32)) = 0 → ((vZ_patience ≤ 0 → wJ_X7_turns_94 vZ_out x2 ((x1 + x2) - (x1 + x2) / (6 : Int32) * (6 : Int32)) (0 : Int32) P12) ∧
 (¬ vZ_patience ≤ 0 → (vp_in ((x1 + x2) - (x1 + x2) / (6 : Int32) * (6 : Int32)) 6 ∧
 (((vZ_movesOf ((x1 + x2) - (x1 + x2) / (6 : Int32) * (6 : Int32)).toNatClampNeg) < vZ_patience → wJ_X7_turns_94 vZ_out x2 ((x1 + x2) - (x1 + x2) / (6 : Int32) * (6 : Int32)) (0 : Int32) P12) ∧
 (¬ (vZ_movesOf ((x1 + x2) - (x1 + x2) / (6 : Int32) * (6 : Int32)).toNatClampNeg) < vZ_patience → wp_X7_ownIn vZ_players vZ_fill vZ_patience vZ_turn vZ_made vZ_out vZ_finishers vZ_thrown vZ_cells vZ_board ((x1 + x2) - (x1 + x2) / (6 : Int32) * (6 : Int32)) ((x1 + x2) - (x1 + x2) / (6 : Int32) * (6 : Int32)) (fun r_13 =>
 ((r_13 ≤ 0 → wJ_X7_turns_94 vZ_out x2 ((x1 + x2) - (x1 + x2) / (6 : Int32) * (6 : Int32)) (0 : Int32) P12) ∧
 (¬ r_13 ≤ 0 → wJ_X7_turns_94 vZ_out x2 ((x1 + x2) - (x1 + x2) / (6 : Int32) * (6 : Int32)) (1 : Int32) P12))))))))))))))))))))
def wl_X7_turns_12 (vZ_players vZ_fill vZ_patience vZ_made vZ_finishers vZ_thrown : Int32) (vZ_cells vZ_board vZ_movesOf vZ_places : Nat → Int32) (x1 : Int32) (K12 : Int32 → Int32 → Prop) (vZ_turn vZ_out x2 : Int32) : Prop := ∀ P12 : Int32 → Int32 → Int32 → Prop, (∀ (vZ_turn vZ_out x2 : Int32), wb_X7_turns_12 vZ_players vZ_fill vZ_patience vZ_made vZ_finishers vZ_thrown vZ_cells vZ_board vZ_movesOf vZ_places x1 K12 P12 vZ_turn vZ_out x2 → P12 vZ_turn vZ_out x2) → P12 vZ_turn vZ_out x2
def wp_X7_turns (vZ_players vZ_fill vZ_patience vZ_turn vZ_made vZ_out vZ_finishers vZ_thrown : Int32) (vZ_cells vZ_board vZ_movesOf vZ_places : Nat → Int32) (Q : Int32 → Int32 → Prop) : Prop :=
 wl_X7_turns_12 vZ_players vZ_fill vZ_patience vZ_made vZ_finishers vZ_thrown vZ_cells vZ_board vZ_movesOf vZ_places vZ_turn (fun vZ_turn_15 vZ_out_16 => Q vZ_turn_15 vZ_out_16) (-1 : Int32) vZ_out (1 : Int32)
set_option maxHeartbeats 4000000 in
set_option maxRecDepth 100000 in
theorem b_X7_turns {p : Program} {e : Env} {s : State} {m : MethodId} {args : Array Value} {below : List Frame} {meth : Method} {c : Code} {QQ : State → Prop} {A : Nat → Prop} {ls : Array Slot} (l : Launch) (D : va_G) (ad : Nat → Nat) (cs : Nat → ClassId) (vZ_players vZ_fill vZ_patience vZ_turn vZ_made vZ_out vZ_finishers vZ_thrown : Int32) (vZ_cells vZ_board vZ_movesOf vZ_places : Nat → Int32) (Q : Int32 → Int32 → Prop) (hx : p.tables.exec = Jvm.exec) (hb : c.code = cX7_turns) (hml : c.maxLocals = 5) (hown : s.vm.findClass RX7 = some m.cls) (hts : ∀ w ∈ wsX7_turns, w.before args s = true) (hN : NW s) (hP : va_P D vwCl (cl_X7_turns ad cs vZ_players vZ_fill vZ_patience vZ_turn vZ_made vZ_out vZ_finishers vZ_thrown vZ_cells vZ_board vZ_movesOf vZ_places) s.heap) (hK : va_K D vwCl (ty_X7_turns cs) s) (hD : va_D A (cl_X7_turns ad cs vZ_players vZ_fill vZ_patience vZ_turn vZ_made vZ_out vZ_finishers vZ_thrown vZ_cells vZ_board vZ_movesOf vZ_places)) (hA : ∀ q : Nat, s.heap.size ≤ q → A q) (hl : lv_has ls 5 [(0, .ref (ad 28))])
  (hret : ∀ (o0 : Int32) (o1 : Int32) (H : Heap) (locs : List Loc) (pc : Nat) (ls : Array Slot), Q o0 o1 → va_P D vwCl (cl_X7_turns ad cs vZ_players vZ_fill vZ_patience o0 vZ_made o1 vZ_finishers vZ_thrown vZ_cells vZ_board vZ_movesOf vZ_places) H → va_D A (cl_X7_turns ad cs vZ_players vZ_fill vZ_patience o0 vZ_made o1 vZ_finishers vZ_thrown vZ_cells vZ_board vZ_movesOf vZ_places) → va_S A s.heap H locs → decode cX7_turns pc = .ok (.return_, 1) → W p l e rm_X7_turns s m args below meth c H locs 0 0 QQ (F0 m pc ls []))
  (hw : wp_X7_turns vZ_players vZ_fill vZ_patience vZ_turn vZ_made vZ_out vZ_finishers vZ_thrown vZ_cells vZ_board vZ_movesOf vZ_places Q) :
  W p l e rm_X7_turns s m args below meth c s.heap [] 0 0 QQ (F0 m 0 ls []) := by
  have S0 : CallFix p m c cX7_turns 5 s args wsX7_turns RX7 := ⟨hx, hb, hml, hown, hts⟩
  have inX7 : ∀ w ∈ u_ws RX7 TX7 27, w ∈ wsX7_turns := by decide +kernel
  have fl_106 := hts (.fieldLink RX7 106 "HopperCourtModel" "out" "I") (by decide +kernel)
  have fl_112 := hts (.fieldLink RX7 112 "HopperCourtModel" "patience" "I") (by decide +kernel)
  have fl_35 := hts (.fieldLink RX7 35 "HopperCourtModel" "movesOf" "[I") (by decide +kernel)
  have fl_83 := hts (.fieldLink RX7 83 "HopperCourtModel" "turn" "I") (by decide +kernel)
  have hJ113 : ∀ (x2 x3 x4 t1 t2 : Int32) (P12 : Int32 → Int32 → Int32 → Prop) (vZ_turn vZ_out x1 : Int32), wJ_X7_turns_113 x2 x3 x4 t1 t2 P12 → (∀ (vZ_turn vZ_out x2 : Int32), P12 vZ_turn vZ_out x2 → ∀ (H : Heap) (locs : List Loc) (ls : Array Slot), va_P D vwCl (cl_X7_turns ad cs vZ_players vZ_fill vZ_patience vZ_turn vZ_made vZ_out vZ_finishers vZ_thrown vZ_cells vZ_board vZ_movesOf vZ_places) H → va_D A (cl_X7_turns ad cs vZ_players vZ_fill vZ_patience vZ_turn vZ_made vZ_out vZ_finishers vZ_thrown vZ_cells vZ_board vZ_movesOf vZ_places) → va_S A s.heap H locs → lv_has ls 5 [(0, .ref (ad 28)), (1, .int x1), (2, .int x2)] → W p l e rm_X7_turns s m args below meth c H locs 0 0 QQ (F0 m 12 ls [])) → ∀ (H : Heap) (locs : List Loc) (ls : Array Slot), va_P D vwCl (cl_X7_turns ad cs vZ_players vZ_fill vZ_patience vZ_turn vZ_made vZ_out vZ_finishers vZ_thrown vZ_cells vZ_board vZ_movesOf vZ_places) H → va_D A (cl_X7_turns ad cs vZ_players vZ_fill vZ_patience vZ_turn vZ_made vZ_out vZ_finishers vZ_thrown vZ_cells vZ_board vZ_movesOf vZ_places) → va_S A s.heap H locs → lv_has ls 5 [(0, .ref (ad 28)), (1, .int x1), (2, .int x2), (3, .int x3), (4, .int x4)] → W p l e rm_X7_turns s m args below meth c H locs 0 0 QQ (F0 m 113 ls [.int t2, .int t1, .ref (ad 28)]) := by
    intro x2 x3 x4 t1 t2 P12 vZ_turn vZ_out x1 hw hB12 H locs ls hP hD hS hl
    unfold wJ_X7_turns_113 at hw
    refine lv_ior hx hb dX7_turns_113 ?_
    refine va_put (D := D) (ci := 7) (v := .int (t1 ||| t2)) (ty := .int) (C := RX7) (T := TX7) (N := 27) hx hb hts inX7 tyX7 tyX7_ok nmX7 hown hK hP hD hS 0 rfl rfl 12 (by decide) fl_106 (fun _ h9 => h9) rfl (by decide +kernel) rfl rfl (Nat.le_of_ble_eq_true rfl) dX7_turns_114 (fun H locs hP hD hS => ?_)
    have hP : va_P D vwCl (cl_X7_turns ad cs vZ_players vZ_fill vZ_patience vZ_turn vZ_made (t1 ||| t2) vZ_finishers vZ_thrown vZ_cells vZ_board vZ_movesOf vZ_places) H := hP
    have hD : va_D A (cl_X7_turns ad cs vZ_players vZ_fill vZ_patience vZ_turn vZ_made (t1 ||| t2) vZ_finishers vZ_thrown vZ_cells vZ_board vZ_movesOf vZ_places) := hD
    refine lv_aload_n hx hb dX7_turns_117 rfl (lv_at hl 0 rfl) ?_
    refine lv_iload hx hb dX7_turns_118 (lv_at hl 4 rfl) ?_
    refine lv_if_eq (tgt := 127) hx hb dX7_turns_120 (by decide) (fun c_1 => ?_) (fun c_1 => ?_)
    · have hw := hw.1 c_1
      refine lv_iload_n hx hb dX7_turns_127 rfl (lv_at hl 3 rfl) ?_
      refine va_put (D := D) (ci := 7) (v := .int x3) (ty := .int) (C := RX7) (T := TX7) (N := 27) hx hb hts inX7 tyX7 tyX7_ok nmX7 hown hK hP hD hS 0 rfl rfl 10 (by decide) fl_83 (fun _ h9 => h9) rfl (by decide +kernel) rfl rfl (Nat.le_of_ble_eq_true rfl) dX7_turns_128 (fun H locs hP hD hS => ?_)
      have hP : va_P D vwCl (cl_X7_turns ad cs vZ_players vZ_fill vZ_patience x3 vZ_made (t1 ||| t2) vZ_finishers vZ_thrown vZ_cells vZ_board vZ_movesOf vZ_places) H := hP
      have hD : va_D A (cl_X7_turns ad cs vZ_players vZ_fill vZ_patience x3 vZ_made (t1 ||| t2) vZ_finishers vZ_thrown vZ_cells vZ_board vZ_movesOf vZ_places) := hD
      refine lv_iinc (v := (x2 + (1 : Int32))) (lv' := [(2, .int (x2 + (1 : Int32))), (0, .ref (ad 28)), (1, .int x1), (3, .int x3), (4, .int x4)]) hx hb dX7_turns_131 hl (k := 2) rfl rfl (by decide) rfl (fun ls hl => ?_)
      refine lv_goto (tgt := 12) hx hb dX7_turns_134 (by decide) ?_
      exact hB12 x3 (t1 ||| t2) (x2 + (1 : Int32)) hw _ _ _ hP hD hS (lv_sub hl [1, 2, 0] rfl)
    · have hw := hw.2 c_1
      refine lv_iconst (v := (-1 : Int32)) hx hb dX7_turns_123 (by decide) ?_
      refine lv_goto (tgt := 128) hx hb dX7_turns_124 (by decide) ?_
      refine va_put (D := D) (ci := 7) (v := .int (-1 : Int32)) (ty := .int) (C := RX7) (T := TX7) (N := 27) hx hb hts inX7 tyX7 tyX7_ok nmX7 hown hK hP hD hS 0 rfl rfl 10 (by decide) fl_83 (fun _ h9 => h9) rfl (by decide +kernel) rfl rfl (Nat.le_of_ble_eq_true rfl) dX7_turns_128 (fun H locs hP hD hS => ?_)
      have hP : va_P D vwCl (cl_X7_turns ad cs vZ_players vZ_fill vZ_patience (-1 : Int32) vZ_made (t1 ||| t2) vZ_finishers vZ_thrown vZ_cells vZ_board vZ_movesOf vZ_places) H := hP
      have hD : va_D A (cl_X7_turns ad cs vZ_players vZ_fill vZ_patience (-1 : Int32) vZ_made (t1 ||| t2) vZ_finishers vZ_thrown vZ_cells vZ_board vZ_movesOf vZ_places) := hD
      refine lv_iinc (v := (x2 + (1 : Int32))) (lv' := [(2, .int (x2 + (1 : Int32))), (0, .ref (ad 28)), (1, .int x1), (3, .int x3), (4, .int x4)]) hx hb dX7_turns_131 hl (k := 2) rfl rfl (by decide) rfl (fun ls hl => ?_)
      refine lv_goto (tgt := 12) hx hb dX7_turns_134 (by decide) ?_
      exact hB12 (-1 : Int32) (t1 ||| t2) (x2 + (1 : Int32)) hw _ _ _ hP hD hS (lv_sub hl [1, 2, 0] rfl)
  have hJ94 : ∀ (vZ_out x2 x3 t0 : Int32) (P12 : Int32 → Int32 → Int32 → Prop) (vZ_turn x1 : Int32), wJ_X7_turns_94 vZ_out x2 x3 t0 P12 → (∀ (vZ_turn vZ_out x2 : Int32), P12 vZ_turn vZ_out x2 → ∀ (H : Heap) (locs : List Loc) (ls : Array Slot), va_P D vwCl (cl_X7_turns ad cs vZ_players vZ_fill vZ_patience vZ_turn vZ_made vZ_out vZ_finishers vZ_thrown vZ_cells vZ_board vZ_movesOf vZ_places) H → va_D A (cl_X7_turns ad cs vZ_players vZ_fill vZ_patience vZ_turn vZ_made vZ_out vZ_finishers vZ_thrown vZ_cells vZ_board vZ_movesOf vZ_places) → va_S A s.heap H locs → lv_has ls 5 [(0, .ref (ad 28)), (1, .int x1), (2, .int x2)] → W p l e rm_X7_turns s m args below meth c H locs 0 0 QQ (F0 m 12 ls [])) → ∀ (H : Heap) (locs : List Loc) (ls : Array Slot), va_P D vwCl (cl_X7_turns ad cs vZ_players vZ_fill vZ_patience vZ_turn vZ_made vZ_out vZ_finishers vZ_thrown vZ_cells vZ_board vZ_movesOf vZ_places) H → va_D A (cl_X7_turns ad cs vZ_players vZ_fill vZ_patience vZ_turn vZ_made vZ_out vZ_finishers vZ_thrown vZ_cells vZ_board vZ_movesOf vZ_places) → va_S A s.heap H locs → lv_has ls 5 [(0, .ref (ad 28)), (1, .int x1), (2, .int x2), (3, .int x3)] → W p l e rm_X7_turns s m args below meth c H locs 0 0 QQ (F0 m 94 ls [.int t0]) := by
    intro vZ_out x2 x3 t0 P12 vZ_turn x1 hw hB12 H locs ls hP hD hS hl
    unfold wJ_X7_turns_94 at hw
    refine lv_istore (lv' := [(4, .int t0), (0, .ref (ad 28)), (1, .int x1), (2, .int x2), (3, .int x3)]) hx hb dX7_turns_94 hl (by decide) rfl (fun ls hl => ?_)
    refine lv_aload_n hx hb dX7_turns_96 rfl (lv_at hl 1 rfl) ?_
    refine lv_dup hx hb dX7_turns_97 rfl ?_
    refine va_get (D := D) (ci := 7) (v := .int vZ_out) (C := RX7) (T := TX7) (N := 27) hx hb hts inX7 hown hK hP 0 rfl rfl 12 (by decide) fl_106 (fun _ h9 => h9) rfl dX7_turns_98 ?_
    refine lv_iload hx hb dX7_turns_101 (lv_at hl 0 rfl) ?_
    refine lv_if_eq (tgt := 112) hx hb dX7_turns_103 (by decide) (fun c_2 => ?_) (fun c_2 => ?_)
    · have hw := hw.1 c_2
      refine lv_iconst (v := (0 : Int32)) hx hb dX7_turns_112 (by decide) ?_
      exact hJ113 x2 x3 t0 vZ_out (0 : Int32) _ _ _ _ hw hB12 _ _ _ hP hD hS (lv_sub hl [1, 2, 3, 4, 0] rfl)
    · have hw := hw.2 c_2
      refine lv_iconst (v := (1 : Int32)) hx hb dX7_turns_106 (by decide) ?_
      refine lv_iload_n hx hb dX7_turns_107 rfl (lv_at hl 4 rfl) ?_
      refine lv_ishl hx hb dX7_turns_108 ?_
      refine lv_goto (tgt := 113) hx hb dX7_turns_109 (by decide) ?_
      exact hJ113 x2 x3 t0 vZ_out ((1 : Int32) <<< (x3 &&& 31)) _ _ _ _ hw hB12 _ _ _ hP hD hS (lv_sub hl [1, 2, 3, 4, 0] rfl)
  have hL12 : ∀ (x1 : Int32) (K12 : Int32 → Int32 → Prop) (vZ_turn vZ_out x2 : Int32), wl_X7_turns_12 vZ_players vZ_fill vZ_patience vZ_made vZ_finishers vZ_thrown vZ_cells vZ_board vZ_movesOf vZ_places x1 K12 vZ_turn vZ_out x2 → (∀ (vZ_turn vZ_out : Int32), K12 vZ_turn vZ_out → ∀ (H : Heap) (locs : List Loc) (ls : Array Slot), va_P D vwCl (cl_X7_turns ad cs vZ_players vZ_fill vZ_patience vZ_turn vZ_made vZ_out vZ_finishers vZ_thrown vZ_cells vZ_board vZ_movesOf vZ_places) H → va_D A (cl_X7_turns ad cs vZ_players vZ_fill vZ_patience vZ_turn vZ_made vZ_out vZ_finishers vZ_thrown vZ_cells vZ_board vZ_movesOf vZ_places) → va_S A s.heap H locs → lv_has ls 5 [] → W p l e rm_X7_turns s m args below meth c H locs 0 0 QQ (F0 m 137 ls [])) → ∀ (H : Heap) (locs : List Loc) (ls : Array Slot), va_P D vwCl (cl_X7_turns ad cs vZ_players vZ_fill vZ_patience vZ_turn vZ_made vZ_out vZ_finishers vZ_thrown vZ_cells vZ_board vZ_movesOf vZ_places) H → va_D A (cl_X7_turns ad cs vZ_players vZ_fill vZ_patience vZ_turn vZ_made vZ_out vZ_finishers vZ_thrown vZ_cells vZ_board vZ_movesOf vZ_places) → va_S A s.heap H locs → lv_has ls 5 [(0, .ref (ad 28)), (1, .int x1), (2, .int x2)] → W p l e rm_X7_turns s m args below meth c H locs 0 0 QQ (F0 m 12 ls []) := by
    intro x1 K12 vZ_turn vZ_out x2 hw hK12
    unfold wl_X7_turns_12 at hw
    refine hw (fun (vZ_turn vZ_out x2 : Int32) => ∀ (H : Heap) (locs : List Loc) (ls : Array Slot), va_P D vwCl (cl_X7_turns ad cs vZ_players vZ_fill vZ_patience vZ_turn vZ_made vZ_out vZ_finishers vZ_thrown vZ_cells vZ_board vZ_movesOf vZ_places) H → va_D A (cl_X7_turns ad cs vZ_players vZ_fill vZ_patience vZ_turn vZ_made vZ_out vZ_finishers vZ_thrown vZ_cells vZ_board vZ_movesOf vZ_places) → va_S A s.heap H locs → lv_has ls 5 [(0, .ref (ad 28)), (1, .int x1), (2, .int x2)] → W p l e rm_X7_turns s m args below meth c H locs 0 0 QQ (F0 m 12 ls [])) ?_
    intro vZ_turn vZ_out x2 hw H locs ls hP hD hS hl
    unfold wb_X7_turns_12 at hw
    refine lv_iload_n hx hb dX7_turns_12 rfl (lv_at hl 2 rfl) ?_
    refine lv_bipush (v := (6 : Int32)) hx hb dX7_turns_13 (by decide) ?_
    refine lv_icmp_gt (tgt := 137) hx hb dX7_turns_15 (by decide) (fun c_3 => ?_) (fun c_3 => ?_)
    · have hw := hw.1 c_3
      exact hK12 vZ_turn vZ_out hw _ _ _ hP hD hS (lv_sub hl [] rfl)
    · have hw := hw.2 c_3
      refine lv_aload_n hx hb dX7_turns_18 rfl (lv_at hl 0 rfl) ?_
      refine va_get (D := D) (ci := 7) (v := .int vZ_turn) (C := RX7) (T := TX7) (N := 27) hx hb hts inX7 hown hK hP 0 rfl rfl 10 (by decide) fl_83 (fun _ h9 => h9) rfl dX7_turns_19 ?_
      refine lv_iconst (v := (-1 : Int32)) hx hb dX7_turns_22 (by decide) ?_
      refine lv_icmp_ne (tgt := 137) hx hb dX7_turns_23 (by decide) (fun c_4 => ?_) (fun c_4 => ?_)
      · have hw := hw.1 c_4
        exact hK12 vZ_turn vZ_out hw _ _ _ hP hD hS (lv_sub hl [] rfl)
      · have hw := hw.2 c_4
        refine lv_iload_n hx hb dX7_turns_26 rfl (lv_at hl 1 rfl) ?_
        refine lv_iload_n hx hb dX7_turns_27 rfl (lv_at hl 2 rfl) ?_
        refine lv_iadd hx hb dX7_turns_28 ?_
        refine lv_bipush (v := (6 : Int32)) hx hb dX7_turns_29 (by decide) ?_
        refine lv_irem hx hb dX7_turns_31 (by decide) ?_
        refine lv_istore_n (lv' := [(3, .int ((x1 + x2) - (x1 + x2) / (6 : Int32) * (6 : Int32))), (0, .ref (ad 28)), (1, .int x1), (2, .int x2)]) hx hb dX7_turns_32 rfl hl (by decide) rfl (fun ls hl => ?_)
        refine lv_aload_n hx hb dX7_turns_33 rfl (lv_at hl 1 rfl) ?_
        refine lv_iload_n hx hb dX7_turns_34 rfl (lv_at hl 0 rfl) ?_
        refine pcV (rest := []) (ci := 7) S0 (c_X7_plays l D ad cs H.size vZ_players vZ_fill vZ_patience vZ_turn vZ_made vZ_out vZ_finishers vZ_thrown ((x1 + x2) - (x1 + x2) / (6 : Int32) * (6 : Int32)) _ hw) (cwV 1 hts gX7_turns_X7_plays rfl rfl rfl (by decide +kernel) ⟨Nat.le_of_ble_eq_true rfl, Nat.le_of_ble_eq_true rfl⟩) hN hK hP hD [0] [] rfl rfl rfl 0 rfl rfl rfl rfl hl.1 (Nat.le_of_ble_eq_true rfl) ⟨Nat.le_of_ble_eq_true rfl, Nat.le_of_ble_eq_true rfl⟩ dX7_turns_35 (fun r_5 hw => ?_)
        refine lv_if_eq (tgt := 131) hx hb dX7_turns_38 (by decide) (fun c_6 => ?_) (fun c_6 => ?_)
        · have hw := hw.1 c_6
          refine lv_iinc (v := (x2 + (1 : Int32))) (lv' := [(2, .int (x2 + (1 : Int32))), (3, .int ((x1 + x2) - (x1 + x2) / (6 : Int32) * (6 : Int32))), (0, .ref (ad 28)), (1, .int x1)]) hx hb dX7_turns_131 hl (k := 3) rfl rfl (by decide) rfl (fun ls hl => ?_)
          refine lv_goto (tgt := 12) hx hb dX7_turns_134 (by decide) ?_
          exact hw _ _ _ hP hD hS (lv_sub hl [2, 3, 0] rfl)
        · have hw := hw.2 c_6
          refine lv_aload_n hx hb dX7_turns_41 rfl (lv_at hl 1 rfl) ?_
          refine lv_iload_n hx hb dX7_turns_42 rfl (lv_at hl 0 rfl) ?_
          refine pcV (rest := []) (ci := 7) S0 (c_X7_hasFinished l D ad cs H.size vZ_players vZ_fill vZ_patience vZ_turn vZ_made vZ_out vZ_finishers vZ_thrown vZ_places ((x1 + x2) - (x1 + x2) / (6 : Int32) * (6 : Int32)) _ hw) (cwV 1 hts gX7_turns_X7_hasFinished rfl rfl rfl (by decide +kernel) ⟨Nat.le_of_ble_eq_true rfl, Nat.le_of_ble_eq_true rfl⟩) hN hK hP hD [0, 4] [3] rfl rfl rfl 0 rfl rfl rfl rfl hl.1 (Nat.le_of_ble_eq_true rfl) ⟨Nat.le_of_ble_eq_true rfl, Nat.le_of_ble_eq_true rfl⟩ dX7_turns_43 (fun r_7 hw => ?_)
          refine lv_if_ne (tgt := 131) hx hb dX7_turns_46 (by decide) (fun c_8 => ?_) (fun c_8 => ?_)
          · have hw := hw.1 c_8
            refine lv_iinc (v := (x2 + (1 : Int32))) (lv' := [(2, .int (x2 + (1 : Int32))), (3, .int ((x1 + x2) - (x1 + x2) / (6 : Int32) * (6 : Int32))), (0, .ref (ad 28)), (1, .int x1)]) hx hb dX7_turns_131 hl (k := 3) rfl rfl (by decide) rfl (fun ls hl => ?_)
            refine lv_goto (tgt := 12) hx hb dX7_turns_134 (by decide) ?_
            exact hw _ _ _ hP hD hS (lv_sub hl [2, 3, 0] rfl)
          · have hw := hw.2 c_8
            refine lv_aload_n hx hb dX7_turns_49 rfl (lv_at hl 1 rfl) ?_
            refine va_get (D := D) (ci := 7) (v := .int vZ_out) (C := RX7) (T := TX7) (N := 27) hx hb hts inX7 hown hK hP 0 rfl rfl 12 (by decide) fl_106 (fun _ h9 => h9) rfl dX7_turns_50 ?_
            refine lv_iload_n hx hb dX7_turns_53 rfl (lv_at hl 0 rfl) ?_
            refine lv_ishr hx hb dX7_turns_54 ?_
            refine lv_iconst (v := (1 : Int32)) hx hb dX7_turns_55 (by decide) ?_
            refine lv_iand hx hb dX7_turns_56 ?_
            refine lv_if_ne (tgt := 131) hx hb dX7_turns_57 (by decide) (fun c_9 => ?_) (fun c_9 => ?_)
            · have hw := hw.1 c_9
              refine lv_iinc (v := (x2 + (1 : Int32))) (lv' := [(2, .int (x2 + (1 : Int32))), (3, .int ((x1 + x2) - (x1 + x2) / (6 : Int32) * (6 : Int32))), (0, .ref (ad 28)), (1, .int x1)]) hx hb dX7_turns_131 hl (k := 3) rfl rfl (by decide) rfl (fun ls hl => ?_)
              refine lv_goto (tgt := 12) hx hb dX7_turns_134 (by decide) ?_
              exact hw _ _ _ hP hD hS (lv_sub hl [2, 3, 0] rfl)
            · have hw := hw.2 c_9
              refine lv_aload_n hx hb dX7_turns_60 rfl (lv_at hl 1 rfl) ?_
              refine va_get (D := D) (ci := 7) (v := .int vZ_patience) (C := RX7) (T := TX7) (N := 27) hx hb hts inX7 hown hK hP 0 rfl rfl 8 (by decide) fl_112 (fun _ h9 => h9) rfl dX7_turns_61 ?_
              refine lv_if_le (tgt := 93) hx hb dX7_turns_64 (by decide) (fun c_10 => ?_) (fun c_10 => ?_)
              · have hw := hw.1 c_10
                refine lv_iconst (v := (0 : Int32)) hx hb dX7_turns_93 (by decide) ?_
                exact hJ94 vZ_out x2 ((x1 + x2) - (x1 + x2) / (6 : Int32) * (6 : Int32)) (0 : Int32) _ _ _ hw (fun _ _ _ h => h) _ _ _ hP hD hS (lv_sub hl [1, 2, 3, 0] rfl)
              · have hw := hw.2 c_10
                refine lv_aload_n hx hb dX7_turns_67 rfl (lv_at hl 1 rfl) ?_
                refine va_get (D := D) (ci := 7) (v := .ref (ad 36)) (C := RX7) (T := TX7) (N := 27) hx hb hts inX7 hown hK hP 0 rfl rfl 13 (by decide) fl_35 (fun _ h9 => h9) rfl dX7_turns_68 ?_
                refine lv_iload_n hx hb dX7_turns_71 rfl (lv_at hl 0 rfl) ?_
                obtain ⟨h_11, hw⟩ := hw
                refine va_iald hx hb hK hP 3 2 rfl rfl h_11 dX7_turns_72 ?_
                refine lv_aload_n hx hb dX7_turns_73 rfl (lv_at hl 1 rfl) ?_
                refine va_get (D := D) (ci := 7) (v := .int vZ_patience) (C := RX7) (T := TX7) (N := 27) hx hb hts inX7 hown hK hP 0 rfl rfl 8 (by decide) fl_112 (fun _ h9 => h9) rfl dX7_turns_74 ?_
                refine lv_icmp_lt (tgt := 93) hx hb dX7_turns_77 (by decide) (fun c_12 => ?_) (fun c_12 => ?_)
                · have hw := hw.1 c_12
                  refine lv_iconst (v := (0 : Int32)) hx hb dX7_turns_93 (by decide) ?_
                  exact hJ94 vZ_out x2 ((x1 + x2) - (x1 + x2) / (6 : Int32) * (6 : Int32)) (0 : Int32) _ _ _ hw (fun _ _ _ h => h) _ _ _ hP hD hS (lv_sub hl [1, 2, 3, 0] rfl)
                · have hw := hw.2 c_12
                  refine lv_aload_n hx hb dX7_turns_80 rfl (lv_at hl 1 rfl) ?_
                  refine lv_iload_n hx hb dX7_turns_81 rfl (lv_at hl 0 rfl) ?_
                  refine lv_iload_n hx hb dX7_turns_82 rfl (lv_at hl 0 rfl) ?_
                  refine pcV (rest := []) (ci := 7) S0 (c_X7_ownIn l D ad cs H.size vZ_players vZ_fill vZ_patience vZ_turn vZ_made vZ_out vZ_finishers vZ_thrown vZ_cells vZ_board ((x1 + x2) - (x1 + x2) / (6 : Int32) * (6 : Int32)) ((x1 + x2) - (x1 + x2) / (6 : Int32) * (6 : Int32)) _ hw) (cwV 2 hts gX7_turns_X7_ownIn rfl rfl rfl (by decide +kernel) ⟨Nat.le_of_ble_eq_true rfl, Nat.le_of_ble_eq_true rfl⟩) hN hK hP hD [0, 1, 2] [0, 1] rfl rfl rfl 0 rfl rfl rfl rfl hl.1 (Nat.le_of_ble_eq_true rfl) ⟨Nat.le_of_ble_eq_true rfl, Nat.le_of_ble_eq_true rfl⟩ dX7_turns_83 (fun r_13 hw => ?_)
                  refine lv_if_le (tgt := 93) hx hb dX7_turns_86 (by decide) (fun c_14 => ?_) (fun c_14 => ?_)
                  · have hw := hw.1 c_14
                    refine lv_iconst (v := (0 : Int32)) hx hb dX7_turns_93 (by decide) ?_
                    exact hJ94 vZ_out x2 ((x1 + x2) - (x1 + x2) / (6 : Int32) * (6 : Int32)) (0 : Int32) _ _ _ hw (fun _ _ _ h => h) _ _ _ hP hD hS (lv_sub hl [1, 2, 3, 0] rfl)
                  · have hw := hw.2 c_14
                    refine lv_iconst (v := (1 : Int32)) hx hb dX7_turns_89 (by decide) ?_
                    refine lv_goto (tgt := 94) hx hb dX7_turns_90 (by decide) ?_
                    exact hJ94 vZ_out x2 ((x1 + x2) - (x1 + x2) / (6 : Int32) * (6 : Int32)) (1 : Int32) _ _ _ hw (fun _ _ _ h => h) _ _ _ hP hD hS (lv_sub hl [1, 2, 3, 0] rfl)
  obtain ⟨H, hH⟩ : ∃ H : Heap, H = s.heap := ⟨_, rfl⟩
  have hS : va_S A s.heap H [] := by rw [hH]; exact va_S.rf
  rw [← hH] at hP ⊢
  unfold wp_X7_turns at hw
  refine lv_aload_n hx hb dX7_turns_0 rfl (lv_at hl 0 rfl) ?_
  refine va_get (D := D) (ci := 7) (v := .int vZ_turn) (C := RX7) (T := TX7) (N := 27) hx hb hts inX7 hown hK hP 0 rfl rfl 10 (by decide) fl_83 (fun _ h9 => h9) rfl dX7_turns_1 ?_
  refine lv_istore_n (lv' := [(1, .int vZ_turn), (0, .ref (ad 28))]) hx hb dX7_turns_4 rfl hl (by decide) rfl (fun ls hl => ?_)
  refine lv_aload_n hx hb dX7_turns_5 rfl (lv_at hl 1 rfl) ?_
  refine lv_iconst (v := (-1 : Int32)) hx hb dX7_turns_6 (by decide) ?_
  refine va_put (D := D) (ci := 7) (v := .int (-1 : Int32)) (ty := .int) (C := RX7) (T := TX7) (N := 27) hx hb hts inX7 tyX7 tyX7_ok nmX7 hown hK hP hD hS 0 rfl rfl 10 (by decide) fl_83 (fun _ h9 => h9) rfl (by decide +kernel) rfl rfl (Nat.le_of_ble_eq_true rfl) dX7_turns_7 (fun H locs hP hD hS => ?_)
  have hP : va_P D vwCl (cl_X7_turns ad cs vZ_players vZ_fill vZ_patience (-1 : Int32) vZ_made vZ_out vZ_finishers vZ_thrown vZ_cells vZ_board vZ_movesOf vZ_places) H := hP
  have hD : va_D A (cl_X7_turns ad cs vZ_players vZ_fill vZ_patience (-1 : Int32) vZ_made vZ_out vZ_finishers vZ_thrown vZ_cells vZ_board vZ_movesOf vZ_places) := hD
  refine lv_iconst (v := (1 : Int32)) hx hb dX7_turns_10 (by decide) ?_
  refine lv_istore_n (lv' := [(2, .int (1 : Int32)), (1, .int vZ_turn), (0, .ref (ad 28))]) hx hb dX7_turns_11 rfl hl (by decide) rfl (fun ls hl => ?_)
  refine hL12 vZ_turn _ (-1 : Int32) vZ_out (1 : Int32) hw ?_ _ _ _ hP hD hS (lv_sub hl [2, 1, 0] rfl)
  intro vZ_turn_15 vZ_out_16 hw H locs ls hP hD hS hl
  exact hret _ _ _ _ _ _ hw hP hD hS dX7_turns_137
set_option maxHeartbeats 4000000 in
set_option maxRecDepth 100000 in
theorem c_X7_turns (l : Launch) (D : va_G) (ad : Nat → Nat) (cs : Nat → ClassId) (sz : Nat) (vZ_players vZ_fill vZ_patience vZ_turn vZ_made vZ_out vZ_finishers vZ_thrown : Int32) (vZ_cells vZ_board vZ_movesOf vZ_places : Nat → Int32) (Q : Int32 → Int32 → Prop) (hw : wp_X7_turns vZ_players vZ_fill vZ_patience vZ_turn vZ_made vZ_out vZ_finishers vZ_thrown vZ_cells vZ_board vZ_movesOf vZ_places Q) :
  Met l yX7_turns wsX7_turns rm_X7_turns (va_Pc [.ref (ad 28)] (PX D (cl_X7_turns ad cs vZ_players vZ_fill vZ_patience vZ_turn vZ_made vZ_out vZ_finishers vZ_thrown vZ_cells vZ_board vZ_movesOf vZ_places) (ty_X7_turns cs) sz)) (va_Qv (fun (u : Int32 × Int32) => Q u.1 u.2) (fun (u : Int32 × Int32) t => va_P D vwCl (cl_X7_turns ad cs vZ_players vZ_fill vZ_patience u.1 vZ_made u.2 vZ_finishers vZ_thrown vZ_cells vZ_board vZ_movesOf vZ_places) t.heap ∧ va_D (va_A (cl_X7_turns ad cs vZ_players vZ_fill vZ_patience vZ_turn vZ_made vZ_out vZ_finishers vZ_thrown vZ_cells vZ_board vZ_movesOf vZ_places) sz) (cl_X7_turns ad cs vZ_players vZ_fill vZ_patience u.1 vZ_made u.2 vZ_finishers vZ_thrown vZ_cells vZ_board vZ_movesOf vZ_places)) (va_A (cl_X7_turns ad cs vZ_players vZ_fill vZ_patience vZ_turn vZ_made vZ_out vZ_finishers vZ_thrown vZ_cells vZ_board vZ_movesOf vZ_places) sz)) 0 0 (va_A (cl_X7_turns ad cs vZ_players vZ_fill vZ_patience vZ_turn vZ_made vZ_out vZ_finishers vZ_thrown vZ_cells vZ_board vZ_movesOf vZ_places) sz) := by
  refine Met.ofW (cc := cX7_turns) (maxL := 5) (ret := none) (by decide) rfl ?_
  intro p e s m args below meth c s₁ B hml hv
  obtain ⟨rfl, hsz, hP, hK, hD0, hN⟩ := hv
  subst hsz
  have hl := lv_entry ([.ref (ad 28)]) (n := 5) (Nat.le_of_ble_eq_true rfl)
  rw [lg_entry_eq]
  have hx := B.exec
  have hb := B.bytes
  have hr := B.returns
  exact b_X7_turns l D ad cs vZ_players vZ_fill vZ_patience vZ_turn vZ_made vZ_out vZ_finishers vZ_thrown vZ_cells vZ_board vZ_movesOf vZ_places Q hx hb hml (findClass_of_methodNamed B.named) (atoms_spec (ws := wsX7_turns) B.pre) hN hP hK hD0.self (fun q h => Or.inr h) hl (fun o0 o1 H locs pc ls hq hP hD hS hd => W.vret hx hb hr (fun t ht hW => ⟨⟨(o0, o1), rfl, hq, by rw [ht]; exact hP, hD⟩, hS.F ht⟩) hS.2.2 hd) hw
abbrev rm_X7_notes : Room := { frames := 0, cells := 0, slots := 0, locals := 0 }
abbrev cl_X7_notes (ad : Nat → Nat) (cs : Nat → ClassId) (vZ_players vZ_fill vZ_patience vZ_turn vZ_made vZ_out vZ_finishers vZ_thrown : Int32) (vZ_movesOf vZ_movedFrom vZ_movedTo vZ_turnWas vZ_outWas vZ_finishersWas : Nat → Int32) : va_W := [((ad 28), .inr (7, [.ref (ad 29), .ref (ad 30), .ref (ad 31), .ref (ad 32), .ref (ad 33), .ref (ad 34), .int vZ_players, .int vZ_fill, .int vZ_patience, .ref (ad 35), .int vZ_turn, .int vZ_made, .int vZ_out, .ref (ad 36), .int vZ_finishers, .ref (ad 37), .ref (ad 38), .ref (ad 39), .ref (ad 40), .ref (ad 41), .ref (ad 42), .ref (ad 43), .ref (ad 44), .ref (ad 45), .ref (ad 46), .ref (ad 47), .int vZ_thrown])), ((ad 36), .inl ((cs 36), 6, .inl vZ_movesOf)), ((ad 38), .inl ((cs 38), 300, .inl vZ_movedFrom)), ((ad 39), .inl ((cs 39), 300, .inl vZ_movedTo)), ((ad 40), .inl ((cs 40), 300, .inl vZ_turnWas)), ((ad 41), .inl ((cs 41), 300, .inl vZ_outWas)), ((ad 42), .inl ((cs 42), 300, .inl vZ_finishersWas))]
abbrev ty_X7_notes (cs : Nat → ClassId) : List (ClassId × FieldType) := [((cs 36), .int), ((cs 38), .int), ((cs 39), .int), ((cs 40), .int), ((cs 41), .int), ((cs 42), .int)]
def wp_X7_notes (vZ_players vZ_fill vZ_patience vZ_turn vZ_made vZ_out vZ_finishers vZ_thrown : Int32) (vZ_movesOf vZ_movedFrom vZ_movedTo vZ_turnWas vZ_outWas vZ_finishersWas : Nat → Int32) (x1 x2 : Int32) (Q : Int32 → (Nat → Int32) → (Nat → Int32) → (Nat → Int32) → (Nat → Int32) → (Nat → Int32) → (Nat → Int32) → Prop) : Prop :=
 (vp_in vZ_made 300 ∧
 (vp_in vZ_made 300 ∧
 (vp_in vZ_made 300 ∧
 (vp_in vZ_made 300 ∧
 (vp_in vZ_made 300 ∧
 (vp_in vZ_turn 6 ∧
 (vp_in vZ_turn 6 ∧
 Q (vZ_made + (1 : Int32)) (upd vZ_movesOf vZ_turn.toNatClampNeg ((vZ_movesOf vZ_turn.toNatClampNeg) + (1 : Int32))) (upd vZ_movedFrom vZ_made.toNatClampNeg x1) (upd vZ_movedTo vZ_made.toNatClampNeg x2) (upd vZ_turnWas vZ_made.toNatClampNeg vZ_turn) (upd vZ_outWas vZ_made.toNatClampNeg vZ_out) (upd vZ_finishersWas vZ_made.toNatClampNeg vZ_finishers))))))))
set_option maxHeartbeats 4000000 in
set_option maxRecDepth 100000 in
theorem b_X7_notes {p : Program} {e : Env} {s : State} {m : MethodId} {args : Array Value} {below : List Frame} {meth : Method} {c : Code} {QQ : State → Prop} {A : Nat → Prop} {ls : Array Slot} (l : Launch) (D : va_G) (ad : Nat → Nat) (cs : Nat → ClassId) (vZ_players vZ_fill vZ_patience vZ_turn vZ_made vZ_out vZ_finishers vZ_thrown : Int32) (vZ_movesOf vZ_movedFrom vZ_movedTo vZ_turnWas vZ_outWas vZ_finishersWas : Nat → Int32) (x1 x2 : Int32) (Q : Int32 → (Nat → Int32) → (Nat → Int32) → (Nat → Int32) → (Nat → Int32) → (Nat → Int32) → (Nat → Int32) → Prop) (hx : p.tables.exec = Jvm.exec) (hb : c.code = cX7_notes) (hml : c.maxLocals = 3) (hown : s.vm.findClass RX7 = some m.cls) (hts : ∀ w ∈ wsX7_notes, w.before args s = true) (hN : NW s) (hP : va_P D vwCl (cl_X7_notes ad cs vZ_players vZ_fill vZ_patience vZ_turn vZ_made vZ_out vZ_finishers vZ_thrown vZ_movesOf vZ_movedFrom vZ_movedTo vZ_turnWas vZ_outWas vZ_finishersWas) s.heap) (hK : va_K D vwCl (ty_X7_notes cs) s) (hD : va_D A (cl_X7_notes ad cs vZ_players vZ_fill vZ_patience vZ_turn vZ_made vZ_out vZ_finishers vZ_thrown vZ_movesOf vZ_movedFrom vZ_movedTo vZ_turnWas vZ_outWas vZ_finishersWas)) (hA : ∀ q : Nat, s.heap.size ≤ q → A q) (hl : lv_has ls 3 [(0, .ref (ad 28)), (1, .int x1), (2, .int x2)])
  (hret : ∀ (o0 : Int32) (o1 : Nat → Int32) (o2 : Nat → Int32) (o3 : Nat → Int32) (o4 : Nat → Int32) (o5 : Nat → Int32) (o6 : Nat → Int32) (H : Heap) (locs : List Loc) (pc : Nat) (ls : Array Slot), Q o0 o1 o2 o3 o4 o5 o6 → va_P D vwCl (cl_X7_notes ad cs vZ_players vZ_fill vZ_patience vZ_turn o0 vZ_out vZ_finishers vZ_thrown o1 o2 o3 o4 o5 o6) H → va_D A (cl_X7_notes ad cs vZ_players vZ_fill vZ_patience vZ_turn o0 vZ_out vZ_finishers vZ_thrown o1 o2 o3 o4 o5 o6) → va_S A s.heap H locs → decode cX7_notes pc = .ok (.return_, 1) → W p l e rm_X7_notes s m args below meth c H locs 0 0 QQ (F0 m pc ls []))
  (hw : wp_X7_notes vZ_players vZ_fill vZ_patience vZ_turn vZ_made vZ_out vZ_finishers vZ_thrown vZ_movesOf vZ_movedFrom vZ_movedTo vZ_turnWas vZ_outWas vZ_finishersWas x1 x2 Q) :
  W p l e rm_X7_notes s m args below meth c s.heap [] 0 0 QQ (F0 m 0 ls []) := by
  have S0 : CallFix p m c cX7_notes 3 s args wsX7_notes RX7 := ⟨hx, hb, hml, hown, hts⟩
  have inX7 : ∀ w ∈ u_ws RX7 TX7 27, w ∈ wsX7_notes := by decide +kernel
  have fl_103 := hts (.fieldLink RX7 103 "HopperCourtModel" "made" "I") (by decide +kernel)
  have fl_106 := hts (.fieldLink RX7 106 "HopperCourtModel" "out" "I") (by decide +kernel)
  have fl_109 := hts (.fieldLink RX7 109 "HopperCourtModel" "finishers" "I") (by decide +kernel)
  have fl_35 := hts (.fieldLink RX7 35 "HopperCourtModel" "movesOf" "[I") (by decide +kernel)
  have fl_41 := hts (.fieldLink RX7 41 "HopperCourtModel" "movedFrom" "[I") (by decide +kernel)
  have fl_44 := hts (.fieldLink RX7 44 "HopperCourtModel" "movedTo" "[I") (by decide +kernel)
  have fl_47 := hts (.fieldLink RX7 47 "HopperCourtModel" "turnWas" "[I") (by decide +kernel)
  have fl_50 := hts (.fieldLink RX7 50 "HopperCourtModel" "outWas" "[I") (by decide +kernel)
  have fl_53 := hts (.fieldLink RX7 53 "HopperCourtModel" "finishersWas" "[I") (by decide +kernel)
  have fl_83 := hts (.fieldLink RX7 83 "HopperCourtModel" "turn" "I") (by decide +kernel)
  obtain ⟨H, hH⟩ : ∃ H : Heap, H = s.heap := ⟨_, rfl⟩
  have hS : va_S A s.heap H [] := by rw [hH]; exact va_S.rf
  rw [← hH] at hP ⊢
  unfold wp_X7_notes at hw
  refine lv_aload_n hx hb dX7_notes_0 rfl (lv_at hl 0 rfl) ?_
  refine va_get (D := D) (ci := 7) (v := .ref (ad 38)) (C := RX7) (T := TX7) (N := 27) hx hb hts inX7 hown hK hP 0 rfl rfl 16 (by decide) fl_41 (fun _ h9 => h9) rfl dX7_notes_1 ?_
  refine lv_aload_n hx hb dX7_notes_4 rfl (lv_at hl 0 rfl) ?_
  refine va_get (D := D) (ci := 7) (v := .int vZ_made) (C := RX7) (T := TX7) (N := 27) hx hb hts inX7 hown hK hP 0 rfl rfl 11 (by decide) fl_103 (fun _ h9 => h9) rfl dX7_notes_5 ?_
  refine lv_iload_n hx hb dX7_notes_8 rfl (lv_at hl 1 rfl) ?_
  obtain ⟨h_1, hw⟩ := hw
  refine va_iast hx hb hK hP hD hS 2 1 rfl rfl h_1 dX7_notes_9 (fun H locs hP hD hS => ?_)
  have hP : va_P D vwCl (cl_X7_notes ad cs vZ_players vZ_fill vZ_patience vZ_turn vZ_made vZ_out vZ_finishers vZ_thrown vZ_movesOf (upd vZ_movedFrom vZ_made.toNatClampNeg x1) vZ_movedTo vZ_turnWas vZ_outWas vZ_finishersWas) H := hP
  have hD : va_D A (cl_X7_notes ad cs vZ_players vZ_fill vZ_patience vZ_turn vZ_made vZ_out vZ_finishers vZ_thrown vZ_movesOf (upd vZ_movedFrom vZ_made.toNatClampNeg x1) vZ_movedTo vZ_turnWas vZ_outWas vZ_finishersWas) := hD
  refine lv_aload_n hx hb dX7_notes_10 rfl (lv_at hl 0 rfl) ?_
  refine va_get (D := D) (ci := 7) (v := .ref (ad 39)) (C := RX7) (T := TX7) (N := 27) hx hb hts inX7 hown hK hP 0 rfl rfl 17 (by decide) fl_44 (fun _ h9 => h9) rfl dX7_notes_11 ?_
  refine lv_aload_n hx hb dX7_notes_14 rfl (lv_at hl 0 rfl) ?_
  refine va_get (D := D) (ci := 7) (v := .int vZ_made) (C := RX7) (T := TX7) (N := 27) hx hb hts inX7 hown hK hP 0 rfl rfl 11 (by decide) fl_103 (fun _ h9 => h9) rfl dX7_notes_15 ?_
  refine lv_iload_n hx hb dX7_notes_18 rfl (lv_at hl 2 rfl) ?_
  obtain ⟨h_2, hw⟩ := hw
  refine va_iast hx hb hK hP hD hS 3 2 rfl rfl h_2 dX7_notes_19 (fun H locs hP hD hS => ?_)
  have hP : va_P D vwCl (cl_X7_notes ad cs vZ_players vZ_fill vZ_patience vZ_turn vZ_made vZ_out vZ_finishers vZ_thrown vZ_movesOf (upd vZ_movedFrom vZ_made.toNatClampNeg x1) (upd vZ_movedTo vZ_made.toNatClampNeg x2) vZ_turnWas vZ_outWas vZ_finishersWas) H := hP
  have hD : va_D A (cl_X7_notes ad cs vZ_players vZ_fill vZ_patience vZ_turn vZ_made vZ_out vZ_finishers vZ_thrown vZ_movesOf (upd vZ_movedFrom vZ_made.toNatClampNeg x1) (upd vZ_movedTo vZ_made.toNatClampNeg x2) vZ_turnWas vZ_outWas vZ_finishersWas) := hD
  refine lv_aload_n hx hb dX7_notes_20 rfl (lv_at hl 0 rfl) ?_
  refine va_get (D := D) (ci := 7) (v := .ref (ad 40)) (C := RX7) (T := TX7) (N := 27) hx hb hts inX7 hown hK hP 0 rfl rfl 18 (by decide) fl_47 (fun _ h9 => h9) rfl dX7_notes_21 ?_
  refine lv_aload_n hx hb dX7_notes_24 rfl (lv_at hl 0 rfl) ?_
  refine va_get (D := D) (ci := 7) (v := .int vZ_made) (C := RX7) (T := TX7) (N := 27) hx hb hts inX7 hown hK hP 0 rfl rfl 11 (by decide) fl_103 (fun _ h9 => h9) rfl dX7_notes_25 ?_
  refine lv_aload_n hx hb dX7_notes_28 rfl (lv_at hl 0 rfl) ?_
  refine va_get (D := D) (ci := 7) (v := .int vZ_turn) (C := RX7) (T := TX7) (N := 27) hx hb hts inX7 hown hK hP 0 rfl rfl 10 (by decide) fl_83 (fun _ h9 => h9) rfl dX7_notes_29 ?_
  obtain ⟨h_3, hw⟩ := hw
  refine va_iast hx hb hK hP hD hS 4 3 rfl rfl h_3 dX7_notes_32 (fun H locs hP hD hS => ?_)
  have hP : va_P D vwCl (cl_X7_notes ad cs vZ_players vZ_fill vZ_patience vZ_turn vZ_made vZ_out vZ_finishers vZ_thrown vZ_movesOf (upd vZ_movedFrom vZ_made.toNatClampNeg x1) (upd vZ_movedTo vZ_made.toNatClampNeg x2) (upd vZ_turnWas vZ_made.toNatClampNeg vZ_turn) vZ_outWas vZ_finishersWas) H := hP
  have hD : va_D A (cl_X7_notes ad cs vZ_players vZ_fill vZ_patience vZ_turn vZ_made vZ_out vZ_finishers vZ_thrown vZ_movesOf (upd vZ_movedFrom vZ_made.toNatClampNeg x1) (upd vZ_movedTo vZ_made.toNatClampNeg x2) (upd vZ_turnWas vZ_made.toNatClampNeg vZ_turn) vZ_outWas vZ_finishersWas) := hD
  refine lv_aload_n hx hb dX7_notes_33 rfl (lv_at hl 0 rfl) ?_
  refine va_get (D := D) (ci := 7) (v := .ref (ad 41)) (C := RX7) (T := TX7) (N := 27) hx hb hts inX7 hown hK hP 0 rfl rfl 19 (by decide) fl_50 (fun _ h9 => h9) rfl dX7_notes_34 ?_
  refine lv_aload_n hx hb dX7_notes_37 rfl (lv_at hl 0 rfl) ?_
  refine va_get (D := D) (ci := 7) (v := .int vZ_made) (C := RX7) (T := TX7) (N := 27) hx hb hts inX7 hown hK hP 0 rfl rfl 11 (by decide) fl_103 (fun _ h9 => h9) rfl dX7_notes_38 ?_
  refine lv_aload_n hx hb dX7_notes_41 rfl (lv_at hl 0 rfl) ?_
  refine va_get (D := D) (ci := 7) (v := .int vZ_out) (C := RX7) (T := TX7) (N := 27) hx hb hts inX7 hown hK hP 0 rfl rfl 12 (by decide) fl_106 (fun _ h9 => h9) rfl dX7_notes_42 ?_
  obtain ⟨h_4, hw⟩ := hw
  refine va_iast hx hb hK hP hD hS 5 4 rfl rfl h_4 dX7_notes_45 (fun H locs hP hD hS => ?_)
  have hP : va_P D vwCl (cl_X7_notes ad cs vZ_players vZ_fill vZ_patience vZ_turn vZ_made vZ_out vZ_finishers vZ_thrown vZ_movesOf (upd vZ_movedFrom vZ_made.toNatClampNeg x1) (upd vZ_movedTo vZ_made.toNatClampNeg x2) (upd vZ_turnWas vZ_made.toNatClampNeg vZ_turn) (upd vZ_outWas vZ_made.toNatClampNeg vZ_out) vZ_finishersWas) H := hP
  have hD : va_D A (cl_X7_notes ad cs vZ_players vZ_fill vZ_patience vZ_turn vZ_made vZ_out vZ_finishers vZ_thrown vZ_movesOf (upd vZ_movedFrom vZ_made.toNatClampNeg x1) (upd vZ_movedTo vZ_made.toNatClampNeg x2) (upd vZ_turnWas vZ_made.toNatClampNeg vZ_turn) (upd vZ_outWas vZ_made.toNatClampNeg vZ_out) vZ_finishersWas) := hD
  refine lv_aload_n hx hb dX7_notes_46 rfl (lv_at hl 0 rfl) ?_
  refine va_get (D := D) (ci := 7) (v := .ref (ad 42)) (C := RX7) (T := TX7) (N := 27) hx hb hts inX7 hown hK hP 0 rfl rfl 20 (by decide) fl_53 (fun _ h9 => h9) rfl dX7_notes_47 ?_
  refine lv_aload_n hx hb dX7_notes_50 rfl (lv_at hl 0 rfl) ?_
  refine va_get (D := D) (ci := 7) (v := .int vZ_made) (C := RX7) (T := TX7) (N := 27) hx hb hts inX7 hown hK hP 0 rfl rfl 11 (by decide) fl_103 (fun _ h9 => h9) rfl dX7_notes_51 ?_
  refine lv_aload_n hx hb dX7_notes_54 rfl (lv_at hl 0 rfl) ?_
  refine va_get (D := D) (ci := 7) (v := .int vZ_finishers) (C := RX7) (T := TX7) (N := 27) hx hb hts inX7 hown hK hP 0 rfl rfl 14 (by decide) fl_109 (fun _ h9 => h9) rfl dX7_notes_55 ?_
  obtain ⟨h_5, hw⟩ := hw
  refine va_iast hx hb hK hP hD hS 6 5 rfl rfl h_5 dX7_notes_58 (fun H locs hP hD hS => ?_)
  have hP : va_P D vwCl (cl_X7_notes ad cs vZ_players vZ_fill vZ_patience vZ_turn vZ_made vZ_out vZ_finishers vZ_thrown vZ_movesOf (upd vZ_movedFrom vZ_made.toNatClampNeg x1) (upd vZ_movedTo vZ_made.toNatClampNeg x2) (upd vZ_turnWas vZ_made.toNatClampNeg vZ_turn) (upd vZ_outWas vZ_made.toNatClampNeg vZ_out) (upd vZ_finishersWas vZ_made.toNatClampNeg vZ_finishers)) H := hP
  have hD : va_D A (cl_X7_notes ad cs vZ_players vZ_fill vZ_patience vZ_turn vZ_made vZ_out vZ_finishers vZ_thrown vZ_movesOf (upd vZ_movedFrom vZ_made.toNatClampNeg x1) (upd vZ_movedTo vZ_made.toNatClampNeg x2) (upd vZ_turnWas vZ_made.toNatClampNeg vZ_turn) (upd vZ_outWas vZ_made.toNatClampNeg vZ_out) (upd vZ_finishersWas vZ_made.toNatClampNeg vZ_finishers)) := hD
  refine lv_aload_n hx hb dX7_notes_59 rfl (lv_at hl 0 rfl) ?_
  refine lv_dup hx hb dX7_notes_60 rfl ?_
  refine va_get (D := D) (ci := 7) (v := .int vZ_made) (C := RX7) (T := TX7) (N := 27) hx hb hts inX7 hown hK hP 0 rfl rfl 11 (by decide) fl_103 (fun _ h9 => h9) rfl dX7_notes_61 ?_
  refine lv_iconst (v := (1 : Int32)) hx hb dX7_notes_64 (by decide) ?_
  refine lv_iadd hx hb dX7_notes_65 ?_
  refine va_put (D := D) (ci := 7) (v := .int (vZ_made + (1 : Int32))) (ty := .int) (C := RX7) (T := TX7) (N := 27) hx hb hts inX7 tyX7 tyX7_ok nmX7 hown hK hP hD hS 0 rfl rfl 11 (by decide) fl_103 (fun _ h9 => h9) rfl (by decide +kernel) rfl rfl (Nat.le_of_ble_eq_true rfl) dX7_notes_66 (fun H locs hP hD hS => ?_)
  have hP : va_P D vwCl (cl_X7_notes ad cs vZ_players vZ_fill vZ_patience vZ_turn (vZ_made + (1 : Int32)) vZ_out vZ_finishers vZ_thrown vZ_movesOf (upd vZ_movedFrom vZ_made.toNatClampNeg x1) (upd vZ_movedTo vZ_made.toNatClampNeg x2) (upd vZ_turnWas vZ_made.toNatClampNeg vZ_turn) (upd vZ_outWas vZ_made.toNatClampNeg vZ_out) (upd vZ_finishersWas vZ_made.toNatClampNeg vZ_finishers)) H := hP
  have hD : va_D A (cl_X7_notes ad cs vZ_players vZ_fill vZ_patience vZ_turn (vZ_made + (1 : Int32)) vZ_out vZ_finishers vZ_thrown vZ_movesOf (upd vZ_movedFrom vZ_made.toNatClampNeg x1) (upd vZ_movedTo vZ_made.toNatClampNeg x2) (upd vZ_turnWas vZ_made.toNatClampNeg vZ_turn) (upd vZ_outWas vZ_made.toNatClampNeg vZ_out) (upd vZ_finishersWas vZ_made.toNatClampNeg vZ_finishers)) := hD
  refine lv_aload_n hx hb dX7_notes_69 rfl (lv_at hl 0 rfl) ?_
  refine va_get (D := D) (ci := 7) (v := .ref (ad 36)) (C := RX7) (T := TX7) (N := 27) hx hb hts inX7 hown hK hP 0 rfl rfl 13 (by decide) fl_35 (fun _ h9 => h9) rfl dX7_notes_70 ?_
  refine lv_aload_n hx hb dX7_notes_73 rfl (lv_at hl 0 rfl) ?_
  refine va_get (D := D) (ci := 7) (v := .int vZ_turn) (C := RX7) (T := TX7) (N := 27) hx hb hts inX7 hown hK hP 0 rfl rfl 10 (by decide) fl_83 (fun _ h9 => h9) rfl dX7_notes_74 ?_
  refine lv_dup2_11 hx hb dX7_notes_77 rfl rfl ?_
  obtain ⟨h_6, hw⟩ := hw
  refine va_iald hx hb hK hP 1 0 rfl rfl h_6 dX7_notes_78 ?_
  refine lv_iconst (v := (1 : Int32)) hx hb dX7_notes_79 (by decide) ?_
  refine lv_iadd hx hb dX7_notes_80 ?_
  obtain ⟨h_7, hw⟩ := hw
  refine va_iast hx hb hK hP hD hS 1 0 rfl rfl h_7 dX7_notes_81 (fun H locs hP hD hS => ?_)
  have hP : va_P D vwCl (cl_X7_notes ad cs vZ_players vZ_fill vZ_patience vZ_turn (vZ_made + (1 : Int32)) vZ_out vZ_finishers vZ_thrown (upd vZ_movesOf vZ_turn.toNatClampNeg ((vZ_movesOf vZ_turn.toNatClampNeg) + (1 : Int32))) (upd vZ_movedFrom vZ_made.toNatClampNeg x1) (upd vZ_movedTo vZ_made.toNatClampNeg x2) (upd vZ_turnWas vZ_made.toNatClampNeg vZ_turn) (upd vZ_outWas vZ_made.toNatClampNeg vZ_out) (upd vZ_finishersWas vZ_made.toNatClampNeg vZ_finishers)) H := hP
  have hD : va_D A (cl_X7_notes ad cs vZ_players vZ_fill vZ_patience vZ_turn (vZ_made + (1 : Int32)) vZ_out vZ_finishers vZ_thrown (upd vZ_movesOf vZ_turn.toNatClampNeg ((vZ_movesOf vZ_turn.toNatClampNeg) + (1 : Int32))) (upd vZ_movedFrom vZ_made.toNatClampNeg x1) (upd vZ_movedTo vZ_made.toNatClampNeg x2) (upd vZ_turnWas vZ_made.toNatClampNeg vZ_turn) (upd vZ_outWas vZ_made.toNatClampNeg vZ_out) (upd vZ_finishersWas vZ_made.toNatClampNeg vZ_finishers)) := hD
  exact hret _ _ _ _ _ _ _ _ _ _ _ hw hP hD hS dX7_notes_82
set_option maxHeartbeats 4000000 in
set_option maxRecDepth 100000 in
theorem c_X7_notes (l : Launch) (D : va_G) (ad : Nat → Nat) (cs : Nat → ClassId) (sz : Nat) (vZ_players vZ_fill vZ_patience vZ_turn vZ_made vZ_out vZ_finishers vZ_thrown : Int32) (vZ_movesOf vZ_movedFrom vZ_movedTo vZ_turnWas vZ_outWas vZ_finishersWas : Nat → Int32) (x1 x2 : Int32) (Q : Int32 → (Nat → Int32) → (Nat → Int32) → (Nat → Int32) → (Nat → Int32) → (Nat → Int32) → (Nat → Int32) → Prop) (hw : wp_X7_notes vZ_players vZ_fill vZ_patience vZ_turn vZ_made vZ_out vZ_finishers vZ_thrown vZ_movesOf vZ_movedFrom vZ_movedTo vZ_turnWas vZ_outWas vZ_finishersWas x1 x2 Q) :
  Met l yX7_notes wsX7_notes rm_X7_notes (va_Pc [.ref (ad 28), .int x1, .int x2] (PX D (cl_X7_notes ad cs vZ_players vZ_fill vZ_patience vZ_turn vZ_made vZ_out vZ_finishers vZ_thrown vZ_movesOf vZ_movedFrom vZ_movedTo vZ_turnWas vZ_outWas vZ_finishersWas) (ty_X7_notes cs) sz)) (va_Qv (fun (u : Int32 × (Nat → Int32) × (Nat → Int32) × (Nat → Int32) × (Nat → Int32) × (Nat → Int32) × (Nat → Int32)) => Q u.1 u.2.1 u.2.2.1 u.2.2.2.1 u.2.2.2.2.1 u.2.2.2.2.2.1 u.2.2.2.2.2.2) (fun (u : Int32 × (Nat → Int32) × (Nat → Int32) × (Nat → Int32) × (Nat → Int32) × (Nat → Int32) × (Nat → Int32)) t => va_P D vwCl (cl_X7_notes ad cs vZ_players vZ_fill vZ_patience vZ_turn u.1 vZ_out vZ_finishers vZ_thrown u.2.1 u.2.2.1 u.2.2.2.1 u.2.2.2.2.1 u.2.2.2.2.2.1 u.2.2.2.2.2.2) t.heap ∧ va_D (va_A (cl_X7_notes ad cs vZ_players vZ_fill vZ_patience vZ_turn vZ_made vZ_out vZ_finishers vZ_thrown vZ_movesOf vZ_movedFrom vZ_movedTo vZ_turnWas vZ_outWas vZ_finishersWas) sz) (cl_X7_notes ad cs vZ_players vZ_fill vZ_patience vZ_turn u.1 vZ_out vZ_finishers vZ_thrown u.2.1 u.2.2.1 u.2.2.2.1 u.2.2.2.2.1 u.2.2.2.2.2.1 u.2.2.2.2.2.2)) (va_A (cl_X7_notes ad cs vZ_players vZ_fill vZ_patience vZ_turn vZ_made vZ_out vZ_finishers vZ_thrown vZ_movesOf vZ_movedFrom vZ_movedTo vZ_turnWas vZ_outWas vZ_finishersWas) sz)) 0 0 (va_A (cl_X7_notes ad cs vZ_players vZ_fill vZ_patience vZ_turn vZ_made vZ_out vZ_finishers vZ_thrown vZ_movesOf vZ_movedFrom vZ_movedTo vZ_turnWas vZ_outWas vZ_finishersWas) sz) := by
  refine Met.ofW (cc := cX7_notes) (maxL := 3) (ret := none) (by decide) rfl ?_
  intro p e s m args below meth c s₁ B hml hv
  obtain ⟨rfl, hsz, hP, hK, hD0, hN⟩ := hv
  subst hsz
  have hl := lv_entry ([.ref (ad 28), .int x1, .int x2]) (n := 3) (Nat.le_of_ble_eq_true rfl)
  rw [lg_entry_eq]
  have hx := B.exec
  have hb := B.bytes
  have hr := B.returns
  exact b_X7_notes l D ad cs vZ_players vZ_fill vZ_patience vZ_turn vZ_made vZ_out vZ_finishers vZ_thrown vZ_movesOf vZ_movedFrom vZ_movedTo vZ_turnWas vZ_outWas vZ_finishersWas x1 x2 Q hx hb hml (findClass_of_methodNamed B.named) (atoms_spec (ws := wsX7_notes) B.pre) hN hP hK hD0.self (fun q h => Or.inr h) hl (fun o0 o1 o2 o3 o4 o5 o6 H locs pc ls hq hP hD hS hd => W.vret hx hb hr (fun t ht hW => ⟨⟨(o0, o1, o2, o3, o4, o5, o6), rfl, hq, by rw [ht]; exact hP, hD⟩, hS.F ht⟩) hS.2.2 hd) hw
abbrev rm_X7_behind : Room := { frames := 0, cells := 0, slots := 0, locals := 0 }
abbrev cl_X7_behind (ad : Nat → Nat) (cs : Nat → ClassId) (vZ_players vZ_fill vZ_patience vZ_turn vZ_made vZ_out vZ_finishers vZ_thrown : Int32) (vZ_next vZ_board : Nat → Int32) : va_W := [((ad 28), .inr (7, [.ref (ad 29), .ref (ad 30), .ref (ad 31), .ref (ad 32), .ref (ad 33), .ref (ad 34), .int vZ_players, .int vZ_fill, .int vZ_patience, .ref (ad 35), .int vZ_turn, .int vZ_made, .int vZ_out, .ref (ad 36), .int vZ_finishers, .ref (ad 37), .ref (ad 38), .ref (ad 39), .ref (ad 40), .ref (ad 41), .ref (ad 42), .ref (ad 43), .ref (ad 44), .ref (ad 45), .ref (ad 46), .ref (ad 47), .int vZ_thrown])), ((ad 32), .inl ((cs 32), 726, .inl vZ_next)), ((ad 35), .inl ((cs 35), 121, .inl vZ_board))]
abbrev ty_X7_behind (cs : Nat → ClassId) : List (ClassId × FieldType) := [((cs 32), .int), ((cs 35), .int)]
def wJ_X7_behind_82 (x5 t0 : Int32) (Q : Int32 → Prop) : Prop :=
 ((t0 = 0 → Q (-1 : Int32)) ∧
 (¬ t0 = 0 → Q x5))
def wJ_X7_behind_35 (vZ_board : Nat → Int32) (x3 x4 t0 : Int32) (Q : Int32 → Prop) : Prop :=
 ((t0 = (-1 : Int32) → wJ_X7_behind_82 t0 (0 : Int32) Q) ∧
 (¬ t0 = (-1 : Int32) → ((x4 = x3 → wJ_X7_behind_82 t0 (0 : Int32) Q) ∧
 (¬ x4 = x3 → (vp_in x4 121 ∧
 (((vZ_board x4.toNatClampNeg) = (-1 : Int32) → wJ_X7_behind_82 t0 (0 : Int32) Q) ∧
 (¬ (vZ_board x4.toNatClampNeg) = (-1 : Int32) → ((t0 = x3 → wJ_X7_behind_82 t0 (1 : Int32) Q) ∧
 (¬ t0 = x3 → (vp_in t0 121 ∧
 ((¬ (vZ_board t0.toNatClampNeg) = (-1 : Int32) → wJ_X7_behind_82 t0 (0 : Int32) Q) ∧
 ((vZ_board t0.toNatClampNeg) = (-1 : Int32) → wJ_X7_behind_82 t0 (1 : Int32) Q))))))))))))
def wp_X7_behind (vZ_players vZ_fill vZ_patience vZ_turn vZ_made vZ_out vZ_finishers vZ_thrown : Int32) (vZ_next vZ_board : Nat → Int32) (x1 x2 x3 : Int32) (Q : Int32 → Prop) : Prop :=
 (vp_in (((6 : Int32) * x1) + x2) 726 ∧
 ((¬ (vZ_next (((6 : Int32) * x1) + x2).toNatClampNeg) = (-1 : Int32) → (vp_in (((6 : Int32) * (vZ_next (((6 : Int32) * x1) + x2).toNatClampNeg)) + x2) 726 ∧
 wJ_X7_behind_35 vZ_board x3 (vZ_next (((6 : Int32) * x1) + x2).toNatClampNeg) (vZ_next (((6 : Int32) * (vZ_next (((6 : Int32) * x1) + x2).toNatClampNeg)) + x2).toNatClampNeg) Q)) ∧
 ((vZ_next (((6 : Int32) * x1) + x2).toNatClampNeg) = (-1 : Int32) → wJ_X7_behind_35 vZ_board x3 (vZ_next (((6 : Int32) * x1) + x2).toNatClampNeg) (-1 : Int32) Q)))
set_option maxHeartbeats 4000000 in
set_option maxRecDepth 100000 in
theorem b_X7_behind {p : Program} {e : Env} {s : State} {m : MethodId} {args : Array Value} {below : List Frame} {meth : Method} {c : Code} {QQ : State → Prop} {A : Nat → Prop} {ls : Array Slot} (l : Launch) (D : va_G) (ad : Nat → Nat) (cs : Nat → ClassId) (vZ_players vZ_fill vZ_patience vZ_turn vZ_made vZ_out vZ_finishers vZ_thrown : Int32) (vZ_next vZ_board : Nat → Int32) (x1 x2 x3 : Int32) (Q : Int32 → Prop) (hx : p.tables.exec = Jvm.exec) (hb : c.code = cX7_behind) (hml : c.maxLocals = 7) (hown : s.vm.findClass RX7 = some m.cls) (hts : ∀ w ∈ wsX7_behind, w.before args s = true) (hN : NW s) (hP : va_P D vwCl (cl_X7_behind ad cs vZ_players vZ_fill vZ_patience vZ_turn vZ_made vZ_out vZ_finishers vZ_thrown vZ_next vZ_board) s.heap) (hK : va_K D vwCl (ty_X7_behind cs) s) (hD : va_D A (cl_X7_behind ad cs vZ_players vZ_fill vZ_patience vZ_turn vZ_made vZ_out vZ_finishers vZ_thrown vZ_next vZ_board)) (hA : ∀ q : Nat, s.heap.size ≤ q → A q) (hl : lv_has ls 7 [(0, .ref (ad 28)), (1, .int x1), (2, .int x2), (3, .int x3)])
  (hret : ∀ (r : Int32) (pc : Nat) (ls : Array Slot), Q r → decode cX7_behind pc = .ok (.ireturn, 1) → W p l e rm_X7_behind s m args below meth c s.heap [] 0 0 QQ (F0 m pc ls [.int r]))
  (hw : wp_X7_behind vZ_players vZ_fill vZ_patience vZ_turn vZ_made vZ_out vZ_finishers vZ_thrown vZ_next vZ_board x1 x2 x3 Q) :
  W p l e rm_X7_behind s m args below meth c s.heap [] 0 0 QQ (F0 m 0 ls []) := by
  have S0 : CallFix p m c cX7_behind 7 s args wsX7_behind RX7 := ⟨hx, hb, hml, hown, hts⟩
  have inX7 : ∀ w ∈ u_ws RX7 TX7 27, w ∈ wsX7_behind := by decide +kernel
  have fl_19 := hts (.fieldLink RX7 19 "HopperCourtModel" "next" "[I") (by decide +kernel)
  have fl_32 := hts (.fieldLink RX7 32 "HopperCourtModel" "board" "[I") (by decide +kernel)
  have hJ82 : ∀ (x5 t0 : Int32), wJ_X7_behind_82 x5 t0 Q → ∀ (ls : Array Slot), lv_has ls 7 [(5, .int x5)] → W p l e rm_X7_behind s m args below meth c s.heap [] 0 0 QQ (F0 m 82 ls [.int t0]) := by
    intro x5 t0 hw  ls hl
    unfold wJ_X7_behind_82 at hw
    refine lv_istore (lv' := [(6, .int t0), (5, .int x5)]) hx hb dX7_behind_82 hl (by decide) rfl (fun ls hl => ?_)
    refine lv_iload hx hb dX7_behind_84 (lv_at hl 0 rfl) ?_
    refine lv_if_eq (tgt := 94) hx hb dX7_behind_86 (by decide) (fun c_1 => ?_) (fun c_1 => ?_)
    · have hw := hw.1 c_1
      refine lv_iconst (v := (-1 : Int32)) hx hb dX7_behind_94 (by decide) ?_
      exact hret _ _ _ hw dX7_behind_95
    · have hw := hw.2 c_1
      refine lv_iload hx hb dX7_behind_89 (lv_at hl 1 rfl) ?_
      refine lv_goto (tgt := 95) hx hb dX7_behind_91 (by decide) ?_
      exact hret _ _ _ hw dX7_behind_95
  have hJ35 : ∀ (x3 x4 t0 : Int32), wJ_X7_behind_35 vZ_board x3 x4 t0 Q → ∀ (ls : Array Slot), lv_has ls 7 [(0, .ref (ad 28)), (3, .int x3), (4, .int x4)] → W p l e rm_X7_behind s m args below meth c s.heap [] 0 0 QQ (F0 m 35 ls [.int t0]) := by
    intro x3 x4 t0 hw  ls hl
    unfold wJ_X7_behind_35 at hw
    refine lv_istore (lv' := [(5, .int t0), (0, .ref (ad 28)), (3, .int x3), (4, .int x4)]) hx hb dX7_behind_35 hl (by decide) rfl (fun ls hl => ?_)
    refine lv_iload hx hb dX7_behind_37 (lv_at hl 0 rfl) ?_
    refine lv_iconst (v := (-1 : Int32)) hx hb dX7_behind_39 (by decide) ?_
    refine lv_icmp_eq (tgt := 81) hx hb dX7_behind_40 (by decide) (fun c_2 => ?_) (fun c_2 => ?_)
    · have hw := hw.1 c_2
      refine lv_iconst (v := (0 : Int32)) hx hb dX7_behind_81 (by decide) ?_
      exact hJ82 t0 (0 : Int32) hw _ (lv_sub hl [0] rfl)
    · have hw := hw.2 c_2
      refine lv_iload hx hb dX7_behind_43 (lv_at hl 3 rfl) ?_
      refine lv_iload_n hx hb dX7_behind_45 rfl (lv_at hl 2 rfl) ?_
      refine lv_icmp_eq (tgt := 81) hx hb dX7_behind_46 (by decide) (fun c_3 => ?_) (fun c_3 => ?_)
      · have hw := hw.1 c_3
        refine lv_iconst (v := (0 : Int32)) hx hb dX7_behind_81 (by decide) ?_
        exact hJ82 t0 (0 : Int32) hw _ (lv_sub hl [0] rfl)
      · have hw := hw.2 c_3
        refine lv_aload_n hx hb dX7_behind_49 rfl (lv_at hl 1 rfl) ?_
        refine va_get (D := D) (ci := 7) (v := .ref (ad 35)) (C := RX7) (T := TX7) (N := 27) hx hb hts inX7 hown hK hP 0 rfl rfl 9 (by decide) fl_32 (fun _ h9 => h9) rfl dX7_behind_50 ?_
        refine lv_iload hx hb dX7_behind_53 (lv_at hl 3 rfl) ?_
        obtain ⟨h_4, hw⟩ := hw
        refine va_iald hx hb hK hP 2 1 rfl rfl h_4 dX7_behind_55 ?_
        refine lv_iconst (v := (-1 : Int32)) hx hb dX7_behind_56 (by decide) ?_
        refine lv_icmp_eq (tgt := 81) hx hb dX7_behind_57 (by decide) (fun c_5 => ?_) (fun c_5 => ?_)
        · have hw := hw.1 c_5
          refine lv_iconst (v := (0 : Int32)) hx hb dX7_behind_81 (by decide) ?_
          exact hJ82 t0 (0 : Int32) hw _ (lv_sub hl [0] rfl)
        · have hw := hw.2 c_5
          refine lv_iload hx hb dX7_behind_60 (lv_at hl 0 rfl) ?_
          refine lv_iload_n hx hb dX7_behind_62 rfl (lv_at hl 2 rfl) ?_
          refine lv_icmp_eq (tgt := 77) hx hb dX7_behind_63 (by decide) (fun c_6 => ?_) (fun c_6 => ?_)
          · have hw := hw.1 c_6
            refine lv_iconst (v := (1 : Int32)) hx hb dX7_behind_77 (by decide) ?_
            refine lv_goto (tgt := 82) hx hb dX7_behind_78 (by decide) ?_
            exact hJ82 t0 (1 : Int32) hw _ (lv_sub hl [0] rfl)
          · have hw := hw.2 c_6
            refine lv_aload_n hx hb dX7_behind_66 rfl (lv_at hl 1 rfl) ?_
            refine va_get (D := D) (ci := 7) (v := .ref (ad 35)) (C := RX7) (T := TX7) (N := 27) hx hb hts inX7 hown hK hP 0 rfl rfl 9 (by decide) fl_32 (fun _ h9 => h9) rfl dX7_behind_67 ?_
            refine lv_iload hx hb dX7_behind_70 (lv_at hl 0 rfl) ?_
            obtain ⟨h_7, hw⟩ := hw
            refine va_iald hx hb hK hP 2 1 rfl rfl h_7 dX7_behind_72 ?_
            refine lv_iconst (v := (-1 : Int32)) hx hb dX7_behind_73 (by decide) ?_
            refine lv_icmp_ne (tgt := 81) hx hb dX7_behind_74 (by decide) (fun c_8 => ?_) (fun c_8 => ?_)
            · have hw := hw.1 c_8
              refine lv_iconst (v := (0 : Int32)) hx hb dX7_behind_81 (by decide) ?_
              exact hJ82 t0 (0 : Int32) hw _ (lv_sub hl [0] rfl)
            · have hw := hw.2 c_8
              refine lv_iconst (v := (1 : Int32)) hx hb dX7_behind_77 (by decide) ?_
              refine lv_goto (tgt := 82) hx hb dX7_behind_78 (by decide) ?_
              exact hJ82 t0 (1 : Int32) hw _ (lv_sub hl [0] rfl)
  unfold wp_X7_behind at hw
  refine lv_aload_n hx hb dX7_behind_0 rfl (lv_at hl 0 rfl) ?_
  refine va_get (D := D) (ci := 7) (v := .ref (ad 32)) (C := RX7) (T := TX7) (N := 27) hx hb hts inX7 hown hK hP 0 rfl rfl 3 (by decide) fl_19 (fun _ h9 => h9) rfl dX7_behind_1 ?_
  refine lv_bipush (v := (6 : Int32)) hx hb dX7_behind_4 (by decide) ?_
  refine lv_iload_n hx hb dX7_behind_6 rfl (lv_at hl 1 rfl) ?_
  refine lv_imul hx hb dX7_behind_7 ?_
  refine lv_iload_n hx hb dX7_behind_8 rfl (lv_at hl 2 rfl) ?_
  refine lv_iadd hx hb dX7_behind_9 ?_
  obtain ⟨h_9, hw⟩ := hw
  refine va_iald hx hb hK hP 1 0 rfl rfl h_9 dX7_behind_10 ?_
  refine lv_istore (lv' := [(4, .int (vZ_next (((6 : Int32) * x1) + x2).toNatClampNeg)), (0, .ref (ad 28)), (1, .int x1), (2, .int x2), (3, .int x3)]) hx hb dX7_behind_11 hl (by decide) rfl (fun ls hl => ?_)
  refine lv_iload hx hb dX7_behind_13 (lv_at hl 0 rfl) ?_
  refine lv_iconst (v := (-1 : Int32)) hx hb dX7_behind_15 (by decide) ?_
  refine lv_icmp_ne (tgt := 23) hx hb dX7_behind_16 (by decide) (fun c_10 => ?_) (fun c_10 => ?_)
  · have hw := hw.1 c_10
    refine lv_aload_n hx hb dX7_behind_23 rfl (lv_at hl 1 rfl) ?_
    refine va_get (D := D) (ci := 7) (v := .ref (ad 32)) (C := RX7) (T := TX7) (N := 27) hx hb hts inX7 hown hK hP 0 rfl rfl 3 (by decide) fl_19 (fun _ h9 => h9) rfl dX7_behind_24 ?_
    refine lv_bipush (v := (6 : Int32)) hx hb dX7_behind_27 (by decide) ?_
    refine lv_iload hx hb dX7_behind_29 (lv_at hl 0 rfl) ?_
    refine lv_imul hx hb dX7_behind_31 ?_
    refine lv_iload_n hx hb dX7_behind_32 rfl (lv_at hl 3 rfl) ?_
    refine lv_iadd hx hb dX7_behind_33 ?_
    obtain ⟨h_11, hw⟩ := hw
    refine va_iald hx hb hK hP 1 0 rfl rfl h_11 dX7_behind_34 ?_
    exact hJ35 x3 (vZ_next (((6 : Int32) * x1) + x2).toNatClampNeg) (vZ_next (((6 : Int32) * (vZ_next (((6 : Int32) * x1) + x2).toNatClampNeg)) + x2).toNatClampNeg) hw _ (lv_sub hl [1, 4, 0] rfl)
  · have hw := hw.2 c_10
    refine lv_iconst (v := (-1 : Int32)) hx hb dX7_behind_19 (by decide) ?_
    refine lv_goto (tgt := 35) hx hb dX7_behind_20 (by decide) ?_
    exact hJ35 x3 (vZ_next (((6 : Int32) * x1) + x2).toNatClampNeg) (-1 : Int32) hw _ (lv_sub hl [1, 4, 0] rfl)
set_option maxHeartbeats 4000000 in
set_option maxRecDepth 100000 in
theorem c_X7_behind (l : Launch) (D : va_G) (ad : Nat → Nat) (cs : Nat → ClassId) (sz : Nat) (vZ_players vZ_fill vZ_patience vZ_turn vZ_made vZ_out vZ_finishers vZ_thrown : Int32) (vZ_next vZ_board : Nat → Int32) (x1 x2 x3 : Int32) (Q : Int32 → Prop) (hw : wp_X7_behind vZ_players vZ_fill vZ_patience vZ_turn vZ_made vZ_out vZ_finishers vZ_thrown vZ_next vZ_board x1 x2 x3 Q) :
  Met l yX7_behind wsX7_behind rm_X7_behind (va_Pc [.ref (ad 28), .int x1, .int x2, .int x3] (PX D (cl_X7_behind ad cs vZ_players vZ_fill vZ_patience vZ_turn vZ_made vZ_out vZ_finishers vZ_thrown vZ_next vZ_board) (ty_X7_behind cs) sz)) (vp_Si Q) 0 0 (fun _ => False) := by
  refine Met.ofW (cc := cX7_behind) (maxL := 7) (ret := (some .int)) (by decide) rfl ?_
  intro p e s m args below meth c s₁ B hml hv
  obtain ⟨rfl, hsz, hP, hK, hD0, hN⟩ := hv
  subst hsz
  have hl := lv_entry ([.ref (ad 28), .int x1, .int x2, .int x3]) (n := 7) (Nat.le_of_ble_eq_true rfl)
  rw [lg_entry_eq]
  have hx := B.exec
  have hb := B.bytes
  have hr := B.returns
  exact b_X7_behind l D ad cs vZ_players vZ_fill vZ_patience vZ_turn vZ_made vZ_out vZ_finishers vZ_thrown vZ_next vZ_board x1 x2 x3 Q hx hb hml (findClass_of_methodNamed B.named) (atoms_spec (ws := wsX7_behind) B.pre) hN hP hK hD0.self (fun q h => Or.inr h) hl (A := va_A (cl_X7_behind ad cs vZ_players vZ_fill vZ_patience vZ_turn vZ_made vZ_out vZ_finishers vZ_thrown vZ_next vZ_board) s.heap.size) (fun r pc ls hq hd => W.iret (v := r) hx hb hr (fun t ht hW => ⟨r, rfl, hq, ht⟩) (fun _ h => nomatch h) hd) hw
abbrev rm_X7_hopsFrom : Room := { frames := 1, cells := 0, slots := 0, locals := 26 }
abbrev cl_X7_hopsFrom (ad : Nat → Nat) (cs : Nat → ClassId) (vZ_players vZ_fill vZ_patience vZ_turn vZ_made vZ_out vZ_finishers vZ_thrown : Int32) (vZ_next vZ_board vZ_level vZ_queue : Nat → Int32) : va_W := [((ad 28), .inr (7, [.ref (ad 29), .ref (ad 30), .ref (ad 31), .ref (ad 32), .ref (ad 33), .ref (ad 34), .int vZ_players, .int vZ_fill, .int vZ_patience, .ref (ad 35), .int vZ_turn, .int vZ_made, .int vZ_out, .ref (ad 36), .int vZ_finishers, .ref (ad 37), .ref (ad 38), .ref (ad 39), .ref (ad 40), .ref (ad 41), .ref (ad 42), .ref (ad 43), .ref (ad 44), .ref (ad 45), .ref (ad 46), .ref (ad 47), .int vZ_thrown])), ((ad 32), .inl ((cs 32), 726, .inl vZ_next)), ((ad 35), .inl ((cs 35), 121, .inl vZ_board)), ((ad 43), .inl ((cs 43), 121, .inl vZ_level)), ((ad 44), .inl ((cs 44), 121, .inl vZ_queue))]
abbrev ty_X7_hopsFrom (cs : Nat → ClassId) : List (ClassId × FieldType) := [((cs 32), .int), ((cs 35), .int), ((cs 43), .int), ((cs 44), .int)]
def wb_X7_hopsFrom_2 (K2 : (Nat → Int32) → Prop) (P2 : (Nat → Int32) → Int32 → Prop) (vZ_level : Nat → Int32) (x3 : Int32) : Prop :=
 (((121 : Int32) ≤ x3 → K2 vZ_level) ∧
 (¬ (121 : Int32) ≤ x3 → (vp_in x3 121 ∧
 P2 (upd vZ_level x3.toNatClampNeg (1000 : Int32)) (x3 + (1 : Int32)))))
def wl_X7_hopsFrom_2 (K2 : (Nat → Int32) → Prop) (vZ_level : Nat → Int32) (x3 : Int32) : Prop := ∀ P2 : (Nat → Int32) → Int32 → Prop, (∀ (vZ_level : Nat → Int32) (x3 : Int32), wb_X7_hopsFrom_2 K2 P2 vZ_level x3 → P2 vZ_level x3) → P2 vZ_level x3
def wb_X7_hopsFrom_51 (vZ_players vZ_fill vZ_patience vZ_turn vZ_made vZ_out vZ_finishers vZ_thrown : Int32) (vZ_next vZ_board : Nat → Int32) (x2 x4 : Int32) (K51 : (Nat → Int32) → (Nat → Int32) → Int32 → Prop) (P51 : (Nat → Int32) → (Nat → Int32) → Int32 → Int32 → Prop) (vZ_level vZ_queue : Nat → Int32) (x3 x5 : Int32) : Prop :=
 (((6 : Int32) ≤ x5 → K51 vZ_level vZ_queue x3) ∧
 (¬ (6 : Int32) ≤ x5 → (vp_in x4 121 ∧
 wp_X7_behind vZ_players vZ_fill vZ_patience vZ_turn vZ_made vZ_out vZ_finishers vZ_thrown vZ_next vZ_board (vZ_queue x4.toNatClampNeg) x5 x2 (fun r_5 =>
 ((r_5 = (-1 : Int32) → P51 vZ_level vZ_queue x3 (x5 + (1 : Int32))) ∧
 (¬ r_5 = (-1 : Int32) → (vp_in r_5 121 ∧
 ((¬ (vZ_level r_5.toNatClampNeg) = (1000 : Int32) → P51 vZ_level vZ_queue x3 (x5 + (1 : Int32))) ∧
 ((vZ_level r_5.toNatClampNeg) = (1000 : Int32) → (vp_in x4 121 ∧
 (vp_in (vZ_queue x4.toNatClampNeg) 121 ∧
 (vp_in r_5 121 ∧
 (vp_in x3 121 ∧
 P51 (upd vZ_level r_5.toNatClampNeg ((vZ_level (vZ_queue x4.toNatClampNeg).toNatClampNeg) + (1 : Int32))) (upd vZ_queue x3.toNatClampNeg r_5) (x3 + (1 : Int32)) (x5 + (1 : Int32)))))))))))))))
def wl_X7_hopsFrom_51 (vZ_players vZ_fill vZ_patience vZ_turn vZ_made vZ_out vZ_finishers vZ_thrown : Int32) (vZ_next vZ_board : Nat → Int32) (x2 x4 : Int32) (K51 : (Nat → Int32) → (Nat → Int32) → Int32 → Prop) (vZ_level vZ_queue : Nat → Int32) (x3 x5 : Int32) : Prop := ∀ P51 : (Nat → Int32) → (Nat → Int32) → Int32 → Int32 → Prop, (∀ (vZ_level vZ_queue : Nat → Int32) (x3 x5 : Int32), wb_X7_hopsFrom_51 vZ_players vZ_fill vZ_patience vZ_turn vZ_made vZ_out vZ_finishers vZ_thrown vZ_next vZ_board x2 x4 K51 P51 vZ_level vZ_queue x3 x5 → P51 vZ_level vZ_queue x3 x5) → P51 vZ_level vZ_queue x3 x5
def wb_X7_hopsFrom_42 (vZ_players vZ_fill vZ_patience vZ_turn vZ_made vZ_out vZ_finishers vZ_thrown : Int32) (vZ_next vZ_board : Nat → Int32) (x2 : Int32) (K42 : (Nat → Int32) → (Nat → Int32) → Prop) (P42 : (Nat → Int32) → (Nat → Int32) → Int32 → Int32 → Prop) (vZ_level vZ_queue : Nat → Int32) (x3 x4 : Int32) : Prop :=
 ((x3 ≤ x4 → K42 vZ_level vZ_queue) ∧
 (¬ x3 ≤ x4 → wl_X7_hopsFrom_51 vZ_players vZ_fill vZ_patience vZ_turn vZ_made vZ_out vZ_finishers vZ_thrown vZ_next vZ_board x2 x4 (fun vZ_level_14 vZ_queue_15 x3_16 => P42 vZ_level_14 vZ_queue_15 x3_16 (x4 + (1 : Int32))) vZ_level vZ_queue x3 (0 : Int32)))
def wl_X7_hopsFrom_42 (vZ_players vZ_fill vZ_patience vZ_turn vZ_made vZ_out vZ_finishers vZ_thrown : Int32) (vZ_next vZ_board : Nat → Int32) (x2 : Int32) (K42 : (Nat → Int32) → (Nat → Int32) → Prop) (vZ_level vZ_queue : Nat → Int32) (x3 x4 : Int32) : Prop := ∀ P42 : (Nat → Int32) → (Nat → Int32) → Int32 → Int32 → Prop, (∀ (vZ_level vZ_queue : Nat → Int32) (x3 x4 : Int32), wb_X7_hopsFrom_42 vZ_players vZ_fill vZ_patience vZ_turn vZ_made vZ_out vZ_finishers vZ_thrown vZ_next vZ_board x2 K42 P42 vZ_level vZ_queue x3 x4 → P42 vZ_level vZ_queue x3 x4) → P42 vZ_level vZ_queue x3 x4
def wp_X7_hopsFrom (vZ_players vZ_fill vZ_patience vZ_turn vZ_made vZ_out vZ_finishers vZ_thrown : Int32) (vZ_next vZ_board vZ_level vZ_queue : Nat → Int32) (x1 x2 : Int32) (Q : (Nat → Int32) → (Nat → Int32) → Prop) : Prop :=
 wl_X7_hopsFrom_2 (fun vZ_level_17 => (vp_in x1 121 ∧
 (vp_in (0 : Int32) 121 ∧
 wl_X7_hopsFrom_42 vZ_players vZ_fill vZ_patience vZ_turn vZ_made vZ_out vZ_finishers vZ_thrown vZ_next vZ_board x2 (fun vZ_level_20 vZ_queue_21 => Q vZ_level_20 vZ_queue_21) (upd vZ_level_17 x1.toNatClampNeg (0 : Int32)) (upd vZ_queue (0 : Int32).toNatClampNeg x1) (1 : Int32) (0 : Int32)))) vZ_level (0 : Int32)
set_option maxHeartbeats 4000000 in
set_option maxRecDepth 100000 in
theorem b_X7_hopsFrom {p : Program} {e : Env} {s : State} {m : MethodId} {args : Array Value} {below : List Frame} {meth : Method} {c : Code} {QQ : State → Prop} {A : Nat → Prop} {ls : Array Slot} (l : Launch) (D : va_G) (ad : Nat → Nat) (cs : Nat → ClassId) (vZ_players vZ_fill vZ_patience vZ_turn vZ_made vZ_out vZ_finishers vZ_thrown : Int32) (vZ_next vZ_board vZ_level vZ_queue : Nat → Int32) (x1 x2 : Int32) (Q : (Nat → Int32) → (Nat → Int32) → Prop) (hx : p.tables.exec = Jvm.exec) (hb : c.code = cX7_hopsFrom) (hml : c.maxLocals = 7) (hown : s.vm.findClass RX7 = some m.cls) (hts : ∀ w ∈ wsX7_hopsFrom, w.before args s = true) (hN : NW s) (hP : va_P D vwCl (cl_X7_hopsFrom ad cs vZ_players vZ_fill vZ_patience vZ_turn vZ_made vZ_out vZ_finishers vZ_thrown vZ_next vZ_board vZ_level vZ_queue) s.heap) (hK : va_K D vwCl (ty_X7_hopsFrom cs) s) (hD : va_D A (cl_X7_hopsFrom ad cs vZ_players vZ_fill vZ_patience vZ_turn vZ_made vZ_out vZ_finishers vZ_thrown vZ_next vZ_board vZ_level vZ_queue)) (hA : ∀ q : Nat, s.heap.size ≤ q → A q) (hl : lv_has ls 7 [(0, .ref (ad 28)), (1, .int x1), (2, .int x2)])
  (hret : ∀ (o0 : Nat → Int32) (o1 : Nat → Int32) (H : Heap) (locs : List Loc) (pc : Nat) (ls : Array Slot), Q o0 o1 → va_P D vwCl (cl_X7_hopsFrom ad cs vZ_players vZ_fill vZ_patience vZ_turn vZ_made vZ_out vZ_finishers vZ_thrown vZ_next vZ_board o0 o1) H → va_D A (cl_X7_hopsFrom ad cs vZ_players vZ_fill vZ_patience vZ_turn vZ_made vZ_out vZ_finishers vZ_thrown vZ_next vZ_board o0 o1) → va_S A s.heap H locs → decode cX7_hopsFrom pc = .ok (.return_, 1) → W p l e rm_X7_hopsFrom s m args below meth c H locs 0 0 QQ (F0 m pc ls []))
  (hw : wp_X7_hopsFrom vZ_players vZ_fill vZ_patience vZ_turn vZ_made vZ_out vZ_finishers vZ_thrown vZ_next vZ_board vZ_level vZ_queue x1 x2 Q) :
  W p l e rm_X7_hopsFrom s m args below meth c s.heap [] 0 0 QQ (F0 m 0 ls []) := by
  have S0 : CallFix p m c cX7_hopsFrom 7 s args wsX7_hopsFrom RX7 := ⟨hx, hb, hml, hown, hts⟩
  have inX7 : ∀ w ∈ u_ws RX7 TX7 27, w ∈ wsX7_hopsFrom := by decide +kernel
  have fl_56 := hts (.fieldLink RX7 56 "HopperCourtModel" "level" "[I") (by decide +kernel)
  have fl_59 := hts (.fieldLink RX7 59 "HopperCourtModel" "queue" "[I") (by decide +kernel)
  have hL2 : ∀ (K2 : (Nat → Int32) → Prop) (vZ_level : Nat → Int32) (x3 : Int32) (vZ_queue : Nat → Int32) (x1 x2 : Int32), wl_X7_hopsFrom_2 K2 vZ_level x3 → (∀ (vZ_level : Nat → Int32), K2 vZ_level → ∀ (H : Heap) (locs : List Loc) (ls : Array Slot), va_P D vwCl (cl_X7_hopsFrom ad cs vZ_players vZ_fill vZ_patience vZ_turn vZ_made vZ_out vZ_finishers vZ_thrown vZ_next vZ_board vZ_level vZ_queue) H → va_D A (cl_X7_hopsFrom ad cs vZ_players vZ_fill vZ_patience vZ_turn vZ_made vZ_out vZ_finishers vZ_thrown vZ_next vZ_board vZ_level vZ_queue) → va_S A s.heap H locs → lv_has ls 7 [(0, .ref (ad 28)), (1, .int x1), (2, .int x2)] → W p l e rm_X7_hopsFrom s m args below meth c H locs 0 0 QQ (F0 m 23 ls [])) → ∀ (H : Heap) (locs : List Loc) (ls : Array Slot), va_P D vwCl (cl_X7_hopsFrom ad cs vZ_players vZ_fill vZ_patience vZ_turn vZ_made vZ_out vZ_finishers vZ_thrown vZ_next vZ_board vZ_level vZ_queue) H → va_D A (cl_X7_hopsFrom ad cs vZ_players vZ_fill vZ_patience vZ_turn vZ_made vZ_out vZ_finishers vZ_thrown vZ_next vZ_board vZ_level vZ_queue) → va_S A s.heap H locs → lv_has ls 7 [(0, .ref (ad 28)), (1, .int x1), (2, .int x2), (3, .int x3)] → W p l e rm_X7_hopsFrom s m args below meth c H locs 0 0 QQ (F0 m 2 ls []) := by
    intro K2 vZ_level x3 vZ_queue x1 x2 hw hK2
    unfold wl_X7_hopsFrom_2 at hw
    refine hw (fun (vZ_level : Nat → Int32) (x3 : Int32) => ∀ (H : Heap) (locs : List Loc) (ls : Array Slot), va_P D vwCl (cl_X7_hopsFrom ad cs vZ_players vZ_fill vZ_patience vZ_turn vZ_made vZ_out vZ_finishers vZ_thrown vZ_next vZ_board vZ_level vZ_queue) H → va_D A (cl_X7_hopsFrom ad cs vZ_players vZ_fill vZ_patience vZ_turn vZ_made vZ_out vZ_finishers vZ_thrown vZ_next vZ_board vZ_level vZ_queue) → va_S A s.heap H locs → lv_has ls 7 [(0, .ref (ad 28)), (1, .int x1), (2, .int x2), (3, .int x3)] → W p l e rm_X7_hopsFrom s m args below meth c H locs 0 0 QQ (F0 m 2 ls [])) ?_
    intro vZ_level x3 hw H locs ls hP hD hS hl
    unfold wb_X7_hopsFrom_2 at hw
    refine lv_iload_n hx hb dX7_hopsFrom_2 rfl (lv_at hl 3 rfl) ?_
    refine lv_bipush (v := (121 : Int32)) hx hb dX7_hopsFrom_3 (by decide) ?_
    refine lv_icmp_ge (tgt := 23) hx hb dX7_hopsFrom_5 (by decide) (fun c_1 => ?_) (fun c_1 => ?_)
    · have hw := hw.1 c_1
      exact hK2 vZ_level hw _ _ _ hP hD hS (lv_sub hl [0, 1, 2] rfl)
    · have hw := hw.2 c_1
      refine lv_aload_n hx hb dX7_hopsFrom_8 rfl (lv_at hl 0 rfl) ?_
      refine va_get (D := D) (ci := 7) (v := .ref (ad 43)) (C := RX7) (T := TX7) (N := 27) hx hb hts inX7 hown hK hP 0 rfl rfl 21 (by decide) fl_56 (fun _ h9 => h9) rfl dX7_hopsFrom_9 ?_
      refine lv_iload_n hx hb dX7_hopsFrom_12 rfl (lv_at hl 3 rfl) ?_
      refine lv_sipush (v := (1000 : Int32)) hx hb dX7_hopsFrom_13 (by decide) ?_
      obtain ⟨h_2, hw⟩ := hw
      refine va_iast hx hb hK hP hD hS 3 2 rfl rfl h_2 dX7_hopsFrom_16 (fun H locs hP hD hS => ?_)
      have hP : va_P D vwCl (cl_X7_hopsFrom ad cs vZ_players vZ_fill vZ_patience vZ_turn vZ_made vZ_out vZ_finishers vZ_thrown vZ_next vZ_board (upd vZ_level x3.toNatClampNeg (1000 : Int32)) vZ_queue) H := hP
      have hD : va_D A (cl_X7_hopsFrom ad cs vZ_players vZ_fill vZ_patience vZ_turn vZ_made vZ_out vZ_finishers vZ_thrown vZ_next vZ_board (upd vZ_level x3.toNatClampNeg (1000 : Int32)) vZ_queue) := hD
      refine lv_iinc (v := (x3 + (1 : Int32))) (lv' := [(3, .int (x3 + (1 : Int32))), (0, .ref (ad 28)), (1, .int x1), (2, .int x2)]) hx hb dX7_hopsFrom_17 hl (k := 3) rfl rfl (by decide) rfl (fun ls hl => ?_)
      refine lv_goto (tgt := 2) hx hb dX7_hopsFrom_20 (by decide) ?_
      exact hw _ _ _ hP hD hS (lv_sub hl [1, 2, 3, 0] rfl)
  have hL51 : ∀ (x2 x4 : Int32) (K51 : (Nat → Int32) → (Nat → Int32) → Int32 → Prop) (vZ_level vZ_queue : Nat → Int32) (x3 x5 : Int32), wl_X7_hopsFrom_51 vZ_players vZ_fill vZ_patience vZ_turn vZ_made vZ_out vZ_finishers vZ_thrown vZ_next vZ_board x2 x4 K51 vZ_level vZ_queue x3 x5 → (∀ (vZ_level vZ_queue : Nat → Int32) (x3 : Int32), K51 vZ_level vZ_queue x3 → ∀ (H : Heap) (locs : List Loc) (ls : Array Slot), va_P D vwCl (cl_X7_hopsFrom ad cs vZ_players vZ_fill vZ_patience vZ_turn vZ_made vZ_out vZ_finishers vZ_thrown vZ_next vZ_board vZ_level vZ_queue) H → va_D A (cl_X7_hopsFrom ad cs vZ_players vZ_fill vZ_patience vZ_turn vZ_made vZ_out vZ_finishers vZ_thrown vZ_next vZ_board vZ_level vZ_queue) → va_S A s.heap H locs → lv_has ls 7 [(0, .ref (ad 28)), (2, .int x2), (3, .int x3), (4, .int x4)] → W p l e rm_X7_hopsFrom s m args below meth c H locs 0 0 QQ (F0 m 131 ls [])) → ∀ (H : Heap) (locs : List Loc) (ls : Array Slot), va_P D vwCl (cl_X7_hopsFrom ad cs vZ_players vZ_fill vZ_patience vZ_turn vZ_made vZ_out vZ_finishers vZ_thrown vZ_next vZ_board vZ_level vZ_queue) H → va_D A (cl_X7_hopsFrom ad cs vZ_players vZ_fill vZ_patience vZ_turn vZ_made vZ_out vZ_finishers vZ_thrown vZ_next vZ_board vZ_level vZ_queue) → va_S A s.heap H locs → lv_has ls 7 [(0, .ref (ad 28)), (2, .int x2), (3, .int x3), (4, .int x4), (5, .int x5)] → W p l e rm_X7_hopsFrom s m args below meth c H locs 0 0 QQ (F0 m 51 ls []) := by
    intro x2 x4 K51 vZ_level vZ_queue x3 x5 hw hK51
    unfold wl_X7_hopsFrom_51 at hw
    refine hw (fun (vZ_level vZ_queue : Nat → Int32) (x3 x5 : Int32) => ∀ (H : Heap) (locs : List Loc) (ls : Array Slot), va_P D vwCl (cl_X7_hopsFrom ad cs vZ_players vZ_fill vZ_patience vZ_turn vZ_made vZ_out vZ_finishers vZ_thrown vZ_next vZ_board vZ_level vZ_queue) H → va_D A (cl_X7_hopsFrom ad cs vZ_players vZ_fill vZ_patience vZ_turn vZ_made vZ_out vZ_finishers vZ_thrown vZ_next vZ_board vZ_level vZ_queue) → va_S A s.heap H locs → lv_has ls 7 [(0, .ref (ad 28)), (2, .int x2), (3, .int x3), (4, .int x4), (5, .int x5)] → W p l e rm_X7_hopsFrom s m args below meth c H locs 0 0 QQ (F0 m 51 ls [])) ?_
    intro vZ_level vZ_queue x3 x5 hw H locs ls hP hD hS hl
    unfold wb_X7_hopsFrom_51 at hw
    refine lv_iload hx hb dX7_hopsFrom_51 (lv_at hl 4 rfl) ?_
    refine lv_bipush (v := (6 : Int32)) hx hb dX7_hopsFrom_53 (by decide) ?_
    refine lv_icmp_ge (tgt := 131) hx hb dX7_hopsFrom_55 (by decide) (fun c_3 => ?_) (fun c_3 => ?_)
    · have hw := hw.1 c_3
      exact hK51 vZ_level vZ_queue x3 hw _ _ _ hP hD hS (lv_sub hl [0, 1, 2, 3] rfl)
    · have hw := hw.2 c_3
      refine lv_aload_n hx hb dX7_hopsFrom_58 rfl (lv_at hl 0 rfl) ?_
      refine lv_aload_n hx hb dX7_hopsFrom_59 rfl (lv_at hl 0 rfl) ?_
      refine va_get (D := D) (ci := 7) (v := .ref (ad 44)) (C := RX7) (T := TX7) (N := 27) hx hb hts inX7 hown hK hP 0 rfl rfl 22 (by decide) fl_59 (fun _ h9 => h9) rfl dX7_hopsFrom_60 ?_
      refine lv_iload hx hb dX7_hopsFrom_63 (lv_at hl 3 rfl) ?_
      obtain ⟨h_4, hw⟩ := hw
      refine va_iald hx hb hK hP 4 3 rfl rfl h_4 dX7_hopsFrom_65 ?_
      refine lv_iload hx hb dX7_hopsFrom_66 (lv_at hl 4 rfl) ?_
      refine lv_iload_n hx hb dX7_hopsFrom_68 rfl (lv_at hl 1 rfl) ?_
      refine pcV (rest := []) (ci := 7) S0 (c_X7_behind l D ad cs H.size vZ_players vZ_fill vZ_patience vZ_turn vZ_made vZ_out vZ_finishers vZ_thrown vZ_next vZ_board (vZ_queue x4.toNatClampNeg) x5 x2 _ hw) (cwV 3 hts gX7_hopsFrom_X7_behind rfl rfl rfl (by decide +kernel) ⟨Nat.le_of_ble_eq_true rfl, Nat.le_of_ble_eq_true rfl⟩) hN hK hP hD [0, 1, 2] [0, 1] rfl rfl rfl 0 rfl rfl rfl rfl hl.1 (Nat.le_of_ble_eq_true rfl) ⟨Nat.le_of_ble_eq_true rfl, Nat.le_of_ble_eq_true rfl⟩ dX7_hopsFrom_69 (fun r_5 hw => ?_)
      refine lv_istore (lv' := [(6, .int r_5), (0, .ref (ad 28)), (2, .int x2), (3, .int x3), (4, .int x4), (5, .int x5)]) hx hb dX7_hopsFrom_72 hl (by decide) rfl (fun ls hl => ?_)
      refine lv_iload hx hb dX7_hopsFrom_74 (lv_at hl 0 rfl) ?_
      refine lv_iconst (v := (-1 : Int32)) hx hb dX7_hopsFrom_76 (by decide) ?_
      refine lv_icmp_eq (tgt := 125) hx hb dX7_hopsFrom_77 (by decide) (fun c_6 => ?_) (fun c_6 => ?_)
      · have hw := hw.1 c_6
        refine lv_iinc (v := (x5 + (1 : Int32))) (lv' := [(5, .int (x5 + (1 : Int32))), (6, .int r_5), (0, .ref (ad 28)), (2, .int x2), (3, .int x3), (4, .int x4)]) hx hb dX7_hopsFrom_125 hl (k := 5) rfl rfl (by decide) rfl (fun ls hl => ?_)
        refine lv_goto (tgt := 51) hx hb dX7_hopsFrom_128 (by decide) ?_
        exact hw _ _ _ hP hD hS (lv_sub hl [2, 3, 4, 5, 0] rfl)
      · have hw := hw.2 c_6
        refine lv_aload_n hx hb dX7_hopsFrom_80 rfl (lv_at hl 1 rfl) ?_
        refine va_get (D := D) (ci := 7) (v := .ref (ad 43)) (C := RX7) (T := TX7) (N := 27) hx hb hts inX7 hown hK hP 0 rfl rfl 21 (by decide) fl_56 (fun _ h9 => h9) rfl dX7_hopsFrom_81 ?_
        refine lv_iload hx hb dX7_hopsFrom_84 (lv_at hl 0 rfl) ?_
        obtain ⟨h_7, hw⟩ := hw
        refine va_iald hx hb hK hP 3 2 rfl rfl h_7 dX7_hopsFrom_86 ?_
        refine lv_sipush (v := (1000 : Int32)) hx hb dX7_hopsFrom_87 (by decide) ?_
        refine lv_icmp_ne (tgt := 125) hx hb dX7_hopsFrom_90 (by decide) (fun c_8 => ?_) (fun c_8 => ?_)
        · have hw := hw.1 c_8
          refine lv_iinc (v := (x5 + (1 : Int32))) (lv' := [(5, .int (x5 + (1 : Int32))), (6, .int r_5), (0, .ref (ad 28)), (2, .int x2), (3, .int x3), (4, .int x4)]) hx hb dX7_hopsFrom_125 hl (k := 5) rfl rfl (by decide) rfl (fun ls hl => ?_)
          refine lv_goto (tgt := 51) hx hb dX7_hopsFrom_128 (by decide) ?_
          exact hw _ _ _ hP hD hS (lv_sub hl [2, 3, 4, 5, 0] rfl)
        · have hw := hw.2 c_8
          refine lv_aload_n hx hb dX7_hopsFrom_93 rfl (lv_at hl 1 rfl) ?_
          refine va_get (D := D) (ci := 7) (v := .ref (ad 43)) (C := RX7) (T := TX7) (N := 27) hx hb hts inX7 hown hK hP 0 rfl rfl 21 (by decide) fl_56 (fun _ h9 => h9) rfl dX7_hopsFrom_94 ?_
          refine lv_iload hx hb dX7_hopsFrom_97 (lv_at hl 0 rfl) ?_
          refine lv_aload_n hx hb dX7_hopsFrom_99 rfl (lv_at hl 1 rfl) ?_
          refine va_get (D := D) (ci := 7) (v := .ref (ad 43)) (C := RX7) (T := TX7) (N := 27) hx hb hts inX7 hown hK hP 0 rfl rfl 21 (by decide) fl_56 (fun _ h9 => h9) rfl dX7_hopsFrom_100 ?_
          refine lv_aload_n hx hb dX7_hopsFrom_103 rfl (lv_at hl 1 rfl) ?_
          refine va_get (D := D) (ci := 7) (v := .ref (ad 44)) (C := RX7) (T := TX7) (N := 27) hx hb hts inX7 hown hK hP 0 rfl rfl 22 (by decide) fl_59 (fun _ h9 => h9) rfl dX7_hopsFrom_104 ?_
          refine lv_iload hx hb dX7_hopsFrom_107 (lv_at hl 4 rfl) ?_
          obtain ⟨h_9, hw⟩ := hw
          refine va_iald hx hb hK hP 4 3 rfl rfl h_9 dX7_hopsFrom_109 ?_
          obtain ⟨h_10, hw⟩ := hw
          refine va_iald hx hb hK hP 3 2 rfl rfl h_10 dX7_hopsFrom_110 ?_
          refine lv_iconst (v := (1 : Int32)) hx hb dX7_hopsFrom_111 (by decide) ?_
          refine lv_iadd hx hb dX7_hopsFrom_112 ?_
          obtain ⟨h_11, hw⟩ := hw
          refine va_iast hx hb hK hP hD hS 3 2 rfl rfl h_11 dX7_hopsFrom_113 (fun H locs hP hD hS => ?_)
          have hP : va_P D vwCl (cl_X7_hopsFrom ad cs vZ_players vZ_fill vZ_patience vZ_turn vZ_made vZ_out vZ_finishers vZ_thrown vZ_next vZ_board (upd vZ_level r_5.toNatClampNeg ((vZ_level (vZ_queue x4.toNatClampNeg).toNatClampNeg) + (1 : Int32))) vZ_queue) H := hP
          have hD : va_D A (cl_X7_hopsFrom ad cs vZ_players vZ_fill vZ_patience vZ_turn vZ_made vZ_out vZ_finishers vZ_thrown vZ_next vZ_board (upd vZ_level r_5.toNatClampNeg ((vZ_level (vZ_queue x4.toNatClampNeg).toNatClampNeg) + (1 : Int32))) vZ_queue) := hD
          refine lv_aload_n hx hb dX7_hopsFrom_114 rfl (lv_at hl 1 rfl) ?_
          refine va_get (D := D) (ci := 7) (v := .ref (ad 44)) (C := RX7) (T := TX7) (N := 27) hx hb hts inX7 hown hK hP 0 rfl rfl 22 (by decide) fl_59 (fun _ h9 => h9) rfl dX7_hopsFrom_115 ?_
          refine lv_iload_n hx hb dX7_hopsFrom_118 rfl (lv_at hl 3 rfl) ?_
          refine lv_iload hx hb dX7_hopsFrom_119 (lv_at hl 0 rfl) ?_
          obtain ⟨h_12, hw⟩ := hw
          refine va_iast hx hb hK hP hD hS 4 3 rfl rfl h_12 dX7_hopsFrom_121 (fun H locs hP hD hS => ?_)
          have hP : va_P D vwCl (cl_X7_hopsFrom ad cs vZ_players vZ_fill vZ_patience vZ_turn vZ_made vZ_out vZ_finishers vZ_thrown vZ_next vZ_board (upd vZ_level r_5.toNatClampNeg ((vZ_level (vZ_queue x4.toNatClampNeg).toNatClampNeg) + (1 : Int32))) (upd vZ_queue x3.toNatClampNeg r_5)) H := hP
          have hD : va_D A (cl_X7_hopsFrom ad cs vZ_players vZ_fill vZ_patience vZ_turn vZ_made vZ_out vZ_finishers vZ_thrown vZ_next vZ_board (upd vZ_level r_5.toNatClampNeg ((vZ_level (vZ_queue x4.toNatClampNeg).toNatClampNeg) + (1 : Int32))) (upd vZ_queue x3.toNatClampNeg r_5)) := hD
          refine lv_iinc (v := (x3 + (1 : Int32))) (lv' := [(3, .int (x3 + (1 : Int32))), (6, .int r_5), (0, .ref (ad 28)), (2, .int x2), (4, .int x4), (5, .int x5)]) hx hb dX7_hopsFrom_122 hl (k := 3) rfl rfl (by decide) rfl (fun ls hl => ?_)
          refine lv_iinc (v := (x5 + (1 : Int32))) (lv' := [(5, .int (x5 + (1 : Int32))), (3, .int (x3 + (1 : Int32))), (6, .int r_5), (0, .ref (ad 28)), (2, .int x2), (4, .int x4)]) hx hb dX7_hopsFrom_125 hl (k := 5) rfl rfl (by decide) rfl (fun ls hl => ?_)
          refine lv_goto (tgt := 51) hx hb dX7_hopsFrom_128 (by decide) ?_
          exact hw _ _ _ hP hD hS (lv_sub hl [3, 4, 1, 5, 0] rfl)
  have hL42 : ∀ (x2 : Int32) (K42 : (Nat → Int32) → (Nat → Int32) → Prop) (vZ_level vZ_queue : Nat → Int32) (x3 x4 : Int32), wl_X7_hopsFrom_42 vZ_players vZ_fill vZ_patience vZ_turn vZ_made vZ_out vZ_finishers vZ_thrown vZ_next vZ_board x2 K42 vZ_level vZ_queue x3 x4 → (∀ (vZ_level vZ_queue : Nat → Int32), K42 vZ_level vZ_queue → ∀ (H : Heap) (locs : List Loc) (ls : Array Slot), va_P D vwCl (cl_X7_hopsFrom ad cs vZ_players vZ_fill vZ_patience vZ_turn vZ_made vZ_out vZ_finishers vZ_thrown vZ_next vZ_board vZ_level vZ_queue) H → va_D A (cl_X7_hopsFrom ad cs vZ_players vZ_fill vZ_patience vZ_turn vZ_made vZ_out vZ_finishers vZ_thrown vZ_next vZ_board vZ_level vZ_queue) → va_S A s.heap H locs → lv_has ls 7 [] → W p l e rm_X7_hopsFrom s m args below meth c H locs 0 0 QQ (F0 m 137 ls [])) → ∀ (H : Heap) (locs : List Loc) (ls : Array Slot), va_P D vwCl (cl_X7_hopsFrom ad cs vZ_players vZ_fill vZ_patience vZ_turn vZ_made vZ_out vZ_finishers vZ_thrown vZ_next vZ_board vZ_level vZ_queue) H → va_D A (cl_X7_hopsFrom ad cs vZ_players vZ_fill vZ_patience vZ_turn vZ_made vZ_out vZ_finishers vZ_thrown vZ_next vZ_board vZ_level vZ_queue) → va_S A s.heap H locs → lv_has ls 7 [(0, .ref (ad 28)), (2, .int x2), (3, .int x3), (4, .int x4)] → W p l e rm_X7_hopsFrom s m args below meth c H locs 0 0 QQ (F0 m 42 ls []) := by
    intro x2 K42 vZ_level vZ_queue x3 x4 hw hK42
    unfold wl_X7_hopsFrom_42 at hw
    refine hw (fun (vZ_level vZ_queue : Nat → Int32) (x3 x4 : Int32) => ∀ (H : Heap) (locs : List Loc) (ls : Array Slot), va_P D vwCl (cl_X7_hopsFrom ad cs vZ_players vZ_fill vZ_patience vZ_turn vZ_made vZ_out vZ_finishers vZ_thrown vZ_next vZ_board vZ_level vZ_queue) H → va_D A (cl_X7_hopsFrom ad cs vZ_players vZ_fill vZ_patience vZ_turn vZ_made vZ_out vZ_finishers vZ_thrown vZ_next vZ_board vZ_level vZ_queue) → va_S A s.heap H locs → lv_has ls 7 [(0, .ref (ad 28)), (2, .int x2), (3, .int x3), (4, .int x4)] → W p l e rm_X7_hopsFrom s m args below meth c H locs 0 0 QQ (F0 m 42 ls [])) ?_
    intro vZ_level vZ_queue x3 x4 hw H locs ls hP hD hS hl
    unfold wb_X7_hopsFrom_42 at hw
    refine lv_iload hx hb dX7_hopsFrom_42 (lv_at hl 3 rfl) ?_
    refine lv_iload_n hx hb dX7_hopsFrom_44 rfl (lv_at hl 2 rfl) ?_
    refine lv_icmp_ge (tgt := 137) hx hb dX7_hopsFrom_45 (by decide) (fun c_13 => ?_) (fun c_13 => ?_)
    · have hw := hw.1 c_13
      exact hK42 vZ_level vZ_queue hw _ _ _ hP hD hS (lv_sub hl [] rfl)
    · have hw := hw.2 c_13
      refine lv_iconst (v := (0 : Int32)) hx hb dX7_hopsFrom_48 (by decide) ?_
      refine lv_istore (lv' := [(5, .int (0 : Int32)), (0, .ref (ad 28)), (2, .int x2), (3, .int x3), (4, .int x4)]) hx hb dX7_hopsFrom_49 hl (by decide) rfl (fun ls hl => ?_)
      refine hL51 x2 x4 _ vZ_level vZ_queue x3 (0 : Int32) hw ?_ _ _ _ hP hD hS (lv_sub hl [1, 2, 3, 4, 0] rfl)
      intro vZ_level_14 vZ_queue_15 x3_16 hw H locs ls hP hD hS hl
      refine lv_iinc (v := (x4 + (1 : Int32))) (lv' := [(4, .int (x4 + (1 : Int32))), (0, .ref (ad 28)), (2, .int x2), (3, .int x3_16)]) hx hb dX7_hopsFrom_131 hl (k := 3) rfl rfl (by decide) rfl (fun ls hl => ?_)
      refine lv_goto (tgt := 42) hx hb dX7_hopsFrom_134 (by decide) ?_
      exact hw _ _ _ hP hD hS (lv_sub hl [1, 2, 3, 0] rfl)
  obtain ⟨H, hH⟩ : ∃ H : Heap, H = s.heap := ⟨_, rfl⟩
  have hS : va_S A s.heap H [] := by rw [hH]; exact va_S.rf
  rw [← hH] at hP ⊢
  unfold wp_X7_hopsFrom at hw
  refine lv_iconst (v := (0 : Int32)) hx hb dX7_hopsFrom_0 (by decide) ?_
  refine lv_istore_n (lv' := [(3, .int (0 : Int32)), (0, .ref (ad 28)), (1, .int x1), (2, .int x2)]) hx hb dX7_hopsFrom_1 rfl hl (by decide) rfl (fun ls hl => ?_)
  refine hL2 _ vZ_level (0 : Int32) _ _ _ hw ?_ _ _ _ hP hD hS (lv_sub hl [1, 2, 3, 0] rfl)
  intro vZ_level_17 hw H locs ls hP hD hS hl
  refine lv_aload_n hx hb dX7_hopsFrom_23 rfl (lv_at hl 0 rfl) ?_
  refine va_get (D := D) (ci := 7) (v := .ref (ad 43)) (C := RX7) (T := TX7) (N := 27) hx hb hts inX7 hown hK hP 0 rfl rfl 21 (by decide) fl_56 (fun _ h9 => h9) rfl dX7_hopsFrom_24 ?_
  refine lv_iload_n hx hb dX7_hopsFrom_27 rfl (lv_at hl 1 rfl) ?_
  refine lv_iconst (v := (0 : Int32)) hx hb dX7_hopsFrom_28 (by decide) ?_
  obtain ⟨h_18, hw⟩ := hw
  refine va_iast hx hb hK hP hD hS 3 2 rfl rfl h_18 dX7_hopsFrom_29 (fun H locs hP hD hS => ?_)
  have hP : va_P D vwCl (cl_X7_hopsFrom ad cs vZ_players vZ_fill vZ_patience vZ_turn vZ_made vZ_out vZ_finishers vZ_thrown vZ_next vZ_board (upd vZ_level_17 x1.toNatClampNeg (0 : Int32)) vZ_queue) H := hP
  have hD : va_D A (cl_X7_hopsFrom ad cs vZ_players vZ_fill vZ_patience vZ_turn vZ_made vZ_out vZ_finishers vZ_thrown vZ_next vZ_board (upd vZ_level_17 x1.toNatClampNeg (0 : Int32)) vZ_queue) := hD
  refine lv_aload_n hx hb dX7_hopsFrom_30 rfl (lv_at hl 0 rfl) ?_
  refine va_get (D := D) (ci := 7) (v := .ref (ad 44)) (C := RX7) (T := TX7) (N := 27) hx hb hts inX7 hown hK hP 0 rfl rfl 22 (by decide) fl_59 (fun _ h9 => h9) rfl dX7_hopsFrom_31 ?_
  refine lv_iconst (v := (0 : Int32)) hx hb dX7_hopsFrom_34 (by decide) ?_
  refine lv_iload_n hx hb dX7_hopsFrom_35 rfl (lv_at hl 1 rfl) ?_
  obtain ⟨h_19, hw⟩ := hw
  refine va_iast hx hb hK hP hD hS 4 3 rfl rfl h_19 dX7_hopsFrom_36 (fun H locs hP hD hS => ?_)
  have hP : va_P D vwCl (cl_X7_hopsFrom ad cs vZ_players vZ_fill vZ_patience vZ_turn vZ_made vZ_out vZ_finishers vZ_thrown vZ_next vZ_board (upd vZ_level_17 x1.toNatClampNeg (0 : Int32)) (upd vZ_queue (0 : Int32).toNatClampNeg x1)) H := hP
  have hD : va_D A (cl_X7_hopsFrom ad cs vZ_players vZ_fill vZ_patience vZ_turn vZ_made vZ_out vZ_finishers vZ_thrown vZ_next vZ_board (upd vZ_level_17 x1.toNatClampNeg (0 : Int32)) (upd vZ_queue (0 : Int32).toNatClampNeg x1)) := hD
  refine lv_iconst (v := (1 : Int32)) hx hb dX7_hopsFrom_37 (by decide) ?_
  refine lv_istore_n (lv' := [(3, .int (1 : Int32)), (0, .ref (ad 28)), (1, .int x1), (2, .int x2)]) hx hb dX7_hopsFrom_38 rfl hl (by decide) rfl (fun ls hl => ?_)
  refine lv_iconst (v := (0 : Int32)) hx hb dX7_hopsFrom_39 (by decide) ?_
  refine lv_istore (lv' := [(4, .int (0 : Int32)), (3, .int (1 : Int32)), (0, .ref (ad 28)), (1, .int x1), (2, .int x2)]) hx hb dX7_hopsFrom_40 hl (by decide) rfl (fun ls hl => ?_)
  refine hL42 x2 _ (upd vZ_level_17 x1.toNatClampNeg (0 : Int32)) (upd vZ_queue (0 : Int32).toNatClampNeg x1) (1 : Int32) (0 : Int32) hw ?_ _ _ _ hP hD hS (lv_sub hl [2, 4, 1, 0] rfl)
  intro vZ_level_20 vZ_queue_21 hw H locs ls hP hD hS hl
  exact hret _ _ _ _ _ _ hw hP hD hS dX7_hopsFrom_137
set_option maxHeartbeats 4000000 in
set_option maxRecDepth 100000 in
theorem c_X7_hopsFrom (l : Launch) (D : va_G) (ad : Nat → Nat) (cs : Nat → ClassId) (sz : Nat) (vZ_players vZ_fill vZ_patience vZ_turn vZ_made vZ_out vZ_finishers vZ_thrown : Int32) (vZ_next vZ_board vZ_level vZ_queue : Nat → Int32) (x1 x2 : Int32) (Q : (Nat → Int32) → (Nat → Int32) → Prop) (hw : wp_X7_hopsFrom vZ_players vZ_fill vZ_patience vZ_turn vZ_made vZ_out vZ_finishers vZ_thrown vZ_next vZ_board vZ_level vZ_queue x1 x2 Q) :
  Met l yX7_hopsFrom wsX7_hopsFrom rm_X7_hopsFrom (va_Pc [.ref (ad 28), .int x1, .int x2] (PX D (cl_X7_hopsFrom ad cs vZ_players vZ_fill vZ_patience vZ_turn vZ_made vZ_out vZ_finishers vZ_thrown vZ_next vZ_board vZ_level vZ_queue) (ty_X7_hopsFrom cs) sz)) (va_Qv (fun (u : (Nat → Int32) × (Nat → Int32)) => Q u.1 u.2) (fun (u : (Nat → Int32) × (Nat → Int32)) t => va_P D vwCl (cl_X7_hopsFrom ad cs vZ_players vZ_fill vZ_patience vZ_turn vZ_made vZ_out vZ_finishers vZ_thrown vZ_next vZ_board u.1 u.2) t.heap ∧ va_D (va_A (cl_X7_hopsFrom ad cs vZ_players vZ_fill vZ_patience vZ_turn vZ_made vZ_out vZ_finishers vZ_thrown vZ_next vZ_board vZ_level vZ_queue) sz) (cl_X7_hopsFrom ad cs vZ_players vZ_fill vZ_patience vZ_turn vZ_made vZ_out vZ_finishers vZ_thrown vZ_next vZ_board u.1 u.2)) (va_A (cl_X7_hopsFrom ad cs vZ_players vZ_fill vZ_patience vZ_turn vZ_made vZ_out vZ_finishers vZ_thrown vZ_next vZ_board vZ_level vZ_queue) sz)) 0 0 (va_A (cl_X7_hopsFrom ad cs vZ_players vZ_fill vZ_patience vZ_turn vZ_made vZ_out vZ_finishers vZ_thrown vZ_next vZ_board vZ_level vZ_queue) sz) := by
  refine Met.ofW (cc := cX7_hopsFrom) (maxL := 7) (ret := none) (by decide) rfl ?_
  intro p e s m args below meth c s₁ B hml hv
  obtain ⟨rfl, hsz, hP, hK, hD0, hN⟩ := hv
  subst hsz
  have hl := lv_entry ([.ref (ad 28), .int x1, .int x2]) (n := 7) (Nat.le_of_ble_eq_true rfl)
  rw [lg_entry_eq]
  have hx := B.exec
  have hb := B.bytes
  have hr := B.returns
  exact b_X7_hopsFrom l D ad cs vZ_players vZ_fill vZ_patience vZ_turn vZ_made vZ_out vZ_finishers vZ_thrown vZ_next vZ_board vZ_level vZ_queue x1 x2 Q hx hb hml (findClass_of_methodNamed B.named) (atoms_spec (ws := wsX7_hopsFrom) B.pre) hN hP hK hD0.self (fun q h => Or.inr h) hl (fun o0 o1 H locs pc ls hq hP hD hS hd => W.vret hx hb hr (fun t ht hW => ⟨⟨(o0, o1), rfl, hq, by rw [ht]; exact hP, hD⟩, hS.F ht⟩) hS.2.2 hd) hw
abbrev rm_X7_isNext : Room := { frames := 0, cells := 0, slots := 0, locals := 0 }
abbrev cl_X7_isNext (ad : Nat → Nat) (cs : Nat → ClassId) (vZ_players vZ_fill vZ_patience vZ_turn vZ_made vZ_out vZ_finishers vZ_thrown : Int32) (vZ_far : Nat → Int32) : va_W := [((ad 28), .inr (7, [.ref (ad 29), .ref (ad 30), .ref (ad 31), .ref (ad 32), .ref (ad 33), .ref (ad 34), .int vZ_players, .int vZ_fill, .int vZ_patience, .ref (ad 35), .int vZ_turn, .int vZ_made, .int vZ_out, .ref (ad 36), .int vZ_finishers, .ref (ad 37), .ref (ad 38), .ref (ad 39), .ref (ad 40), .ref (ad 41), .ref (ad 42), .ref (ad 43), .ref (ad 44), .ref (ad 45), .ref (ad 46), .ref (ad 47), .int vZ_thrown])), ((ad 33), .inl ((cs 33), 14641, .inl vZ_far))]
abbrev ty_X7_isNext (cs : Nat → ClassId) : List (ClassId × FieldType) := [((cs 33), .int)]
def wp_X7_isNext (vZ_players vZ_fill vZ_patience vZ_turn vZ_made vZ_out vZ_finishers vZ_thrown : Int32) (vZ_far : Nat → Int32) (x1 x2 : Int32) (Q : Int32 → Prop) : Prop :=
 (vp_in (((121 : Int32) * x1) + x2) 14641 ∧
 ((¬ (vZ_far (((121 : Int32) * x1) + x2).toNatClampNeg) = (1 : Int32) → Q (0 : Int32)) ∧
 ((vZ_far (((121 : Int32) * x1) + x2).toNatClampNeg) = (1 : Int32) → Q (1 : Int32))))
set_option maxHeartbeats 4000000 in
set_option maxRecDepth 100000 in
theorem b_X7_isNext {p : Program} {e : Env} {s : State} {m : MethodId} {args : Array Value} {below : List Frame} {meth : Method} {c : Code} {QQ : State → Prop} {A : Nat → Prop} {ls : Array Slot} (l : Launch) (D : va_G) (ad : Nat → Nat) (cs : Nat → ClassId) (vZ_players vZ_fill vZ_patience vZ_turn vZ_made vZ_out vZ_finishers vZ_thrown : Int32) (vZ_far : Nat → Int32) (x1 x2 : Int32) (Q : Int32 → Prop) (hx : p.tables.exec = Jvm.exec) (hb : c.code = cX7_isNext) (hml : c.maxLocals = 3) (hown : s.vm.findClass RX7 = some m.cls) (hts : ∀ w ∈ wsX7_isNext, w.before args s = true) (hN : NW s) (hP : va_P D vwCl (cl_X7_isNext ad cs vZ_players vZ_fill vZ_patience vZ_turn vZ_made vZ_out vZ_finishers vZ_thrown vZ_far) s.heap) (hK : va_K D vwCl (ty_X7_isNext cs) s) (hD : va_D A (cl_X7_isNext ad cs vZ_players vZ_fill vZ_patience vZ_turn vZ_made vZ_out vZ_finishers vZ_thrown vZ_far)) (hA : ∀ q : Nat, s.heap.size ≤ q → A q) (hl : lv_has ls 3 [(0, .ref (ad 28)), (1, .int x1), (2, .int x2)])
  (hret : ∀ (r : Int32) (pc : Nat) (ls : Array Slot), nb r → Q r → decode cX7_isNext pc = .ok (.ireturn, 1) → W p l e rm_X7_isNext s m args below meth c s.heap [] 0 0 QQ (F0 m pc ls [.int r]))
  (hw : wp_X7_isNext vZ_players vZ_fill vZ_patience vZ_turn vZ_made vZ_out vZ_finishers vZ_thrown vZ_far x1 x2 Q) :
  W p l e rm_X7_isNext s m args below meth c s.heap [] 0 0 QQ (F0 m 0 ls []) := by
  have S0 : CallFix p m c cX7_isNext 3 s args wsX7_isNext RX7 := ⟨hx, hb, hml, hown, hts⟩
  have inX7 : ∀ w ∈ u_ws RX7 TX7 27, w ∈ wsX7_isNext := by decide +kernel
  have fl_22 := hts (.fieldLink RX7 22 "HopperCourtModel" "far" "[I") (by decide +kernel)
  unfold wp_X7_isNext at hw
  refine lv_aload_n hx hb dX7_isNext_0 rfl (lv_at hl 0 rfl) ?_
  refine va_get (D := D) (ci := 7) (v := .ref (ad 33)) (C := RX7) (T := TX7) (N := 27) hx hb hts inX7 hown hK hP 0 rfl rfl 4 (by decide) fl_22 (fun _ h9 => h9) rfl dX7_isNext_1 ?_
  refine lv_bipush (v := (121 : Int32)) hx hb dX7_isNext_4 (by decide) ?_
  refine lv_iload_n hx hb dX7_isNext_6 rfl (lv_at hl 1 rfl) ?_
  refine lv_imul hx hb dX7_isNext_7 ?_
  refine lv_iload_n hx hb dX7_isNext_8 rfl (lv_at hl 2 rfl) ?_
  refine lv_iadd hx hb dX7_isNext_9 ?_
  obtain ⟨h_1, hw⟩ := hw
  refine va_iald hx hb hK hP 1 0 rfl rfl h_1 dX7_isNext_10 ?_
  refine lv_iconst (v := (1 : Int32)) hx hb dX7_isNext_11 (by decide) ?_
  refine lv_icmp_ne (tgt := 19) hx hb dX7_isNext_12 (by decide) (fun c_2 => ?_) (fun c_2 => ?_)
  · have hw := hw.1 c_2
    refine lv_iconst (v := (0 : Int32)) hx hb dX7_isNext_19 (by decide) ?_
    exact hret _ _ _ nb_0 hw dX7_isNext_20
  · have hw := hw.2 c_2
    refine lv_iconst (v := (1 : Int32)) hx hb dX7_isNext_15 (by decide) ?_
    refine lv_goto (tgt := 20) hx hb dX7_isNext_16 (by decide) ?_
    exact hret _ _ _ nb_1 hw dX7_isNext_20
set_option maxHeartbeats 4000000 in
set_option maxRecDepth 100000 in
theorem c_X7_isNext (l : Launch) (D : va_G) (ad : Nat → Nat) (cs : Nat → ClassId) (sz : Nat) (vZ_players vZ_fill vZ_patience vZ_turn vZ_made vZ_out vZ_finishers vZ_thrown : Int32) (vZ_far : Nat → Int32) (x1 x2 : Int32) (Q : Int32 → Prop) (hw : wp_X7_isNext vZ_players vZ_fill vZ_patience vZ_turn vZ_made vZ_out vZ_finishers vZ_thrown vZ_far x1 x2 Q) :
  Met l yX7_isNext wsX7_isNext rm_X7_isNext (va_Pc [.ref (ad 28), .int x1, .int x2] (PX D (cl_X7_isNext ad cs vZ_players vZ_fill vZ_patience vZ_turn vZ_made vZ_out vZ_finishers vZ_thrown vZ_far) (ty_X7_isNext cs) sz)) (vp_Si Q) 0 0 (fun _ => False) := by
  refine Met.ofW (cc := cX7_isNext) (maxL := 3) (ret := (some .boolean)) (by decide) rfl ?_
  intro p e s m args below meth c s₁ B hml hv
  obtain ⟨rfl, hsz, hP, hK, hD0, hN⟩ := hv
  subst hsz
  have hl := lv_entry ([.ref (ad 28), .int x1, .int x2]) (n := 3) (Nat.le_of_ble_eq_true rfl)
  rw [lg_entry_eq]
  have hx := B.exec
  have hb := B.bytes
  have hr := B.returns
  exact b_X7_isNext l D ad cs vZ_players vZ_fill vZ_patience vZ_turn vZ_made vZ_out vZ_finishers vZ_thrown vZ_far x1 x2 Q hx hb hml (findClass_of_methodNamed B.named) (atoms_spec (ws := wsX7_isNext) B.pre) hN hP hK hD0.self (fun q h => Or.inr h) hl (A := va_A (cl_X7_isNext ad cs vZ_players vZ_fill vZ_patience vZ_turn vZ_made vZ_out vZ_finishers vZ_thrown vZ_far) s.heap.size) (fun r pc ls hn hq hd => W.zret (v := r) hx hb hr hn (fun t ht hW => ⟨r, rfl, hq, ht⟩) (fun _ h => nomatch h) hd) hw
abbrev rm_X7_mayEnd : Room := { frames := 0, cells := 0, slots := 0, locals := 0 }
abbrev cl_X7_mayEnd (ad : Nat → Nat) (cs : Nat → ClassId) (vZ_players vZ_fill vZ_patience vZ_turn vZ_made vZ_out vZ_finishers vZ_thrown : Int32) (vZ_camp : Nat → Int32) : va_W := [((ad 28), .inr (7, [.ref (ad 29), .ref (ad 30), .ref (ad 31), .ref (ad 32), .ref (ad 33), .ref (ad 34), .int vZ_players, .int vZ_fill, .int vZ_patience, .ref (ad 35), .int vZ_turn, .int vZ_made, .int vZ_out, .ref (ad 36), .int vZ_finishers, .ref (ad 37), .ref (ad 38), .ref (ad 39), .ref (ad 40), .ref (ad 41), .ref (ad 42), .ref (ad 43), .ref (ad 44), .ref (ad 45), .ref (ad 46), .ref (ad 47), .int vZ_thrown])), ((ad 31), .inl ((cs 31), 121, .inl vZ_camp))]
abbrev ty_X7_mayEnd (cs : Nat → ClassId) : List (ClassId × FieldType) := [((cs 31), .int)]
def wJ_X7_mayEnd_48 (vZ_camp : Nat → Int32) (x1 x2 x3 t0 : Int32) (Q : Int32 → Prop) : Prop :=
 ((t0 = 0 → Q (0 : Int32)) ∧
 (¬ t0 = 0 → (vp_in x1 121 ∧
 ((¬ (vZ_camp x1.toNatClampNeg) = x3 → Q (1 : Int32)) ∧
 ((vZ_camp x1.toNatClampNeg) = x3 → (vp_in x2 121 ∧
 ((¬ (vZ_camp x2.toNatClampNeg) = x3 → Q (0 : Int32)) ∧
 ((vZ_camp x2.toNatClampNeg) = x3 → Q (1 : Int32)))))))))
def wp_X7_mayEnd (vZ_players vZ_fill vZ_patience vZ_turn vZ_made vZ_out vZ_finishers vZ_thrown : Int32) (vZ_camp : Nat → Int32) (x1 x2 : Int32) (Q : Int32 → Prop) : Prop :=
 (vp_in x2 121 ∧
 (((vZ_camp x2.toNatClampNeg) = (-1 : Int32) → wJ_X7_mayEnd_48 vZ_camp x1 x2 ((vZ_turn + (3 : Int32)) - (vZ_turn + (3 : Int32)) / (6 : Int32) * (6 : Int32)) (1 : Int32) Q) ∧
 (¬ (vZ_camp x2.toNatClampNeg) = (-1 : Int32) → (vp_in x2 121 ∧
 (((vZ_camp x2.toNatClampNeg) = vZ_turn → wJ_X7_mayEnd_48 vZ_camp x1 x2 ((vZ_turn + (3 : Int32)) - (vZ_turn + (3 : Int32)) / (6 : Int32) * (6 : Int32)) (1 : Int32) Q) ∧
 (¬ (vZ_camp x2.toNatClampNeg) = vZ_turn → (vp_in x2 121 ∧
 ((¬ (vZ_camp x2.toNatClampNeg) = ((vZ_turn + (3 : Int32)) - (vZ_turn + (3 : Int32)) / (6 : Int32) * (6 : Int32)) → wJ_X7_mayEnd_48 vZ_camp x1 x2 ((vZ_turn + (3 : Int32)) - (vZ_turn + (3 : Int32)) / (6 : Int32) * (6 : Int32)) (0 : Int32) Q) ∧
 ((vZ_camp x2.toNatClampNeg) = ((vZ_turn + (3 : Int32)) - (vZ_turn + (3 : Int32)) / (6 : Int32) * (6 : Int32)) → wJ_X7_mayEnd_48 vZ_camp x1 x2 ((vZ_turn + (3 : Int32)) - (vZ_turn + (3 : Int32)) / (6 : Int32) * (6 : Int32)) (1 : Int32) Q)))))))))
set_option maxHeartbeats 4000000 in
set_option maxRecDepth 100000 in
theorem b_X7_mayEnd {p : Program} {e : Env} {s : State} {m : MethodId} {args : Array Value} {below : List Frame} {meth : Method} {c : Code} {QQ : State → Prop} {A : Nat → Prop} {ls : Array Slot} (l : Launch) (D : va_G) (ad : Nat → Nat) (cs : Nat → ClassId) (vZ_players vZ_fill vZ_patience vZ_turn vZ_made vZ_out vZ_finishers vZ_thrown : Int32) (vZ_camp : Nat → Int32) (x1 x2 : Int32) (Q : Int32 → Prop) (hx : p.tables.exec = Jvm.exec) (hb : c.code = cX7_mayEnd) (hml : c.maxLocals = 5) (hown : s.vm.findClass RX7 = some m.cls) (hts : ∀ w ∈ wsX7_mayEnd, w.before args s = true) (hN : NW s) (hP : va_P D vwCl (cl_X7_mayEnd ad cs vZ_players vZ_fill vZ_patience vZ_turn vZ_made vZ_out vZ_finishers vZ_thrown vZ_camp) s.heap) (hK : va_K D vwCl (ty_X7_mayEnd cs) s) (hD : va_D A (cl_X7_mayEnd ad cs vZ_players vZ_fill vZ_patience vZ_turn vZ_made vZ_out vZ_finishers vZ_thrown vZ_camp)) (hA : ∀ q : Nat, s.heap.size ≤ q → A q) (hl : lv_has ls 5 [(0, .ref (ad 28)), (1, .int x1), (2, .int x2)])
  (hret : ∀ (r : Int32) (pc : Nat) (ls : Array Slot), nb r → Q r → decode cX7_mayEnd pc = .ok (.ireturn, 1) → W p l e rm_X7_mayEnd s m args below meth c s.heap [] 0 0 QQ (F0 m pc ls [.int r]))
  (hw : wp_X7_mayEnd vZ_players vZ_fill vZ_patience vZ_turn vZ_made vZ_out vZ_finishers vZ_thrown vZ_camp x1 x2 Q) :
  W p l e rm_X7_mayEnd s m args below meth c s.heap [] 0 0 QQ (F0 m 0 ls []) := by
  have S0 : CallFix p m c cX7_mayEnd 5 s args wsX7_mayEnd RX7 := ⟨hx, hb, hml, hown, hts⟩
  have inX7 : ∀ w ∈ u_ws RX7 TX7 27, w ∈ wsX7_mayEnd := by decide +kernel
  have fl_16 := hts (.fieldLink RX7 16 "HopperCourtModel" "camp" "[I") (by decide +kernel)
  have fl_83 := hts (.fieldLink RX7 83 "HopperCourtModel" "turn" "I") (by decide +kernel)
  have hJ48 : ∀ (x1 x2 x3 t0 : Int32), wJ_X7_mayEnd_48 vZ_camp x1 x2 x3 t0 Q → ∀ (ls : Array Slot), lv_has ls 5 [(0, .ref (ad 28)), (1, .int x1), (2, .int x2), (3, .int x3)] → W p l e rm_X7_mayEnd s m args below meth c s.heap [] 0 0 QQ (F0 m 48 ls [.int t0]) := by
    intro x1 x2 x3 t0 hw  ls hl
    unfold wJ_X7_mayEnd_48 at hw
    refine lv_istore (lv' := [(4, .int t0), (0, .ref (ad 28)), (1, .int x1), (2, .int x2), (3, .int x3)]) hx hb dX7_mayEnd_48 hl (by decide) rfl (fun ls hl => ?_)
    refine lv_iload hx hb dX7_mayEnd_50 (lv_at hl 0 rfl) ?_
    refine lv_if_eq (tgt := 79) hx hb dX7_mayEnd_52 (by decide) (fun c_1 => ?_) (fun c_1 => ?_)
    · have hw := hw.1 c_1
      refine lv_iconst (v := (0 : Int32)) hx hb dX7_mayEnd_79 (by decide) ?_
      exact hret _ _ _ nb_0 hw dX7_mayEnd_80
    · have hw := hw.2 c_1
      refine lv_aload_n hx hb dX7_mayEnd_55 rfl (lv_at hl 1 rfl) ?_
      refine va_get (D := D) (ci := 7) (v := .ref (ad 31)) (C := RX7) (T := TX7) (N := 27) hx hb hts inX7 hown hK hP 0 rfl rfl 2 (by decide) fl_16 (fun _ h9 => h9) rfl dX7_mayEnd_56 ?_
      refine lv_iload_n hx hb dX7_mayEnd_59 rfl (lv_at hl 2 rfl) ?_
      obtain ⟨h_2, hw⟩ := hw
      refine va_iald hx hb hK hP 1 0 rfl rfl h_2 dX7_mayEnd_60 ?_
      refine lv_iload_n hx hb dX7_mayEnd_61 rfl (lv_at hl 4 rfl) ?_
      refine lv_icmp_ne (tgt := 75) hx hb dX7_mayEnd_62 (by decide) (fun c_3 => ?_) (fun c_3 => ?_)
      · have hw := hw.1 c_3
        refine lv_iconst (v := (1 : Int32)) hx hb dX7_mayEnd_75 (by decide) ?_
        refine lv_goto (tgt := 80) hx hb dX7_mayEnd_76 (by decide) ?_
        exact hret _ _ _ nb_1 hw dX7_mayEnd_80
      · have hw := hw.2 c_3
        refine lv_aload_n hx hb dX7_mayEnd_65 rfl (lv_at hl 1 rfl) ?_
        refine va_get (D := D) (ci := 7) (v := .ref (ad 31)) (C := RX7) (T := TX7) (N := 27) hx hb hts inX7 hown hK hP 0 rfl rfl 2 (by decide) fl_16 (fun _ h9 => h9) rfl dX7_mayEnd_66 ?_
        refine lv_iload_n hx hb dX7_mayEnd_69 rfl (lv_at hl 3 rfl) ?_
        obtain ⟨h_4, hw⟩ := hw
        refine va_iald hx hb hK hP 1 0 rfl rfl h_4 dX7_mayEnd_70 ?_
        refine lv_iload_n hx hb dX7_mayEnd_71 rfl (lv_at hl 4 rfl) ?_
        refine lv_icmp_ne (tgt := 79) hx hb dX7_mayEnd_72 (by decide) (fun c_5 => ?_) (fun c_5 => ?_)
        · have hw := hw.1 c_5
          refine lv_iconst (v := (0 : Int32)) hx hb dX7_mayEnd_79 (by decide) ?_
          exact hret _ _ _ nb_0 hw dX7_mayEnd_80
        · have hw := hw.2 c_5
          refine lv_iconst (v := (1 : Int32)) hx hb dX7_mayEnd_75 (by decide) ?_
          refine lv_goto (tgt := 80) hx hb dX7_mayEnd_76 (by decide) ?_
          exact hret _ _ _ nb_1 hw dX7_mayEnd_80
  unfold wp_X7_mayEnd at hw
  refine lv_aload_n hx hb dX7_mayEnd_0 rfl (lv_at hl 0 rfl) ?_
  refine va_get (D := D) (ci := 7) (v := .int vZ_turn) (C := RX7) (T := TX7) (N := 27) hx hb hts inX7 hown hK hP 0 rfl rfl 10 (by decide) fl_83 (fun _ h9 => h9) rfl dX7_mayEnd_1 ?_
  refine lv_iconst (v := (3 : Int32)) hx hb dX7_mayEnd_4 (by decide) ?_
  refine lv_iadd hx hb dX7_mayEnd_5 ?_
  refine lv_bipush (v := (6 : Int32)) hx hb dX7_mayEnd_6 (by decide) ?_
  refine lv_irem hx hb dX7_mayEnd_8 (by decide) ?_
  refine lv_istore_n (lv' := [(3, .int ((vZ_turn + (3 : Int32)) - (vZ_turn + (3 : Int32)) / (6 : Int32) * (6 : Int32))), (0, .ref (ad 28)), (1, .int x1), (2, .int x2)]) hx hb dX7_mayEnd_9 rfl hl (by decide) rfl (fun ls hl => ?_)
  refine lv_aload_n hx hb dX7_mayEnd_10 rfl (lv_at hl 1 rfl) ?_
  refine va_get (D := D) (ci := 7) (v := .ref (ad 31)) (C := RX7) (T := TX7) (N := 27) hx hb hts inX7 hown hK hP 0 rfl rfl 2 (by decide) fl_16 (fun _ h9 => h9) rfl dX7_mayEnd_11 ?_
  refine lv_iload_n hx hb dX7_mayEnd_14 rfl (lv_at hl 3 rfl) ?_
  obtain ⟨h_6, hw⟩ := hw
  refine va_iald hx hb hK hP 1 0 rfl rfl h_6 dX7_mayEnd_15 ?_
  refine lv_iconst (v := (-1 : Int32)) hx hb dX7_mayEnd_16 (by decide) ?_
  refine lv_icmp_eq (tgt := 43) hx hb dX7_mayEnd_17 (by decide) (fun c_7 => ?_) (fun c_7 => ?_)
  · have hw := hw.1 c_7
    refine lv_iconst (v := (1 : Int32)) hx hb dX7_mayEnd_43 (by decide) ?_
    refine lv_goto (tgt := 48) hx hb dX7_mayEnd_44 (by decide) ?_
    exact hJ48 x1 x2 ((vZ_turn + (3 : Int32)) - (vZ_turn + (3 : Int32)) / (6 : Int32) * (6 : Int32)) (1 : Int32) hw _ (lv_sub hl [1, 2, 3, 0] rfl)
  · have hw := hw.2 c_7
    refine lv_aload_n hx hb dX7_mayEnd_20 rfl (lv_at hl 1 rfl) ?_
    refine va_get (D := D) (ci := 7) (v := .ref (ad 31)) (C := RX7) (T := TX7) (N := 27) hx hb hts inX7 hown hK hP 0 rfl rfl 2 (by decide) fl_16 (fun _ h9 => h9) rfl dX7_mayEnd_21 ?_
    refine lv_iload_n hx hb dX7_mayEnd_24 rfl (lv_at hl 3 rfl) ?_
    obtain ⟨h_8, hw⟩ := hw
    refine va_iald hx hb hK hP 1 0 rfl rfl h_8 dX7_mayEnd_25 ?_
    refine lv_aload_n hx hb dX7_mayEnd_26 rfl (lv_at hl 1 rfl) ?_
    refine va_get (D := D) (ci := 7) (v := .int vZ_turn) (C := RX7) (T := TX7) (N := 27) hx hb hts inX7 hown hK hP 0 rfl rfl 10 (by decide) fl_83 (fun _ h9 => h9) rfl dX7_mayEnd_27 ?_
    refine lv_icmp_eq (tgt := 43) hx hb dX7_mayEnd_30 (by decide) (fun c_9 => ?_) (fun c_9 => ?_)
    · have hw := hw.1 c_9
      refine lv_iconst (v := (1 : Int32)) hx hb dX7_mayEnd_43 (by decide) ?_
      refine lv_goto (tgt := 48) hx hb dX7_mayEnd_44 (by decide) ?_
      exact hJ48 x1 x2 ((vZ_turn + (3 : Int32)) - (vZ_turn + (3 : Int32)) / (6 : Int32) * (6 : Int32)) (1 : Int32) hw _ (lv_sub hl [1, 2, 3, 0] rfl)
    · have hw := hw.2 c_9
      refine lv_aload_n hx hb dX7_mayEnd_33 rfl (lv_at hl 1 rfl) ?_
      refine va_get (D := D) (ci := 7) (v := .ref (ad 31)) (C := RX7) (T := TX7) (N := 27) hx hb hts inX7 hown hK hP 0 rfl rfl 2 (by decide) fl_16 (fun _ h9 => h9) rfl dX7_mayEnd_34 ?_
      refine lv_iload_n hx hb dX7_mayEnd_37 rfl (lv_at hl 3 rfl) ?_
      obtain ⟨h_10, hw⟩ := hw
      refine va_iald hx hb hK hP 1 0 rfl rfl h_10 dX7_mayEnd_38 ?_
      refine lv_iload_n hx hb dX7_mayEnd_39 rfl (lv_at hl 0 rfl) ?_
      refine lv_icmp_ne (tgt := 47) hx hb dX7_mayEnd_40 (by decide) (fun c_11 => ?_) (fun c_11 => ?_)
      · have hw := hw.1 c_11
        refine lv_iconst (v := (0 : Int32)) hx hb dX7_mayEnd_47 (by decide) ?_
        exact hJ48 x1 x2 ((vZ_turn + (3 : Int32)) - (vZ_turn + (3 : Int32)) / (6 : Int32) * (6 : Int32)) (0 : Int32) hw _ (lv_sub hl [1, 2, 3, 0] rfl)
      · have hw := hw.2 c_11
        refine lv_iconst (v := (1 : Int32)) hx hb dX7_mayEnd_43 (by decide) ?_
        refine lv_goto (tgt := 48) hx hb dX7_mayEnd_44 (by decide) ?_
        exact hJ48 x1 x2 ((vZ_turn + (3 : Int32)) - (vZ_turn + (3 : Int32)) / (6 : Int32) * (6 : Int32)) (1 : Int32) hw _ (lv_sub hl [1, 2, 3, 0] rfl)
set_option maxHeartbeats 4000000 in
set_option maxRecDepth 100000 in
theorem c_X7_mayEnd (l : Launch) (D : va_G) (ad : Nat → Nat) (cs : Nat → ClassId) (sz : Nat) (vZ_players vZ_fill vZ_patience vZ_turn vZ_made vZ_out vZ_finishers vZ_thrown : Int32) (vZ_camp : Nat → Int32) (x1 x2 : Int32) (Q : Int32 → Prop) (hw : wp_X7_mayEnd vZ_players vZ_fill vZ_patience vZ_turn vZ_made vZ_out vZ_finishers vZ_thrown vZ_camp x1 x2 Q) :
  Met l yX7_mayEnd wsX7_mayEnd rm_X7_mayEnd (va_Pc [.ref (ad 28), .int x1, .int x2] (PX D (cl_X7_mayEnd ad cs vZ_players vZ_fill vZ_patience vZ_turn vZ_made vZ_out vZ_finishers vZ_thrown vZ_camp) (ty_X7_mayEnd cs) sz)) (vp_Si Q) 0 0 (fun _ => False) := by
  refine Met.ofW (cc := cX7_mayEnd) (maxL := 5) (ret := (some .boolean)) (by decide) rfl ?_
  intro p e s m args below meth c s₁ B hml hv
  obtain ⟨rfl, hsz, hP, hK, hD0, hN⟩ := hv
  subst hsz
  have hl := lv_entry ([.ref (ad 28), .int x1, .int x2]) (n := 5) (Nat.le_of_ble_eq_true rfl)
  rw [lg_entry_eq]
  have hx := B.exec
  have hb := B.bytes
  have hr := B.returns
  exact b_X7_mayEnd l D ad cs vZ_players vZ_fill vZ_patience vZ_turn vZ_made vZ_out vZ_finishers vZ_thrown vZ_camp x1 x2 Q hx hb hml (findClass_of_methodNamed B.named) (atoms_spec (ws := wsX7_mayEnd) B.pre) hN hP hK hD0.self (fun q h => Or.inr h) hl (A := va_A (cl_X7_mayEnd ad cs vZ_players vZ_fill vZ_patience vZ_turn vZ_made vZ_out vZ_finishers vZ_thrown vZ_camp) s.heap.size) (fun r pc ls hn hq hd => W.zret (v := r) hx hb hr hn (fun t ht hW => ⟨r, rfl, hq, ht⟩) (fun _ h => nomatch h) hd) hw
abbrev rm_X7_endsOf : Room := { frames := 2, cells := 0, slots := 0, locals := 52 }
abbrev cl_X7_endsOf (ad : Nat → Nat) (cs : Nat → ClassId) (vZ_players vZ_fill vZ_patience vZ_turn vZ_made vZ_out vZ_finishers vZ_thrown : Int32) (vZ_camp vZ_next vZ_far vZ_board vZ_level vZ_queue vZ_isEnd : Nat → Int32) : va_W := [((ad 28), .inr (7, [.ref (ad 29), .ref (ad 30), .ref (ad 31), .ref (ad 32), .ref (ad 33), .ref (ad 34), .int vZ_players, .int vZ_fill, .int vZ_patience, .ref (ad 35), .int vZ_turn, .int vZ_made, .int vZ_out, .ref (ad 36), .int vZ_finishers, .ref (ad 37), .ref (ad 38), .ref (ad 39), .ref (ad 40), .ref (ad 41), .ref (ad 42), .ref (ad 43), .ref (ad 44), .ref (ad 45), .ref (ad 46), .ref (ad 47), .int vZ_thrown])), ((ad 31), .inl ((cs 31), 121, .inl vZ_camp)), ((ad 32), .inl ((cs 32), 726, .inl vZ_next)), ((ad 33), .inl ((cs 33), 14641, .inl vZ_far)), ((ad 35), .inl ((cs 35), 121, .inl vZ_board)), ((ad 43), .inl ((cs 43), 121, .inl vZ_level)), ((ad 44), .inl ((cs 44), 121, .inl vZ_queue)), ((ad 45), .inl ((cs 45), 121, .inl vZ_isEnd))]
abbrev ty_X7_endsOf (cs : Nat → ClassId) : List (ClassId × FieldType) := [((cs 31), .int), ((cs 32), .int), ((cs 33), .int), ((cs 35), .int), ((cs 43), .int), ((cs 44), .int), ((cs 45), .boolean)]
def wJ_X7_endsOf_104 (vZ_isEnd : Nat → Int32) (x2 x4 t1 t2 : Int32) (P38 : (Nat → Int32) → Int32 → Int32 → Prop) : Prop :=
 (vp_in t1 121 ∧
 (vp_in x4 121 ∧
 ((((upd vZ_isEnd t1.toNatClampNeg (vp_nar .boolean t2)) x4.toNatClampNeg) = 0 → P38 (upd vZ_isEnd t1.toNatClampNeg (vp_nar .boolean t2)) (x2 + (0 : Int32)) (x4 + (1 : Int32))) ∧
 (¬ ((upd vZ_isEnd t1.toNatClampNeg (vp_nar .boolean t2)) x4.toNatClampNeg) = 0 → P38 (upd vZ_isEnd t1.toNatClampNeg (vp_nar .boolean t2)) (x2 + (1 : Int32)) (x4 + (1 : Int32))))))
def wJ_X7_endsOf_89 (vZ_players vZ_fill vZ_patience vZ_turn vZ_made vZ_out vZ_finishers vZ_thrown : Int32) (vZ_camp vZ_isEnd : Nat → Int32) (x1 x2 x4 t1 : Int32) (P38 : (Nat → Int32) → Int32 → Int32 → Prop) : Prop :=
 wp_X7_mayEnd vZ_players vZ_fill vZ_patience vZ_turn vZ_made vZ_out vZ_finishers vZ_thrown vZ_camp x1 x4 (fun r_4 =>
 ((r_4 = 0 → wJ_X7_endsOf_104 vZ_isEnd x2 x4 t1 (0 : Int32) P38) ∧
 (¬ r_4 = 0 → wJ_X7_endsOf_104 vZ_isEnd x2 x4 t1 (1 : Int32) P38)))
def wb_X7_endsOf_38 (vZ_players vZ_fill vZ_patience vZ_turn vZ_made vZ_out vZ_finishers vZ_thrown : Int32) (vZ_camp vZ_far vZ_board vZ_level : Nat → Int32) (x1 x3 : Int32) (K38 : (Nat → Int32) → Int32 → Prop) (P38 : (Nat → Int32) → Int32 → Int32 → Prop) (vZ_isEnd : Nat → Int32) (x2 x4 : Int32) : Prop :=
 (((121 : Int32) ≤ x4 → K38 vZ_isEnd x2) ∧
 (¬ (121 : Int32) ≤ x4 → ((x3 = 0 → wJ_X7_endsOf_104 vZ_isEnd x2 x4 x4 (0 : Int32) P38) ∧
 (¬ x3 = 0 → (vp_in x4 121 ∧
 ((¬ (vZ_board x4.toNatClampNeg) = (-1 : Int32) → wJ_X7_endsOf_104 vZ_isEnd x2 x4 x4 (0 : Int32) P38) ∧
 ((vZ_board x4.toNatClampNeg) = (-1 : Int32) → wp_X7_isNext vZ_players vZ_fill vZ_patience vZ_turn vZ_made vZ_out vZ_finishers vZ_thrown vZ_far x1 x4 (fun r_10 =>
 ((¬ r_10 = 0 → wJ_X7_endsOf_89 vZ_players vZ_fill vZ_patience vZ_turn vZ_made vZ_out vZ_finishers vZ_thrown vZ_camp vZ_isEnd x1 x2 x4 x4 P38) ∧
 (r_10 = 0 → (vp_in x4 121 ∧
 (((1000 : Int32) ≤ (vZ_level x4.toNatClampNeg) → wJ_X7_endsOf_104 vZ_isEnd x2 x4 x4 (0 : Int32) P38) ∧
 (¬ (1000 : Int32) ≤ (vZ_level x4.toNatClampNeg) → wJ_X7_endsOf_89 vZ_players vZ_fill vZ_patience vZ_turn vZ_made vZ_out vZ_finishers vZ_thrown vZ_camp vZ_isEnd x1 x2 x4 x4 P38)))))))))))))
def wl_X7_endsOf_38 (vZ_players vZ_fill vZ_patience vZ_turn vZ_made vZ_out vZ_finishers vZ_thrown : Int32) (vZ_camp vZ_far vZ_board vZ_level : Nat → Int32) (x1 x3 : Int32) (K38 : (Nat → Int32) → Int32 → Prop) (vZ_isEnd : Nat → Int32) (x2 x4 : Int32) : Prop := ∀ P38 : (Nat → Int32) → Int32 → Int32 → Prop, (∀ (vZ_isEnd : Nat → Int32) (x2 x4 : Int32), wb_X7_endsOf_38 vZ_players vZ_fill vZ_patience vZ_turn vZ_made vZ_out vZ_finishers vZ_thrown vZ_camp vZ_far vZ_board vZ_level x1 x3 K38 P38 vZ_isEnd x2 x4 → P38 vZ_isEnd x2 x4) → P38 vZ_isEnd x2 x4
def wJ_X7_endsOf_28 (vZ_players vZ_fill vZ_patience vZ_turn vZ_made vZ_out vZ_finishers vZ_thrown : Int32) (vZ_camp vZ_next vZ_far vZ_board vZ_level vZ_queue vZ_isEnd : Nat → Int32) (x1 x2 t0 : Int32) (Q : Int32 → (Nat → Int32) → (Nat → Int32) → (Nat → Int32) → Prop) : Prop :=
 wp_X7_hopsFrom vZ_players vZ_fill vZ_patience vZ_turn vZ_made vZ_out vZ_finishers vZ_thrown vZ_next vZ_board vZ_level vZ_queue x1 x1 (fun vZ_level_14 vZ_queue_15 =>
 wl_X7_endsOf_38 vZ_players vZ_fill vZ_patience vZ_turn vZ_made vZ_out vZ_finishers vZ_thrown vZ_camp vZ_far vZ_board vZ_level_14 x1 t0 (fun vZ_isEnd_16 x2_17 => Q x2_17 vZ_level_14 vZ_queue_15 vZ_isEnd_16) vZ_isEnd x2 (0 : Int32))
def wp_X7_endsOf (vZ_players vZ_fill vZ_patience vZ_turn vZ_made vZ_out vZ_finishers vZ_thrown : Int32) (vZ_camp vZ_next vZ_far vZ_board vZ_level vZ_queue vZ_isEnd : Nat → Int32) (x1 : Int32) (Q : Int32 → (Nat → Int32) → (Nat → Int32) → (Nat → Int32) → Prop) : Prop :=
 ((vZ_turn = (-1 : Int32) → wJ_X7_endsOf_28 vZ_players vZ_fill vZ_patience vZ_turn vZ_made vZ_out vZ_finishers vZ_thrown vZ_camp vZ_next vZ_far vZ_board vZ_level vZ_queue vZ_isEnd x1 (0 : Int32) (0 : Int32) Q) ∧
 (¬ vZ_turn = (-1 : Int32) → (vp_in x1 121 ∧
 ((¬ (vZ_board x1.toNatClampNeg) = vZ_turn → wJ_X7_endsOf_28 vZ_players vZ_fill vZ_patience vZ_turn vZ_made vZ_out vZ_finishers vZ_thrown vZ_camp vZ_next vZ_far vZ_board vZ_level vZ_queue vZ_isEnd x1 (0 : Int32) (0 : Int32) Q) ∧
 ((vZ_board x1.toNatClampNeg) = vZ_turn → wJ_X7_endsOf_28 vZ_players vZ_fill vZ_patience vZ_turn vZ_made vZ_out vZ_finishers vZ_thrown vZ_camp vZ_next vZ_far vZ_board vZ_level vZ_queue vZ_isEnd x1 (0 : Int32) (1 : Int32) Q)))))
set_option maxHeartbeats 4000000 in
set_option maxRecDepth 100000 in
theorem b_X7_endsOf {p : Program} {e : Env} {s : State} {m : MethodId} {args : Array Value} {below : List Frame} {meth : Method} {c : Code} {QQ : State → Prop} {A : Nat → Prop} {ls : Array Slot} (l : Launch) (D : va_G) (ad : Nat → Nat) (cs : Nat → ClassId) (vZ_players vZ_fill vZ_patience vZ_turn vZ_made vZ_out vZ_finishers vZ_thrown : Int32) (vZ_camp vZ_next vZ_far vZ_board vZ_level vZ_queue vZ_isEnd : Nat → Int32) (x1 : Int32) (Q : Int32 → (Nat → Int32) → (Nat → Int32) → (Nat → Int32) → Prop) (hx : p.tables.exec = Jvm.exec) (hb : c.code = cX7_endsOf) (hml : c.maxLocals = 5) (hown : s.vm.findClass RX7 = some m.cls) (hts : ∀ w ∈ wsX7_endsOf, w.before args s = true) (hN : NW s) (hP : va_P D vwCl (cl_X7_endsOf ad cs vZ_players vZ_fill vZ_patience vZ_turn vZ_made vZ_out vZ_finishers vZ_thrown vZ_camp vZ_next vZ_far vZ_board vZ_level vZ_queue vZ_isEnd) s.heap) (hK : va_K D vwCl (ty_X7_endsOf cs) s) (hD : va_D A (cl_X7_endsOf ad cs vZ_players vZ_fill vZ_patience vZ_turn vZ_made vZ_out vZ_finishers vZ_thrown vZ_camp vZ_next vZ_far vZ_board vZ_level vZ_queue vZ_isEnd)) (hA : ∀ q : Nat, s.heap.size ≤ q → A q) (hl : lv_has ls 5 [(0, .ref (ad 28)), (1, .int x1)])
  (hret : ∀ (r : Int32) (o0 : Nat → Int32) (o1 : Nat → Int32) (o2 : Nat → Int32) (H : Heap) (locs : List Loc) (pc : Nat) (ls : Array Slot), Q r o0 o1 o2 → va_P D vwCl (cl_X7_endsOf ad cs vZ_players vZ_fill vZ_patience vZ_turn vZ_made vZ_out vZ_finishers vZ_thrown vZ_camp vZ_next vZ_far vZ_board o0 o1 o2) H → va_D A (cl_X7_endsOf ad cs vZ_players vZ_fill vZ_patience vZ_turn vZ_made vZ_out vZ_finishers vZ_thrown vZ_camp vZ_next vZ_far vZ_board o0 o1 o2) → va_S A s.heap H locs → decode cX7_endsOf pc = .ok (.ireturn, 1) → W p l e rm_X7_endsOf s m args below meth c H locs 0 0 QQ (F0 m pc ls [.int r]))
  (hw : wp_X7_endsOf vZ_players vZ_fill vZ_patience vZ_turn vZ_made vZ_out vZ_finishers vZ_thrown vZ_camp vZ_next vZ_far vZ_board vZ_level vZ_queue vZ_isEnd x1 Q) :
  W p l e rm_X7_endsOf s m args below meth c s.heap [] 0 0 QQ (F0 m 0 ls []) := by
  have S0 : CallFix p m c cX7_endsOf 5 s args wsX7_endsOf RX7 := ⟨hx, hb, hml, hown, hts⟩
  have inX7 : ∀ w ∈ u_ws RX7 TX7 27, w ∈ wsX7_endsOf := by decide +kernel
  have fl_32 := hts (.fieldLink RX7 32 "HopperCourtModel" "board" "[I") (by decide +kernel)
  have fl_56 := hts (.fieldLink RX7 56 "HopperCourtModel" "level" "[I") (by decide +kernel)
  have fl_62 := hts (.fieldLink RX7 62 "HopperCourtModel" "isEnd" "[Z") (by decide +kernel)
  have fl_83 := hts (.fieldLink RX7 83 "HopperCourtModel" "turn" "I") (by decide +kernel)
  have hJ104 : ∀ (vZ_isEnd : Nat → Int32) (x2 x4 t1 t2 : Int32) (P38 : (Nat → Int32) → Int32 → Int32 → Prop) (vZ_level vZ_queue : Nat → Int32) (x1 x3 : Int32), wJ_X7_endsOf_104 vZ_isEnd x2 x4 t1 t2 P38 → (∀ (vZ_isEnd : Nat → Int32) (x2 x4 : Int32), P38 vZ_isEnd x2 x4 → ∀ (H : Heap) (locs : List Loc) (ls : Array Slot), va_P D vwCl (cl_X7_endsOf ad cs vZ_players vZ_fill vZ_patience vZ_turn vZ_made vZ_out vZ_finishers vZ_thrown vZ_camp vZ_next vZ_far vZ_board vZ_level vZ_queue vZ_isEnd) H → va_D A (cl_X7_endsOf ad cs vZ_players vZ_fill vZ_patience vZ_turn vZ_made vZ_out vZ_finishers vZ_thrown vZ_camp vZ_next vZ_far vZ_board vZ_level vZ_queue vZ_isEnd) → va_S A s.heap H locs → lv_has ls 5 [(0, .ref (ad 28)), (1, .int x1), (2, .int x2), (3, .int x3), (4, .int x4)] → W p l e rm_X7_endsOf s m args below meth c H locs 0 0 QQ (F0 m 38 ls [])) → ∀ (H : Heap) (locs : List Loc) (ls : Array Slot), va_P D vwCl (cl_X7_endsOf ad cs vZ_players vZ_fill vZ_patience vZ_turn vZ_made vZ_out vZ_finishers vZ_thrown vZ_camp vZ_next vZ_far vZ_board vZ_level vZ_queue vZ_isEnd) H → va_D A (cl_X7_endsOf ad cs vZ_players vZ_fill vZ_patience vZ_turn vZ_made vZ_out vZ_finishers vZ_thrown vZ_camp vZ_next vZ_far vZ_board vZ_level vZ_queue vZ_isEnd) → va_S A s.heap H locs → lv_has ls 5 [(0, .ref (ad 28)), (1, .int x1), (2, .int x2), (3, .int x3), (4, .int x4)] → W p l e rm_X7_endsOf s m args below meth c H locs 0 0 QQ (F0 m 104 ls [.int t2, .int t1, .ref (ad 45)]) := by
    intro vZ_isEnd x2 x4 t1 t2 P38 vZ_level vZ_queue x1 x3 hw hB38 H locs ls hP hD hS hl
    unfold wJ_X7_endsOf_104 at hw
    obtain ⟨h_1, hw⟩ := hw
    refine va_zast hx hb hK hP hD hS 7 6 rfl rfl h_1 dX7_endsOf_104 (fun H locs hP hD hS => ?_)
    have hP : va_P D vwCl (cl_X7_endsOf ad cs vZ_players vZ_fill vZ_patience vZ_turn vZ_made vZ_out vZ_finishers vZ_thrown vZ_camp vZ_next vZ_far vZ_board vZ_level vZ_queue (upd vZ_isEnd t1.toNatClampNeg (vp_nar .boolean t2))) H := hP
    have hD : va_D A (cl_X7_endsOf ad cs vZ_players vZ_fill vZ_patience vZ_turn vZ_made vZ_out vZ_finishers vZ_thrown vZ_camp vZ_next vZ_far vZ_board vZ_level vZ_queue (upd vZ_isEnd t1.toNatClampNeg (vp_nar .boolean t2))) := hD
    refine lv_iload_n hx hb dX7_endsOf_105 rfl (lv_at hl 2 rfl) ?_
    refine lv_aload_n hx hb dX7_endsOf_106 rfl (lv_at hl 0 rfl) ?_
    refine va_get (D := D) (ci := 7) (v := .ref (ad 45)) (C := RX7) (T := TX7) (N := 27) hx hb hts inX7 hown hK hP 0 rfl rfl 23 (by decide) fl_62 (fun _ h9 => h9) rfl dX7_endsOf_107 ?_
    refine lv_iload hx hb dX7_endsOf_110 (lv_at hl 4 rfl) ?_
    obtain ⟨h_2, hw⟩ := hw
    refine va_zald hx hb hK hP 7 6 rfl rfl h_2 dX7_endsOf_112 ?_
    refine lv_if_eq (tgt := 120) hx hb dX7_endsOf_113 (by decide) (fun c_3 => ?_) (fun c_3 => ?_)
    · have hw := hw.1 c_3
      refine lv_iconst (v := (0 : Int32)) hx hb dX7_endsOf_120 (by decide) ?_
      refine lv_iadd hx hb dX7_endsOf_121 ?_
      refine lv_istore_n (lv' := [(2, .int (x2 + (0 : Int32))), (0, .ref (ad 28)), (1, .int x1), (3, .int x3), (4, .int x4)]) hx hb dX7_endsOf_122 rfl hl (by decide) rfl (fun ls hl => ?_)
      refine lv_iinc (v := (x4 + (1 : Int32))) (lv' := [(4, .int (x4 + (1 : Int32))), (2, .int (x2 + (0 : Int32))), (0, .ref (ad 28)), (1, .int x1), (3, .int x3)]) hx hb dX7_endsOf_123 hl (k := 4) rfl rfl (by decide) rfl (fun ls hl => ?_)
      refine lv_goto (tgt := 38) hx hb dX7_endsOf_126 (by decide) ?_
      exact hB38 (upd vZ_isEnd t1.toNatClampNeg (vp_nar .boolean t2)) (x2 + (0 : Int32)) (x4 + (1 : Int32)) hw _ _ _ hP hD hS (lv_sub hl [2, 3, 1, 4, 0] rfl)
    · have hw := hw.2 c_3
      refine lv_iconst (v := (1 : Int32)) hx hb dX7_endsOf_116 (by decide) ?_
      refine lv_goto (tgt := 121) hx hb dX7_endsOf_117 (by decide) ?_
      refine lv_iadd hx hb dX7_endsOf_121 ?_
      refine lv_istore_n (lv' := [(2, .int (x2 + (1 : Int32))), (0, .ref (ad 28)), (1, .int x1), (3, .int x3), (4, .int x4)]) hx hb dX7_endsOf_122 rfl hl (by decide) rfl (fun ls hl => ?_)
      refine lv_iinc (v := (x4 + (1 : Int32))) (lv' := [(4, .int (x4 + (1 : Int32))), (2, .int (x2 + (1 : Int32))), (0, .ref (ad 28)), (1, .int x1), (3, .int x3)]) hx hb dX7_endsOf_123 hl (k := 4) rfl rfl (by decide) rfl (fun ls hl => ?_)
      refine lv_goto (tgt := 38) hx hb dX7_endsOf_126 (by decide) ?_
      exact hB38 (upd vZ_isEnd t1.toNatClampNeg (vp_nar .boolean t2)) (x2 + (1 : Int32)) (x4 + (1 : Int32)) hw _ _ _ hP hD hS (lv_sub hl [2, 3, 1, 4, 0] rfl)
  have hJ89 : ∀ (vZ_isEnd : Nat → Int32) (x1 x2 x4 t1 : Int32) (P38 : (Nat → Int32) → Int32 → Int32 → Prop) (vZ_level vZ_queue : Nat → Int32) (x3 : Int32), wJ_X7_endsOf_89 vZ_players vZ_fill vZ_patience vZ_turn vZ_made vZ_out vZ_finishers vZ_thrown vZ_camp vZ_isEnd x1 x2 x4 t1 P38 → (∀ (vZ_isEnd : Nat → Int32) (x2 x4 : Int32), P38 vZ_isEnd x2 x4 → ∀ (H : Heap) (locs : List Loc) (ls : Array Slot), va_P D vwCl (cl_X7_endsOf ad cs vZ_players vZ_fill vZ_patience vZ_turn vZ_made vZ_out vZ_finishers vZ_thrown vZ_camp vZ_next vZ_far vZ_board vZ_level vZ_queue vZ_isEnd) H → va_D A (cl_X7_endsOf ad cs vZ_players vZ_fill vZ_patience vZ_turn vZ_made vZ_out vZ_finishers vZ_thrown vZ_camp vZ_next vZ_far vZ_board vZ_level vZ_queue vZ_isEnd) → va_S A s.heap H locs → lv_has ls 5 [(0, .ref (ad 28)), (1, .int x1), (2, .int x2), (3, .int x3), (4, .int x4)] → W p l e rm_X7_endsOf s m args below meth c H locs 0 0 QQ (F0 m 38 ls [])) → ∀ (H : Heap) (locs : List Loc) (ls : Array Slot), va_P D vwCl (cl_X7_endsOf ad cs vZ_players vZ_fill vZ_patience vZ_turn vZ_made vZ_out vZ_finishers vZ_thrown vZ_camp vZ_next vZ_far vZ_board vZ_level vZ_queue vZ_isEnd) H → va_D A (cl_X7_endsOf ad cs vZ_players vZ_fill vZ_patience vZ_turn vZ_made vZ_out vZ_finishers vZ_thrown vZ_camp vZ_next vZ_far vZ_board vZ_level vZ_queue vZ_isEnd) → va_S A s.heap H locs → lv_has ls 5 [(0, .ref (ad 28)), (1, .int x1), (2, .int x2), (3, .int x3), (4, .int x4)] → W p l e rm_X7_endsOf s m args below meth c H locs 0 0 QQ (F0 m 89 ls [.int t1, .ref (ad 45)]) := by
    intro vZ_isEnd x1 x2 x4 t1 P38 vZ_level vZ_queue x3 hw hB38 H locs ls hP hD hS hl
    unfold wJ_X7_endsOf_89 at hw
    refine lv_aload_n hx hb dX7_endsOf_89 rfl (lv_at hl 0 rfl) ?_
    refine lv_iload_n hx hb dX7_endsOf_90 rfl (lv_at hl 1 rfl) ?_
    refine lv_iload hx hb dX7_endsOf_91 (lv_at hl 4 rfl) ?_
    refine pcV (rest := [.int t1, .ref (ad 45)]) (ci := 7) S0 (c_X7_mayEnd l D ad cs H.size vZ_players vZ_fill vZ_patience vZ_turn vZ_made vZ_out vZ_finishers vZ_thrown vZ_camp x1 x4 _ hw) (cwV 2 hts gX7_endsOf_X7_mayEnd rfl rfl rfl (by decide +kernel) ⟨Nat.le_of_ble_eq_true rfl, Nat.le_of_ble_eq_true rfl⟩) hN hK hP hD [0, 1] [0] rfl rfl rfl 0 rfl rfl rfl rfl hl.1 (Nat.le_of_ble_eq_true rfl) ⟨Nat.le_of_ble_eq_true rfl, Nat.le_of_ble_eq_true rfl⟩ dX7_endsOf_93 (fun r_4 hw => ?_)
    refine lv_if_eq (tgt := 103) hx hb dX7_endsOf_96 (by decide) (fun c_5 => ?_) (fun c_5 => ?_)
    · have hw := hw.1 c_5
      refine lv_iconst (v := (0 : Int32)) hx hb dX7_endsOf_103 (by decide) ?_
      exact hJ104 vZ_isEnd x2 x4 t1 (0 : Int32) _ _ _ _ _ hw hB38 _ _ _ hP hD hS (lv_sub hl [0, 1, 2, 3, 4] rfl)
    · have hw := hw.2 c_5
      refine lv_iconst (v := (1 : Int32)) hx hb dX7_endsOf_99 (by decide) ?_
      refine lv_goto (tgt := 104) hx hb dX7_endsOf_100 (by decide) ?_
      exact hJ104 vZ_isEnd x2 x4 t1 (1 : Int32) _ _ _ _ _ hw hB38 _ _ _ hP hD hS (lv_sub hl [0, 1, 2, 3, 4] rfl)
  have hL38 : ∀ (vZ_level : Nat → Int32) (x1 x3 : Int32) (K38 : (Nat → Int32) → Int32 → Prop) (vZ_isEnd : Nat → Int32) (x2 x4 : Int32) (vZ_queue : Nat → Int32), wl_X7_endsOf_38 vZ_players vZ_fill vZ_patience vZ_turn vZ_made vZ_out vZ_finishers vZ_thrown vZ_camp vZ_far vZ_board vZ_level x1 x3 K38 vZ_isEnd x2 x4 → (∀ (vZ_isEnd : Nat → Int32) (x2 : Int32), K38 vZ_isEnd x2 → ∀ (H : Heap) (locs : List Loc) (ls : Array Slot), va_P D vwCl (cl_X7_endsOf ad cs vZ_players vZ_fill vZ_patience vZ_turn vZ_made vZ_out vZ_finishers vZ_thrown vZ_camp vZ_next vZ_far vZ_board vZ_level vZ_queue vZ_isEnd) H → va_D A (cl_X7_endsOf ad cs vZ_players vZ_fill vZ_patience vZ_turn vZ_made vZ_out vZ_finishers vZ_thrown vZ_camp vZ_next vZ_far vZ_board vZ_level vZ_queue vZ_isEnd) → va_S A s.heap H locs → lv_has ls 5 [(2, .int x2)] → W p l e rm_X7_endsOf s m args below meth c H locs 0 0 QQ (F0 m 129 ls [])) → ∀ (H : Heap) (locs : List Loc) (ls : Array Slot), va_P D vwCl (cl_X7_endsOf ad cs vZ_players vZ_fill vZ_patience vZ_turn vZ_made vZ_out vZ_finishers vZ_thrown vZ_camp vZ_next vZ_far vZ_board vZ_level vZ_queue vZ_isEnd) H → va_D A (cl_X7_endsOf ad cs vZ_players vZ_fill vZ_patience vZ_turn vZ_made vZ_out vZ_finishers vZ_thrown vZ_camp vZ_next vZ_far vZ_board vZ_level vZ_queue vZ_isEnd) → va_S A s.heap H locs → lv_has ls 5 [(0, .ref (ad 28)), (1, .int x1), (2, .int x2), (3, .int x3), (4, .int x4)] → W p l e rm_X7_endsOf s m args below meth c H locs 0 0 QQ (F0 m 38 ls []) := by
    intro vZ_level x1 x3 K38 vZ_isEnd x2 x4 vZ_queue hw hK38
    unfold wl_X7_endsOf_38 at hw
    refine hw (fun (vZ_isEnd : Nat → Int32) (x2 x4 : Int32) => ∀ (H : Heap) (locs : List Loc) (ls : Array Slot), va_P D vwCl (cl_X7_endsOf ad cs vZ_players vZ_fill vZ_patience vZ_turn vZ_made vZ_out vZ_finishers vZ_thrown vZ_camp vZ_next vZ_far vZ_board vZ_level vZ_queue vZ_isEnd) H → va_D A (cl_X7_endsOf ad cs vZ_players vZ_fill vZ_patience vZ_turn vZ_made vZ_out vZ_finishers vZ_thrown vZ_camp vZ_next vZ_far vZ_board vZ_level vZ_queue vZ_isEnd) → va_S A s.heap H locs → lv_has ls 5 [(0, .ref (ad 28)), (1, .int x1), (2, .int x2), (3, .int x3), (4, .int x4)] → W p l e rm_X7_endsOf s m args below meth c H locs 0 0 QQ (F0 m 38 ls [])) ?_
    intro vZ_isEnd x2 x4 hw H locs ls hP hD hS hl
    unfold wb_X7_endsOf_38 at hw
    refine lv_iload hx hb dX7_endsOf_38 (lv_at hl 4 rfl) ?_
    refine lv_bipush (v := (121 : Int32)) hx hb dX7_endsOf_40 (by decide) ?_
    refine lv_icmp_ge (tgt := 129) hx hb dX7_endsOf_42 (by decide) (fun c_6 => ?_) (fun c_6 => ?_)
    · have hw := hw.1 c_6
      exact hK38 vZ_isEnd x2 hw _ _ _ hP hD hS (lv_sub hl [2] rfl)
    · have hw := hw.2 c_6
      refine lv_aload_n hx hb dX7_endsOf_45 rfl (lv_at hl 0 rfl) ?_
      refine va_get (D := D) (ci := 7) (v := .ref (ad 45)) (C := RX7) (T := TX7) (N := 27) hx hb hts inX7 hown hK hP 0 rfl rfl 23 (by decide) fl_62 (fun _ h9 => h9) rfl dX7_endsOf_46 ?_
      refine lv_iload hx hb dX7_endsOf_49 (lv_at hl 4 rfl) ?_
      refine lv_iload_n hx hb dX7_endsOf_51 rfl (lv_at hl 3 rfl) ?_
      refine lv_if_eq (tgt := 103) hx hb dX7_endsOf_52 (by decide) (fun c_7 => ?_) (fun c_7 => ?_)
      · have hw := hw.1 c_7
        refine lv_iconst (v := (0 : Int32)) hx hb dX7_endsOf_103 (by decide) ?_
        exact hJ104 vZ_isEnd x2 x4 x4 (0 : Int32) _ _ _ _ _ hw (fun _ _ _ h => h) _ _ _ hP hD hS (lv_sub hl [0, 1, 2, 3, 4] rfl)
      · have hw := hw.2 c_7
        refine lv_aload_n hx hb dX7_endsOf_55 rfl (lv_at hl 0 rfl) ?_
        refine va_get (D := D) (ci := 7) (v := .ref (ad 35)) (C := RX7) (T := TX7) (N := 27) hx hb hts inX7 hown hK hP 0 rfl rfl 9 (by decide) fl_32 (fun _ h9 => h9) rfl dX7_endsOf_56 ?_
        refine lv_iload hx hb dX7_endsOf_59 (lv_at hl 4 rfl) ?_
        obtain ⟨h_8, hw⟩ := hw
        refine va_iald hx hb hK hP 4 3 rfl rfl h_8 dX7_endsOf_61 ?_
        refine lv_iconst (v := (-1 : Int32)) hx hb dX7_endsOf_62 (by decide) ?_
        refine lv_icmp_ne (tgt := 103) hx hb dX7_endsOf_63 (by decide) (fun c_9 => ?_) (fun c_9 => ?_)
        · have hw := hw.1 c_9
          refine lv_iconst (v := (0 : Int32)) hx hb dX7_endsOf_103 (by decide) ?_
          exact hJ104 vZ_isEnd x2 x4 x4 (0 : Int32) _ _ _ _ _ hw (fun _ _ _ h => h) _ _ _ hP hD hS (lv_sub hl [0, 1, 2, 3, 4] rfl)
        · have hw := hw.2 c_9
          refine lv_aload_n hx hb dX7_endsOf_66 rfl (lv_at hl 0 rfl) ?_
          refine lv_iload_n hx hb dX7_endsOf_67 rfl (lv_at hl 1 rfl) ?_
          refine lv_iload hx hb dX7_endsOf_68 (lv_at hl 4 rfl) ?_
          refine pcV (rest := [.int x4, .ref (ad 45)]) (ci := 7) S0 (c_X7_isNext l D ad cs H.size vZ_players vZ_fill vZ_patience vZ_turn vZ_made vZ_out vZ_finishers vZ_thrown vZ_far x1 x4 _ hw) (cwV 2 hts gX7_endsOf_X7_isNext rfl rfl rfl (by decide +kernel) ⟨Nat.le_of_ble_eq_true rfl, Nat.le_of_ble_eq_true rfl⟩) hN hK hP hD [0, 3] [2] rfl rfl rfl 0 rfl rfl rfl rfl hl.1 (Nat.le_of_ble_eq_true rfl) ⟨Nat.le_of_ble_eq_true rfl, Nat.le_of_ble_eq_true rfl⟩ dX7_endsOf_70 (fun r_10 hw => ?_)
          refine lv_if_ne (tgt := 89) hx hb dX7_endsOf_73 (by decide) (fun c_11 => ?_) (fun c_11 => ?_)
          · have hw := hw.1 c_11
            exact hJ89 vZ_isEnd x1 x2 x4 x4 _ _ _ _ hw (fun _ _ _ h => h) _ _ _ hP hD hS (lv_sub hl [0, 1, 2, 3, 4] rfl)
          · have hw := hw.2 c_11
            refine lv_aload_n hx hb dX7_endsOf_76 rfl (lv_at hl 0 rfl) ?_
            refine va_get (D := D) (ci := 7) (v := .ref (ad 43)) (C := RX7) (T := TX7) (N := 27) hx hb hts inX7 hown hK hP 0 rfl rfl 21 (by decide) fl_56 (fun _ h9 => h9) rfl dX7_endsOf_77 ?_
            refine lv_iload hx hb dX7_endsOf_80 (lv_at hl 4 rfl) ?_
            obtain ⟨h_12, hw⟩ := hw
            refine va_iald hx hb hK hP 5 4 rfl rfl h_12 dX7_endsOf_82 ?_
            refine lv_sipush (v := (1000 : Int32)) hx hb dX7_endsOf_83 (by decide) ?_
            refine lv_icmp_ge (tgt := 103) hx hb dX7_endsOf_86 (by decide) (fun c_13 => ?_) (fun c_13 => ?_)
            · have hw := hw.1 c_13
              refine lv_iconst (v := (0 : Int32)) hx hb dX7_endsOf_103 (by decide) ?_
              exact hJ104 vZ_isEnd x2 x4 x4 (0 : Int32) _ _ _ _ _ hw (fun _ _ _ h => h) _ _ _ hP hD hS (lv_sub hl [0, 1, 2, 3, 4] rfl)
            · have hw := hw.2 c_13
              exact hJ89 vZ_isEnd x1 x2 x4 x4 _ _ _ _ hw (fun _ _ _ h => h) _ _ _ hP hD hS (lv_sub hl [0, 1, 2, 3, 4] rfl)
  have hJ28 : ∀ (vZ_level vZ_queue vZ_isEnd : Nat → Int32) (x1 x2 t0 : Int32), wJ_X7_endsOf_28 vZ_players vZ_fill vZ_patience vZ_turn vZ_made vZ_out vZ_finishers vZ_thrown vZ_camp vZ_next vZ_far vZ_board vZ_level vZ_queue vZ_isEnd x1 x2 t0 Q → ∀ (H : Heap) (locs : List Loc) (ls : Array Slot), va_P D vwCl (cl_X7_endsOf ad cs vZ_players vZ_fill vZ_patience vZ_turn vZ_made vZ_out vZ_finishers vZ_thrown vZ_camp vZ_next vZ_far vZ_board vZ_level vZ_queue vZ_isEnd) H → va_D A (cl_X7_endsOf ad cs vZ_players vZ_fill vZ_patience vZ_turn vZ_made vZ_out vZ_finishers vZ_thrown vZ_camp vZ_next vZ_far vZ_board vZ_level vZ_queue vZ_isEnd) → va_S A s.heap H locs → lv_has ls 5 [(0, .ref (ad 28)), (1, .int x1), (2, .int x2)] → W p l e rm_X7_endsOf s m args below meth c H locs 0 0 QQ (F0 m 28 ls [.int t0]) := by
    intro vZ_level vZ_queue vZ_isEnd x1 x2 t0 hw  H locs ls hP hD hS hl
    unfold wJ_X7_endsOf_28 at hw
    refine lv_istore_n (lv' := [(3, .int t0), (0, .ref (ad 28)), (1, .int x1), (2, .int x2)]) hx hb dX7_endsOf_28 rfl hl (by decide) rfl (fun ls hl => ?_)
    refine lv_aload_n hx hb dX7_endsOf_29 rfl (lv_at hl 1 rfl) ?_
    refine lv_iload_n hx hb dX7_endsOf_30 rfl (lv_at hl 2 rfl) ?_
    refine lv_iload_n hx hb dX7_endsOf_31 rfl (lv_at hl 2 rfl) ?_
    refine pcVv (rest := []) (wr := [((ad 31), .inl ((cs 31), 121, .inl vZ_camp)), ((ad 33), .inl ((cs 33), 14641, .inl vZ_far)), ((ad 45), .inl ((cs 45), 121, .inl vZ_isEnd))]) (ci := 7) S0 (c_X7_hopsFrom l D ad cs H.size vZ_players vZ_fill vZ_patience vZ_turn vZ_made vZ_out vZ_finishers vZ_thrown vZ_next vZ_board vZ_level vZ_queue x1 x1 _ hw) (cwV 2 hts gX7_endsOf_X7_hopsFrom rfl rfl rfl (by decide +kernel) ⟨Nat.le_of_ble_eq_true rfl, Nat.le_of_ble_eq_true rfl⟩) hN hK hP hD hS hA [0, 2, 4, 5, 6] [1, 3, 7] [1, 3, 4, 5] ⟨rfl, rfl, rfl, rfl, rfl, by decide⟩ 0 rfl rfl rfl rfl hl.1 (Nat.le_of_ble_eq_true rfl) ⟨Nat.le_of_ble_eq_true rfl, Nat.le_of_ble_eq_true rfl⟩ dX7_endsOf_32 (fun u H locs hw hP hD hS => ?_)
    obtain ⟨vZ_level_14, vZ_queue_15⟩ := u
    dsimp only at hw
    have hP : va_P D vwCl (cl_X7_endsOf ad cs vZ_players vZ_fill vZ_patience vZ_turn vZ_made vZ_out vZ_finishers vZ_thrown vZ_camp vZ_next vZ_far vZ_board vZ_level_14 vZ_queue_15 vZ_isEnd) H := hP.sub [3, 0, 4, 1, 5, 6, 7, 2] rfl
    have hD : va_D A (cl_X7_endsOf ad cs vZ_players vZ_fill vZ_patience vZ_turn vZ_made vZ_out vZ_finishers vZ_thrown vZ_camp vZ_next vZ_far vZ_board vZ_level_14 vZ_queue_15 vZ_isEnd) := hD.sub [3, 0, 4, 1, 5, 6, 7, 2] (by decide) rfl
    refine lv_iconst (v := (0 : Int32)) hx hb dX7_endsOf_35 (by decide) ?_
    refine lv_istore (lv' := [(4, .int (0 : Int32)), (3, .int t0), (0, .ref (ad 28)), (1, .int x1), (2, .int x2)]) hx hb dX7_endsOf_36 hl (by decide) rfl (fun ls hl => ?_)
    refine hL38 vZ_level_14 x1 t0 _ vZ_isEnd x2 (0 : Int32) _ hw ?_ _ _ _ hP hD hS (lv_sub hl [2, 3, 4, 1, 0] rfl)
    intro vZ_isEnd_16 x2_17 hw H locs ls hP hD hS hl
    refine lv_iload_n hx hb dX7_endsOf_129 rfl (lv_at hl 0 rfl) ?_
    exact hret _ _ _ _ _ _ _ _ hw hP hD hS dX7_endsOf_130
  obtain ⟨H, hH⟩ : ∃ H : Heap, H = s.heap := ⟨_, rfl⟩
  have hS : va_S A s.heap H [] := by rw [hH]; exact va_S.rf
  rw [← hH] at hP ⊢
  unfold wp_X7_endsOf at hw
  refine lv_iconst (v := (0 : Int32)) hx hb dX7_endsOf_0 (by decide) ?_
  refine lv_istore_n (lv' := [(2, .int (0 : Int32)), (0, .ref (ad 28)), (1, .int x1)]) hx hb dX7_endsOf_1 rfl hl (by decide) rfl (fun ls hl => ?_)
  refine lv_aload_n hx hb dX7_endsOf_2 rfl (lv_at hl 1 rfl) ?_
  refine va_get (D := D) (ci := 7) (v := .int vZ_turn) (C := RX7) (T := TX7) (N := 27) hx hb hts inX7 hown hK hP 0 rfl rfl 10 (by decide) fl_83 (fun _ h9 => h9) rfl dX7_endsOf_3 ?_
  refine lv_iconst (v := (-1 : Int32)) hx hb dX7_endsOf_6 (by decide) ?_
  refine lv_icmp_eq (tgt := 27) hx hb dX7_endsOf_7 (by decide) (fun c_18 => ?_) (fun c_18 => ?_)
  · have hw := hw.1 c_18
    refine lv_iconst (v := (0 : Int32)) hx hb dX7_endsOf_27 (by decide) ?_
    exact hJ28 vZ_level vZ_queue vZ_isEnd x1 (0 : Int32) (0 : Int32) hw _ _ _ hP hD hS (lv_sub hl [1, 2, 0] rfl)
  · have hw := hw.2 c_18
    refine lv_aload_n hx hb dX7_endsOf_10 rfl (lv_at hl 1 rfl) ?_
    refine va_get (D := D) (ci := 7) (v := .ref (ad 35)) (C := RX7) (T := TX7) (N := 27) hx hb hts inX7 hown hK hP 0 rfl rfl 9 (by decide) fl_32 (fun _ h9 => h9) rfl dX7_endsOf_11 ?_
    refine lv_iload_n hx hb dX7_endsOf_14 rfl (lv_at hl 2 rfl) ?_
    obtain ⟨h_19, hw⟩ := hw
    refine va_iald hx hb hK hP 4 3 rfl rfl h_19 dX7_endsOf_15 ?_
    refine lv_aload_n hx hb dX7_endsOf_16 rfl (lv_at hl 1 rfl) ?_
    refine va_get (D := D) (ci := 7) (v := .int vZ_turn) (C := RX7) (T := TX7) (N := 27) hx hb hts inX7 hown hK hP 0 rfl rfl 10 (by decide) fl_83 (fun _ h9 => h9) rfl dX7_endsOf_17 ?_
    refine lv_icmp_ne (tgt := 27) hx hb dX7_endsOf_20 (by decide) (fun c_20 => ?_) (fun c_20 => ?_)
    · have hw := hw.1 c_20
      refine lv_iconst (v := (0 : Int32)) hx hb dX7_endsOf_27 (by decide) ?_
      exact hJ28 vZ_level vZ_queue vZ_isEnd x1 (0 : Int32) (0 : Int32) hw _ _ _ hP hD hS (lv_sub hl [1, 2, 0] rfl)
    · have hw := hw.2 c_20
      refine lv_iconst (v := (1 : Int32)) hx hb dX7_endsOf_23 (by decide) ?_
      refine lv_goto (tgt := 28) hx hb dX7_endsOf_24 (by decide) ?_
      exact hJ28 vZ_level vZ_queue vZ_isEnd x1 (0 : Int32) (1 : Int32) hw _ _ _ hP hD hS (lv_sub hl [1, 2, 0] rfl)
set_option maxHeartbeats 4000000 in
set_option maxRecDepth 100000 in
theorem c_X7_endsOf (l : Launch) (D : va_G) (ad : Nat → Nat) (cs : Nat → ClassId) (sz : Nat) (vZ_players vZ_fill vZ_patience vZ_turn vZ_made vZ_out vZ_finishers vZ_thrown : Int32) (vZ_camp vZ_next vZ_far vZ_board vZ_level vZ_queue vZ_isEnd : Nat → Int32) (x1 : Int32) (Q : Int32 → (Nat → Int32) → (Nat → Int32) → (Nat → Int32) → Prop) (hw : wp_X7_endsOf vZ_players vZ_fill vZ_patience vZ_turn vZ_made vZ_out vZ_finishers vZ_thrown vZ_camp vZ_next vZ_far vZ_board vZ_level vZ_queue vZ_isEnd x1 Q) :
  Met l yX7_endsOf wsX7_endsOf rm_X7_endsOf (va_Pc [.ref (ad 28), .int x1] (PX D (cl_X7_endsOf ad cs vZ_players vZ_fill vZ_patience vZ_turn vZ_made vZ_out vZ_finishers vZ_thrown vZ_camp vZ_next vZ_far vZ_board vZ_level vZ_queue vZ_isEnd) (ty_X7_endsOf cs) sz)) (va_Qi (fun (r : Int32) (u : (Nat → Int32) × (Nat → Int32) × (Nat → Int32)) => Q r u.1 u.2.1 u.2.2) (fun (u : (Nat → Int32) × (Nat → Int32) × (Nat → Int32)) t => va_P D vwCl (cl_X7_endsOf ad cs vZ_players vZ_fill vZ_patience vZ_turn vZ_made vZ_out vZ_finishers vZ_thrown vZ_camp vZ_next vZ_far vZ_board u.1 u.2.1 u.2.2) t.heap ∧ va_D (va_A (cl_X7_endsOf ad cs vZ_players vZ_fill vZ_patience vZ_turn vZ_made vZ_out vZ_finishers vZ_thrown vZ_camp vZ_next vZ_far vZ_board vZ_level vZ_queue vZ_isEnd) sz) (cl_X7_endsOf ad cs vZ_players vZ_fill vZ_patience vZ_turn vZ_made vZ_out vZ_finishers vZ_thrown vZ_camp vZ_next vZ_far vZ_board u.1 u.2.1 u.2.2)) (va_A (cl_X7_endsOf ad cs vZ_players vZ_fill vZ_patience vZ_turn vZ_made vZ_out vZ_finishers vZ_thrown vZ_camp vZ_next vZ_far vZ_board vZ_level vZ_queue vZ_isEnd) sz)) 0 0 (va_A (cl_X7_endsOf ad cs vZ_players vZ_fill vZ_patience vZ_turn vZ_made vZ_out vZ_finishers vZ_thrown vZ_camp vZ_next vZ_far vZ_board vZ_level vZ_queue vZ_isEnd) sz) := by
  refine Met.ofW (cc := cX7_endsOf) (maxL := 5) (ret := (some .int)) (by decide) rfl ?_
  intro p e s m args below meth c s₁ B hml hv
  obtain ⟨rfl, hsz, hP, hK, hD0, hN⟩ := hv
  subst hsz
  have hl := lv_entry ([.ref (ad 28), .int x1]) (n := 5) (Nat.le_of_ble_eq_true rfl)
  rw [lg_entry_eq]
  have hx := B.exec
  have hb := B.bytes
  have hr := B.returns
  exact b_X7_endsOf l D ad cs vZ_players vZ_fill vZ_patience vZ_turn vZ_made vZ_out vZ_finishers vZ_thrown vZ_camp vZ_next vZ_far vZ_board vZ_level vZ_queue vZ_isEnd x1 Q hx hb hml (findClass_of_methodNamed B.named) (atoms_spec (ws := wsX7_endsOf) B.pre) hN hP hK hD0.self (fun q h => Or.inr h) hl (fun r o0 o1 o2 H locs pc ls hq hP hD hS hd => W.iret (v := r) hx hb hr (fun t ht hW => ⟨⟨r, (o0, o1, o2), rfl, hq, by rw [ht]; exact hP, hD⟩, hS.F ht⟩) hS.2.2 hd) hw
abbrev rm_X7_hopsOf : Room := { frames := 3, cells := 0, slots := 0, locals := 76 }
abbrev cl_X7_hopsOf (ad : Nat → Nat) (cs : Nat → ClassId) (vZ_players vZ_fill vZ_patience vZ_turn vZ_made vZ_out vZ_finishers vZ_thrown : Int32) (vZ_camp vZ_next vZ_far vZ_board vZ_level vZ_queue vZ_isEnd : Nat → Int32) : va_W := [((ad 28), .inr (7, [.ref (ad 29), .ref (ad 30), .ref (ad 31), .ref (ad 32), .ref (ad 33), .ref (ad 34), .int vZ_players, .int vZ_fill, .int vZ_patience, .ref (ad 35), .int vZ_turn, .int vZ_made, .int vZ_out, .ref (ad 36), .int vZ_finishers, .ref (ad 37), .ref (ad 38), .ref (ad 39), .ref (ad 40), .ref (ad 41), .ref (ad 42), .ref (ad 43), .ref (ad 44), .ref (ad 45), .ref (ad 46), .ref (ad 47), .int vZ_thrown])), ((ad 31), .inl ((cs 31), 121, .inl vZ_camp)), ((ad 32), .inl ((cs 32), 726, .inl vZ_next)), ((ad 33), .inl ((cs 33), 14641, .inl vZ_far)), ((ad 35), .inl ((cs 35), 121, .inl vZ_board)), ((ad 43), .inl ((cs 43), 121, .inl vZ_level)), ((ad 44), .inl ((cs 44), 121, .inl vZ_queue)), ((ad 45), .inl ((cs 45), 121, .inl vZ_isEnd))]
abbrev ty_X7_hopsOf (cs : Nat → ClassId) : List (ClassId × FieldType) := [((cs 31), .int), ((cs 32), .int), ((cs 33), .int), ((cs 35), .int), ((cs 43), .int), ((cs 44), .int), ((cs 45), .boolean)]
def wp_X7_hopsOf (vZ_players vZ_fill vZ_patience vZ_turn vZ_made vZ_out vZ_finishers vZ_thrown : Int32) (vZ_camp vZ_next vZ_far vZ_board vZ_level vZ_queue vZ_isEnd : Nat → Int32) (x1 x2 : Int32) (Q : Int32 → (Nat → Int32) → (Nat → Int32) → (Nat → Int32) → Prop) : Prop :=
 wp_X7_endsOf vZ_players vZ_fill vZ_patience vZ_turn vZ_made vZ_out vZ_finishers vZ_thrown vZ_camp vZ_next vZ_far vZ_board vZ_level vZ_queue vZ_isEnd x1 (fun r_1 vZ_level_2 vZ_queue_3 vZ_isEnd_4 =>
 (vp_in x2 121 ∧
 ((¬ (vZ_isEnd_4 x2.toNatClampNeg) = 0 → wp_X7_isNext vZ_players vZ_fill vZ_patience vZ_turn vZ_made vZ_out vZ_finishers vZ_thrown vZ_far x1 x2 (fun r_7 =>
 ((r_7 = 0 → (vp_in x2 121 ∧
 Q (vZ_level_2 x2.toNatClampNeg) vZ_level_2 vZ_queue_3 vZ_isEnd_4)) ∧
 (¬ r_7 = 0 → Q (0 : Int32) vZ_level_2 vZ_queue_3 vZ_isEnd_4)))) ∧
 ((vZ_isEnd_4 x2.toNatClampNeg) = 0 → Q (-1 : Int32) vZ_level_2 vZ_queue_3 vZ_isEnd_4))))
set_option maxHeartbeats 4000000 in
set_option maxRecDepth 100000 in
theorem b_X7_hopsOf {p : Program} {e : Env} {s : State} {m : MethodId} {args : Array Value} {below : List Frame} {meth : Method} {c : Code} {QQ : State → Prop} {A : Nat → Prop} {ls : Array Slot} (l : Launch) (D : va_G) (ad : Nat → Nat) (cs : Nat → ClassId) (vZ_players vZ_fill vZ_patience vZ_turn vZ_made vZ_out vZ_finishers vZ_thrown : Int32) (vZ_camp vZ_next vZ_far vZ_board vZ_level vZ_queue vZ_isEnd : Nat → Int32) (x1 x2 : Int32) (Q : Int32 → (Nat → Int32) → (Nat → Int32) → (Nat → Int32) → Prop) (hx : p.tables.exec = Jvm.exec) (hb : c.code = cX7_hopsOf) (hml : c.maxLocals = 3) (hown : s.vm.findClass RX7 = some m.cls) (hts : ∀ w ∈ wsX7_hopsOf, w.before args s = true) (hN : NW s) (hP : va_P D vwCl (cl_X7_hopsOf ad cs vZ_players vZ_fill vZ_patience vZ_turn vZ_made vZ_out vZ_finishers vZ_thrown vZ_camp vZ_next vZ_far vZ_board vZ_level vZ_queue vZ_isEnd) s.heap) (hK : va_K D vwCl (ty_X7_hopsOf cs) s) (hD : va_D A (cl_X7_hopsOf ad cs vZ_players vZ_fill vZ_patience vZ_turn vZ_made vZ_out vZ_finishers vZ_thrown vZ_camp vZ_next vZ_far vZ_board vZ_level vZ_queue vZ_isEnd)) (hA : ∀ q : Nat, s.heap.size ≤ q → A q) (hl : lv_has ls 3 [(0, .ref (ad 28)), (1, .int x1), (2, .int x2)])
  (hret : ∀ (r : Int32) (o0 : Nat → Int32) (o1 : Nat → Int32) (o2 : Nat → Int32) (H : Heap) (locs : List Loc) (pc : Nat) (ls : Array Slot), Q r o0 o1 o2 → va_P D vwCl (cl_X7_hopsOf ad cs vZ_players vZ_fill vZ_patience vZ_turn vZ_made vZ_out vZ_finishers vZ_thrown vZ_camp vZ_next vZ_far vZ_board o0 o1 o2) H → va_D A (cl_X7_hopsOf ad cs vZ_players vZ_fill vZ_patience vZ_turn vZ_made vZ_out vZ_finishers vZ_thrown vZ_camp vZ_next vZ_far vZ_board o0 o1 o2) → va_S A s.heap H locs → decode cX7_hopsOf pc = .ok (.ireturn, 1) → W p l e rm_X7_hopsOf s m args below meth c H locs 0 0 QQ (F0 m pc ls [.int r]))
  (hw : wp_X7_hopsOf vZ_players vZ_fill vZ_patience vZ_turn vZ_made vZ_out vZ_finishers vZ_thrown vZ_camp vZ_next vZ_far vZ_board vZ_level vZ_queue vZ_isEnd x1 x2 Q) :
  W p l e rm_X7_hopsOf s m args below meth c s.heap [] 0 0 QQ (F0 m 0 ls []) := by
  have S0 : CallFix p m c cX7_hopsOf 3 s args wsX7_hopsOf RX7 := ⟨hx, hb, hml, hown, hts⟩
  have inX7 : ∀ w ∈ u_ws RX7 TX7 27, w ∈ wsX7_hopsOf := by decide +kernel
  have fl_56 := hts (.fieldLink RX7 56 "HopperCourtModel" "level" "[I") (by decide +kernel)
  have fl_62 := hts (.fieldLink RX7 62 "HopperCourtModel" "isEnd" "[Z") (by decide +kernel)
  obtain ⟨H, hH⟩ : ∃ H : Heap, H = s.heap := ⟨_, rfl⟩
  have hS : va_S A s.heap H [] := by rw [hH]; exact va_S.rf
  rw [← hH] at hP ⊢
  unfold wp_X7_hopsOf at hw
  refine lv_aload_n hx hb dX7_hopsOf_0 rfl (lv_at hl 0 rfl) ?_
  refine lv_iload_n hx hb dX7_hopsOf_1 rfl (lv_at hl 1 rfl) ?_
  refine pcVi (rest := []) (wr := []) (ci := 7) S0 (c_X7_endsOf l D ad cs H.size vZ_players vZ_fill vZ_patience vZ_turn vZ_made vZ_out vZ_finishers vZ_thrown vZ_camp vZ_next vZ_far vZ_board vZ_level vZ_queue vZ_isEnd x1 _ hw) (cwV 1 hts gX7_hopsOf_X7_endsOf rfl rfl rfl (by decide +kernel) ⟨Nat.le_of_ble_eq_true rfl, Nat.le_of_ble_eq_true rfl⟩) hN hK hP hD hS hA [0, 1, 2, 3, 4, 5, 6, 7] [] [0, 1, 2, 3, 4, 5, 6] ⟨rfl, rfl, rfl, rfl, rfl, by decide⟩ 0 rfl rfl rfl rfl hl.1 (Nat.le_of_ble_eq_true rfl) ⟨Nat.le_of_ble_eq_true rfl, Nat.le_of_ble_eq_true rfl⟩ dX7_hopsOf_2 (fun r_1 u H locs hw hP hD hS => ?_)
  obtain ⟨vZ_level_2, vZ_queue_3, vZ_isEnd_4⟩ := u
  dsimp only at hw
  have hP : va_P D vwCl (cl_X7_hopsOf ad cs vZ_players vZ_fill vZ_patience vZ_turn vZ_made vZ_out vZ_finishers vZ_thrown vZ_camp vZ_next vZ_far vZ_board vZ_level_2 vZ_queue_3 vZ_isEnd_4) H := hP.sub [0, 1, 2, 3, 4, 5, 6, 7] rfl
  have hD : va_D A (cl_X7_hopsOf ad cs vZ_players vZ_fill vZ_patience vZ_turn vZ_made vZ_out vZ_finishers vZ_thrown vZ_camp vZ_next vZ_far vZ_board vZ_level_2 vZ_queue_3 vZ_isEnd_4) := hD.sub [0, 1, 2, 3, 4, 5, 6, 7] (by decide) rfl
  refine lv_pop hx hb dX7_hopsOf_5 rfl ?_
  refine lv_aload_n hx hb dX7_hopsOf_6 rfl (lv_at hl 0 rfl) ?_
  refine va_get (D := D) (ci := 7) (v := .ref (ad 45)) (C := RX7) (T := TX7) (N := 27) hx hb hts inX7 hown hK hP 0 rfl rfl 23 (by decide) fl_62 (fun _ h9 => h9) rfl dX7_hopsOf_7 ?_
  refine lv_iload_n hx hb dX7_hopsOf_10 rfl (lv_at hl 2 rfl) ?_
  obtain ⟨h_5, hw⟩ := hw
  refine va_zald hx hb hK hP 7 6 rfl rfl h_5 dX7_hopsOf_11 ?_
  refine lv_if_ne (tgt := 19) hx hb dX7_hopsOf_12 (by decide) (fun c_6 => ?_) (fun c_6 => ?_)
  · have hw := hw.1 c_6
    refine lv_aload_n hx hb dX7_hopsOf_19 rfl (lv_at hl 0 rfl) ?_
    refine lv_iload_n hx hb dX7_hopsOf_20 rfl (lv_at hl 1 rfl) ?_
    refine lv_iload_n hx hb dX7_hopsOf_21 rfl (lv_at hl 2 rfl) ?_
    refine pcV (rest := []) (ci := 7) S0 (c_X7_isNext l D ad cs H.size vZ_players vZ_fill vZ_patience vZ_turn vZ_made vZ_out vZ_finishers vZ_thrown vZ_far x1 x2 _ hw) (cwV 2 hts gX7_hopsOf_X7_isNext rfl rfl rfl (by decide +kernel) ⟨Nat.le_of_ble_eq_true rfl, Nat.le_of_ble_eq_true rfl⟩) hN hK hP hD [0, 3] [2] rfl rfl rfl 0 rfl rfl rfl rfl hl.1 (Nat.le_of_ble_eq_true rfl) ⟨Nat.le_of_ble_eq_true rfl, Nat.le_of_ble_eq_true rfl⟩ dX7_hopsOf_22 (fun r_7 hw => ?_)
    refine lv_if_eq (tgt := 32) hx hb dX7_hopsOf_25 (by decide) (fun c_8 => ?_) (fun c_8 => ?_)
    · have hw := hw.1 c_8
      refine lv_aload_n hx hb dX7_hopsOf_32 rfl (lv_at hl 0 rfl) ?_
      refine va_get (D := D) (ci := 7) (v := .ref (ad 43)) (C := RX7) (T := TX7) (N := 27) hx hb hts inX7 hown hK hP 0 rfl rfl 21 (by decide) fl_56 (fun _ h9 => h9) rfl dX7_hopsOf_33 ?_
      refine lv_iload_n hx hb dX7_hopsOf_36 rfl (lv_at hl 2 rfl) ?_
      obtain ⟨h_9, hw⟩ := hw
      refine va_iald hx hb hK hP 5 4 rfl rfl h_9 dX7_hopsOf_37 ?_
      exact hret _ _ _ _ _ _ _ _ hw hP hD hS dX7_hopsOf_38
    · have hw := hw.2 c_8
      refine lv_iconst (v := (0 : Int32)) hx hb dX7_hopsOf_28 (by decide) ?_
      refine lv_goto (tgt := 38) hx hb dX7_hopsOf_29 (by decide) ?_
      exact hret _ _ _ _ _ _ _ _ hw hP hD hS dX7_hopsOf_38
  · have hw := hw.2 c_6
    refine lv_iconst (v := (-1 : Int32)) hx hb dX7_hopsOf_15 (by decide) ?_
    refine lv_goto (tgt := 38) hx hb dX7_hopsOf_16 (by decide) ?_
    exact hret _ _ _ _ _ _ _ _ hw hP hD hS dX7_hopsOf_38
set_option maxHeartbeats 4000000 in
set_option maxRecDepth 100000 in
theorem c_X7_hopsOf (l : Launch) (D : va_G) (ad : Nat → Nat) (cs : Nat → ClassId) (sz : Nat) (vZ_players vZ_fill vZ_patience vZ_turn vZ_made vZ_out vZ_finishers vZ_thrown : Int32) (vZ_camp vZ_next vZ_far vZ_board vZ_level vZ_queue vZ_isEnd : Nat → Int32) (x1 x2 : Int32) (Q : Int32 → (Nat → Int32) → (Nat → Int32) → (Nat → Int32) → Prop) (hw : wp_X7_hopsOf vZ_players vZ_fill vZ_patience vZ_turn vZ_made vZ_out vZ_finishers vZ_thrown vZ_camp vZ_next vZ_far vZ_board vZ_level vZ_queue vZ_isEnd x1 x2 Q) :
  Met l yX7_hopsOf wsX7_hopsOf rm_X7_hopsOf (va_Pc [.ref (ad 28), .int x1, .int x2] (PX D (cl_X7_hopsOf ad cs vZ_players vZ_fill vZ_patience vZ_turn vZ_made vZ_out vZ_finishers vZ_thrown vZ_camp vZ_next vZ_far vZ_board vZ_level vZ_queue vZ_isEnd) (ty_X7_hopsOf cs) sz)) (va_Qi (fun (r : Int32) (u : (Nat → Int32) × (Nat → Int32) × (Nat → Int32)) => Q r u.1 u.2.1 u.2.2) (fun (u : (Nat → Int32) × (Nat → Int32) × (Nat → Int32)) t => va_P D vwCl (cl_X7_hopsOf ad cs vZ_players vZ_fill vZ_patience vZ_turn vZ_made vZ_out vZ_finishers vZ_thrown vZ_camp vZ_next vZ_far vZ_board u.1 u.2.1 u.2.2) t.heap ∧ va_D (va_A (cl_X7_hopsOf ad cs vZ_players vZ_fill vZ_patience vZ_turn vZ_made vZ_out vZ_finishers vZ_thrown vZ_camp vZ_next vZ_far vZ_board vZ_level vZ_queue vZ_isEnd) sz) (cl_X7_hopsOf ad cs vZ_players vZ_fill vZ_patience vZ_turn vZ_made vZ_out vZ_finishers vZ_thrown vZ_camp vZ_next vZ_far vZ_board u.1 u.2.1 u.2.2)) (va_A (cl_X7_hopsOf ad cs vZ_players vZ_fill vZ_patience vZ_turn vZ_made vZ_out vZ_finishers vZ_thrown vZ_camp vZ_next vZ_far vZ_board vZ_level vZ_queue vZ_isEnd) sz)) 0 0 (va_A (cl_X7_hopsOf ad cs vZ_players vZ_fill vZ_patience vZ_turn vZ_made vZ_out vZ_finishers vZ_thrown vZ_camp vZ_next vZ_far vZ_board vZ_level vZ_queue vZ_isEnd) sz) := by
  refine Met.ofW (cc := cX7_hopsOf) (maxL := 3) (ret := (some .int)) (by decide) rfl ?_
  intro p e s m args below meth c s₁ B hml hv
  obtain ⟨rfl, hsz, hP, hK, hD0, hN⟩ := hv
  subst hsz
  have hl := lv_entry ([.ref (ad 28), .int x1, .int x2]) (n := 3) (Nat.le_of_ble_eq_true rfl)
  rw [lg_entry_eq]
  have hx := B.exec
  have hb := B.bytes
  have hr := B.returns
  exact b_X7_hopsOf l D ad cs vZ_players vZ_fill vZ_patience vZ_turn vZ_made vZ_out vZ_finishers vZ_thrown vZ_camp vZ_next vZ_far vZ_board vZ_level vZ_queue vZ_isEnd x1 x2 Q hx hb hml (findClass_of_methodNamed B.named) (atoms_spec (ws := wsX7_hopsOf) B.pre) hN hP hK hD0.self (fun q h => Or.inr h) hl (fun r o0 o1 o2 H locs pc ls hq hP hD hS hd => W.iret (v := r) hx hb hr (fun t ht hW => ⟨⟨r, (o0, o1, o2), rfl, hq, by rw [ht]; exact hP, hD⟩, hS.F ht⟩) hS.2.2 hd) hw
abbrev rm_X7_move : Room := { frames := 4, cells := 0, slots := 0, locals := 98 }
abbrev cl_X7_move (ad : Nat → Nat) (cs : Nat → ClassId) (vZ_players vZ_fill vZ_patience vZ_turn vZ_made vZ_out vZ_finishers vZ_thrown : Int32) (vZ_camp vZ_next vZ_far vZ_cells vZ_board vZ_movesOf vZ_places vZ_movedFrom vZ_movedTo vZ_turnWas vZ_outWas vZ_finishersWas vZ_level vZ_queue vZ_isEnd : Nat → Int32) : va_W := [((ad 28), .inr (7, [.ref (ad 29), .ref (ad 30), .ref (ad 31), .ref (ad 32), .ref (ad 33), .ref (ad 34), .int vZ_players, .int vZ_fill, .int vZ_patience, .ref (ad 35), .int vZ_turn, .int vZ_made, .int vZ_out, .ref (ad 36), .int vZ_finishers, .ref (ad 37), .ref (ad 38), .ref (ad 39), .ref (ad 40), .ref (ad 41), .ref (ad 42), .ref (ad 43), .ref (ad 44), .ref (ad 45), .ref (ad 46), .ref (ad 47), .int vZ_thrown])), ((ad 31), .inl ((cs 31), 121, .inl vZ_camp)), ((ad 32), .inl ((cs 32), 726, .inl vZ_next)), ((ad 33), .inl ((cs 33), 14641, .inl vZ_far)), ((ad 34), .inl ((cs 34), 60, .inl vZ_cells)), ((ad 35), .inl ((cs 35), 121, .inl vZ_board)), ((ad 36), .inl ((cs 36), 6, .inl vZ_movesOf)), ((ad 37), .inl ((cs 37), 6, .inl vZ_places)), ((ad 38), .inl ((cs 38), 300, .inl vZ_movedFrom)), ((ad 39), .inl ((cs 39), 300, .inl vZ_movedTo)), ((ad 40), .inl ((cs 40), 300, .inl vZ_turnWas)), ((ad 41), .inl ((cs 41), 300, .inl vZ_outWas)), ((ad 42), .inl ((cs 42), 300, .inl vZ_finishersWas)), ((ad 43), .inl ((cs 43), 121, .inl vZ_level)), ((ad 44), .inl ((cs 44), 121, .inl vZ_queue)), ((ad 45), .inl ((cs 45), 121, .inl vZ_isEnd))]
abbrev ty_X7_move (cs : Nat → ClassId) : List (ClassId × FieldType) := [((cs 31), .int), ((cs 32), .int), ((cs 33), .int), ((cs 34), .int), ((cs 35), .int), ((cs 36), .int), ((cs 37), .int), ((cs 38), .int), ((cs 39), .int), ((cs 40), .int), ((cs 41), .int), ((cs 42), .int), ((cs 43), .int), ((cs 44), .int), ((cs 45), .boolean)]
def wJ_X7_move_68 (vZ_players vZ_fill vZ_patience vZ_turn vZ_made vZ_out vZ_finishers vZ_thrown : Int32) (vZ_cells vZ_board vZ_movesOf vZ_places vZ_movedFrom vZ_movedTo vZ_turnWas vZ_outWas vZ_finishersWas vZ_level vZ_queue vZ_isEnd : Nat → Int32) (x1 x2 x3 t1 : Int32) (Q : Int32 → Int32 → Int32 → Int32 → Int32 → Int32 → (Nat → Int32) → (Nat → Int32) → (Nat → Int32) → (Nat → Int32) → (Nat → Int32) → (Nat → Int32) → (Nat → Int32) → (Nat → Int32) → (Nat → Int32) → (Nat → Int32) → (Nat → Int32) → Prop) : Prop :=
 wp_X7_can vZ_players vZ_fill vZ_patience vZ_turn vZ_made vZ_out vZ_finishers vZ_thrown t1 (fun r_1 vZ_thrown_2 =>
 ((¬ r_1 = 0 → wp_X7_notes vZ_players vZ_fill vZ_patience vZ_turn vZ_made vZ_out vZ_finishers vZ_thrown_2 vZ_movesOf vZ_movedFrom vZ_movedTo vZ_turnWas vZ_outWas vZ_finishersWas x1 x2 (fun vZ_made_4 vZ_movesOf_5 vZ_movedFrom_6 vZ_movedTo_7 vZ_turnWas_8 vZ_outWas_9 vZ_finishersWas_10 =>
 (vp_in x2 121 ∧
 (vp_in x1 121 ∧
 wp_X7_finishes vZ_players vZ_fill vZ_patience vZ_turn vZ_made_4 vZ_out vZ_finishers vZ_thrown_2 vZ_cells (upd (upd vZ_board x2.toNatClampNeg vZ_turn) x1.toNatClampNeg (-1 : Int32)) vZ_places (fun vZ_finishers_13 vZ_places_14 =>
 wp_X7_turns vZ_players vZ_fill vZ_patience vZ_turn vZ_made_4 vZ_out vZ_finishers_13 vZ_thrown_2 vZ_cells (upd (upd vZ_board x2.toNatClampNeg vZ_turn) x1.toNatClampNeg (-1 : Int32)) vZ_movesOf_5 vZ_places_14 (fun vZ_turn_15 vZ_out_16 =>
 Q x3 vZ_turn_15 vZ_made_4 vZ_out_16 vZ_finishers_13 vZ_thrown_2 (upd (upd vZ_board x2.toNatClampNeg vZ_turn) x1.toNatClampNeg (-1 : Int32)) vZ_movesOf_5 vZ_places_14 vZ_movedFrom_6 vZ_movedTo_7 vZ_turnWas_8 vZ_outWas_9 vZ_finishersWas_10 vZ_level vZ_queue vZ_isEnd)))))) ∧
 (r_1 = 0 → Q (0 : Int32) vZ_turn vZ_made vZ_out vZ_finishers vZ_thrown_2 vZ_board vZ_movesOf vZ_places vZ_movedFrom vZ_movedTo vZ_turnWas vZ_outWas vZ_finishersWas vZ_level vZ_queue vZ_isEnd)))
def wJ_X7_move_42 (vZ_players vZ_fill vZ_patience vZ_turn vZ_made vZ_out vZ_finishers vZ_thrown : Int32) (vZ_camp vZ_next vZ_far vZ_cells vZ_board vZ_movesOf vZ_places vZ_movedFrom vZ_movedTo vZ_turnWas vZ_outWas vZ_finishersWas vZ_level vZ_queue vZ_isEnd : Nat → Int32) (x1 x2 t1 : Int32) (Q : Int32 → Int32 → Int32 → Int32 → Int32 → Int32 → (Nat → Int32) → (Nat → Int32) → (Nat → Int32) → (Nat → Int32) → (Nat → Int32) → (Nat → Int32) → (Nat → Int32) → (Nat → Int32) → (Nat → Int32) → (Nat → Int32) → (Nat → Int32) → Prop) : Prop :=
 wp_X7_can vZ_players vZ_fill vZ_patience vZ_turn vZ_made vZ_out vZ_finishers vZ_thrown t1 (fun r_17 vZ_thrown_18 =>
 ((¬ r_17 = 0 → wp_X7_hopsOf vZ_players vZ_fill vZ_patience vZ_turn vZ_made vZ_out vZ_finishers vZ_thrown_18 vZ_camp vZ_next vZ_far vZ_board vZ_level vZ_queue vZ_isEnd x1 x2 (fun r_20 vZ_level_21 vZ_queue_22 vZ_isEnd_23 =>
 ((¬ r_20 = (-1 : Int32) → wJ_X7_move_68 vZ_players vZ_fill vZ_patience vZ_turn vZ_made vZ_out vZ_finishers vZ_thrown_18 vZ_cells vZ_board vZ_movesOf vZ_places vZ_movedFrom vZ_movedTo vZ_turnWas vZ_outWas vZ_finishersWas vZ_level_21 vZ_queue_22 vZ_isEnd_23 x1 x2 r_20 (0 : Int32) Q) ∧
 (r_20 = (-1 : Int32) → wJ_X7_move_68 vZ_players vZ_fill vZ_patience vZ_turn vZ_made vZ_out vZ_finishers vZ_thrown_18 vZ_cells vZ_board vZ_movesOf vZ_places vZ_movedFrom vZ_movedTo vZ_turnWas vZ_outWas vZ_finishersWas vZ_level_21 vZ_queue_22 vZ_isEnd_23 x1 x2 r_20 (3 : Int32) Q)))) ∧
 (r_17 = 0 → Q (0 : Int32) vZ_turn vZ_made vZ_out vZ_finishers vZ_thrown_18 vZ_board vZ_movesOf vZ_places vZ_movedFrom vZ_movedTo vZ_turnWas vZ_outWas vZ_finishersWas vZ_level vZ_queue vZ_isEnd)))
def wp_X7_move (vZ_players vZ_fill vZ_patience vZ_turn vZ_made vZ_out vZ_finishers vZ_thrown : Int32) (vZ_camp vZ_next vZ_far vZ_cells vZ_board vZ_movesOf vZ_places vZ_movedFrom vZ_movedTo vZ_turnWas vZ_outWas vZ_finishersWas vZ_level vZ_queue vZ_isEnd : Nat → Int32) (x1 x2 : Int32) (Q : Int32 → Int32 → Int32 → Int32 → Int32 → Int32 → (Nat → Int32) → (Nat → Int32) → (Nat → Int32) → (Nat → Int32) → (Nat → Int32) → (Nat → Int32) → (Nat → Int32) → (Nat → Int32) → (Nat → Int32) → (Nat → Int32) → (Nat → Int32) → Prop) : Prop :=
 wp_X7_isCell x1 (fun r_25 =>
 ((r_25 = 0 → wJ_X7_move_42 vZ_players vZ_fill vZ_patience vZ_turn vZ_made vZ_out vZ_finishers vZ_thrown vZ_camp vZ_next vZ_far vZ_cells vZ_board vZ_movesOf vZ_places vZ_movedFrom vZ_movedTo vZ_turnWas vZ_outWas vZ_finishersWas vZ_level vZ_queue vZ_isEnd x1 x2 (1 : Int32) Q) ∧
 (¬ r_25 = 0 → wp_X7_isCell x2 (fun r_27 =>
 ((¬ r_27 = 0 → ((vZ_turn = (-1 : Int32) → wJ_X7_move_42 vZ_players vZ_fill vZ_patience vZ_turn vZ_made vZ_out vZ_finishers vZ_thrown vZ_camp vZ_next vZ_far vZ_cells vZ_board vZ_movesOf vZ_places vZ_movedFrom vZ_movedTo vZ_turnWas vZ_outWas vZ_finishersWas vZ_level vZ_queue vZ_isEnd x1 x2 (2 : Int32) Q) ∧
 (¬ vZ_turn = (-1 : Int32) → ((¬ vZ_made = (300 : Int32) → wJ_X7_move_42 vZ_players vZ_fill vZ_patience vZ_turn vZ_made vZ_out vZ_finishers vZ_thrown vZ_camp vZ_next vZ_far vZ_cells vZ_board vZ_movesOf vZ_places vZ_movedFrom vZ_movedTo vZ_turnWas vZ_outWas vZ_finishersWas vZ_level vZ_queue vZ_isEnd x1 x2 (0 : Int32) Q) ∧
 (vZ_made = (300 : Int32) → wJ_X7_move_42 vZ_players vZ_fill vZ_patience vZ_turn vZ_made vZ_out vZ_finishers vZ_thrown vZ_camp vZ_next vZ_far vZ_cells vZ_board vZ_movesOf vZ_places vZ_movedFrom vZ_movedTo vZ_turnWas vZ_outWas vZ_finishersWas vZ_level vZ_queue vZ_isEnd x1 x2 (2 : Int32) Q))))) ∧
 (r_27 = 0 → wJ_X7_move_42 vZ_players vZ_fill vZ_patience vZ_turn vZ_made vZ_out vZ_finishers vZ_thrown vZ_camp vZ_next vZ_far vZ_cells vZ_board vZ_movesOf vZ_places vZ_movedFrom vZ_movedTo vZ_turnWas vZ_outWas vZ_finishersWas vZ_level vZ_queue vZ_isEnd x1 x2 (1 : Int32) Q))))))
set_option maxHeartbeats 4000000 in
set_option maxRecDepth 100000 in
theorem b_X7_move {p : Program} {e : Env} {s : State} {m : MethodId} {args : Array Value} {below : List Frame} {meth : Method} {c : Code} {QQ : State → Prop} {A : Nat → Prop} {ls : Array Slot} (l : Launch) (D : va_G) (ad : Nat → Nat) (cs : Nat → ClassId) (vZ_players vZ_fill vZ_patience vZ_turn vZ_made vZ_out vZ_finishers vZ_thrown : Int32) (vZ_camp vZ_next vZ_far vZ_cells vZ_board vZ_movesOf vZ_places vZ_movedFrom vZ_movedTo vZ_turnWas vZ_outWas vZ_finishersWas vZ_level vZ_queue vZ_isEnd : Nat → Int32) (x1 x2 : Int32) (Q : Int32 → Int32 → Int32 → Int32 → Int32 → Int32 → (Nat → Int32) → (Nat → Int32) → (Nat → Int32) → (Nat → Int32) → (Nat → Int32) → (Nat → Int32) → (Nat → Int32) → (Nat → Int32) → (Nat → Int32) → (Nat → Int32) → (Nat → Int32) → Prop) (hx : p.tables.exec = Jvm.exec) (hb : c.code = cX7_move) (hml : c.maxLocals = 4) (hown : s.vm.findClass RX7 = some m.cls) (hts : ∀ w ∈ wsX7_move, w.before args s = true) (hN : NW s) (hP : va_P D vwCl (cl_X7_move ad cs vZ_players vZ_fill vZ_patience vZ_turn vZ_made vZ_out vZ_finishers vZ_thrown vZ_camp vZ_next vZ_far vZ_cells vZ_board vZ_movesOf vZ_places vZ_movedFrom vZ_movedTo vZ_turnWas vZ_outWas vZ_finishersWas vZ_level vZ_queue vZ_isEnd) s.heap) (hK : va_K D vwCl (ty_X7_move cs) s) (hD : va_D A (cl_X7_move ad cs vZ_players vZ_fill vZ_patience vZ_turn vZ_made vZ_out vZ_finishers vZ_thrown vZ_camp vZ_next vZ_far vZ_cells vZ_board vZ_movesOf vZ_places vZ_movedFrom vZ_movedTo vZ_turnWas vZ_outWas vZ_finishersWas vZ_level vZ_queue vZ_isEnd)) (hA : ∀ q : Nat, s.heap.size ≤ q → A q) (hl : lv_has ls 4 [(0, .ref (ad 28)), (1, .int x1), (2, .int x2)])
  (hret : ∀ (r : Int32) (o0 : Int32) (o1 : Int32) (o2 : Int32) (o3 : Int32) (o4 : Int32) (o5 : Nat → Int32) (o6 : Nat → Int32) (o7 : Nat → Int32) (o8 : Nat → Int32) (o9 : Nat → Int32) (o10 : Nat → Int32) (o11 : Nat → Int32) (o12 : Nat → Int32) (o13 : Nat → Int32) (o14 : Nat → Int32) (o15 : Nat → Int32) (H : Heap) (locs : List Loc) (pc : Nat) (ls : Array Slot), Q r o0 o1 o2 o3 o4 o5 o6 o7 o8 o9 o10 o11 o12 o13 o14 o15 → va_P D vwCl (cl_X7_move ad cs vZ_players vZ_fill vZ_patience o0 o1 o2 o3 o4 vZ_camp vZ_next vZ_far vZ_cells o5 o6 o7 o8 o9 o10 o11 o12 o13 o14 o15) H → va_D A (cl_X7_move ad cs vZ_players vZ_fill vZ_patience o0 o1 o2 o3 o4 vZ_camp vZ_next vZ_far vZ_cells o5 o6 o7 o8 o9 o10 o11 o12 o13 o14 o15) → va_S A s.heap H locs → decode cX7_move pc = .ok (.ireturn, 1) → W p l e rm_X7_move s m args below meth c H locs 0 0 QQ (F0 m pc ls [.int r]))
  (hw : wp_X7_move vZ_players vZ_fill vZ_patience vZ_turn vZ_made vZ_out vZ_finishers vZ_thrown vZ_camp vZ_next vZ_far vZ_cells vZ_board vZ_movesOf vZ_places vZ_movedFrom vZ_movedTo vZ_turnWas vZ_outWas vZ_finishersWas vZ_level vZ_queue vZ_isEnd x1 x2 Q) :
  W p l e rm_X7_move s m args below meth c s.heap [] 0 0 QQ (F0 m 0 ls []) := by
  have S0 : CallFix p m c cX7_move 4 s args wsX7_move RX7 := ⟨hx, hb, hml, hown, hts⟩
  have inX7 : ∀ w ∈ u_ws RX7 TX7 27, w ∈ wsX7_move := by decide +kernel
  have fl_103 := hts (.fieldLink RX7 103 "HopperCourtModel" "made" "I") (by decide +kernel)
  have fl_32 := hts (.fieldLink RX7 32 "HopperCourtModel" "board" "[I") (by decide +kernel)
  have fl_83 := hts (.fieldLink RX7 83 "HopperCourtModel" "turn" "I") (by decide +kernel)
  have hJ68 : ∀ (vZ_turn vZ_made vZ_out vZ_finishers vZ_thrown : Int32) (vZ_board vZ_movesOf vZ_places vZ_movedFrom vZ_movedTo vZ_turnWas vZ_outWas vZ_finishersWas vZ_level vZ_queue vZ_isEnd : Nat → Int32) (x1 x2 x3 t1 : Int32), wJ_X7_move_68 vZ_players vZ_fill vZ_patience vZ_turn vZ_made vZ_out vZ_finishers vZ_thrown vZ_cells vZ_board vZ_movesOf vZ_places vZ_movedFrom vZ_movedTo vZ_turnWas vZ_outWas vZ_finishersWas vZ_level vZ_queue vZ_isEnd x1 x2 x3 t1 Q → ∀ (H : Heap) (locs : List Loc) (ls : Array Slot), va_P D vwCl (cl_X7_move ad cs vZ_players vZ_fill vZ_patience vZ_turn vZ_made vZ_out vZ_finishers vZ_thrown vZ_camp vZ_next vZ_far vZ_cells vZ_board vZ_movesOf vZ_places vZ_movedFrom vZ_movedTo vZ_turnWas vZ_outWas vZ_finishersWas vZ_level vZ_queue vZ_isEnd) H → va_D A (cl_X7_move ad cs vZ_players vZ_fill vZ_patience vZ_turn vZ_made vZ_out vZ_finishers vZ_thrown vZ_camp vZ_next vZ_far vZ_cells vZ_board vZ_movesOf vZ_places vZ_movedFrom vZ_movedTo vZ_turnWas vZ_outWas vZ_finishersWas vZ_level vZ_queue vZ_isEnd) → va_S A s.heap H locs → lv_has ls 4 [(0, .ref (ad 28)), (1, .int x1), (2, .int x2), (3, .int x3)] → W p l e rm_X7_move s m args below meth c H locs 0 0 QQ (F0 m 68 ls [.int t1, .ref (ad 28)]) := by
    intro vZ_turn vZ_made vZ_out vZ_finishers vZ_thrown vZ_board vZ_movesOf vZ_places vZ_movedFrom vZ_movedTo vZ_turnWas vZ_outWas vZ_finishersWas vZ_level vZ_queue vZ_isEnd x1 x2 x3 t1 hw  H locs ls hP hD hS hl
    unfold wJ_X7_move_68 at hw
    refine pcVi (rest := []) (wr := [((ad 31), .inl ((cs 31), 121, .inl vZ_camp)), ((ad 32), .inl ((cs 32), 726, .inl vZ_next)), ((ad 33), .inl ((cs 33), 14641, .inl vZ_far)), ((ad 34), .inl ((cs 34), 60, .inl vZ_cells)), ((ad 35), .inl ((cs 35), 121, .inl vZ_board)), ((ad 36), .inl ((cs 36), 6, .inl vZ_movesOf)), ((ad 37), .inl ((cs 37), 6, .inl vZ_places)), ((ad 38), .inl ((cs 38), 300, .inl vZ_movedFrom)), ((ad 39), .inl ((cs 39), 300, .inl vZ_movedTo)), ((ad 40), .inl ((cs 40), 300, .inl vZ_turnWas)), ((ad 41), .inl ((cs 41), 300, .inl vZ_outWas)), ((ad 42), .inl ((cs 42), 300, .inl vZ_finishersWas)), ((ad 43), .inl ((cs 43), 121, .inl vZ_level)), ((ad 44), .inl ((cs 44), 121, .inl vZ_queue)), ((ad 45), .inl ((cs 45), 121, .inl vZ_isEnd))]) (ci := 7) S0 (c_X7_can l D ad cs H.size vZ_players vZ_fill vZ_patience vZ_turn vZ_made vZ_out vZ_finishers vZ_thrown t1 _ hw) (cwV 1 hts gX7_move_X7_can rfl rfl rfl (by decide +kernel) ⟨Nat.le_of_ble_eq_true rfl, Nat.le_of_ble_eq_true rfl⟩) hN hK hP hD hS hA [0] [1, 2, 3, 4, 5, 6, 7, 8, 9, 10, 11, 12, 13, 14, 15] [] ⟨rfl, rfl, rfl, rfl, rfl, by decide⟩ 0 rfl rfl rfl rfl hl.1 (Nat.le_of_ble_eq_true rfl) ⟨Nat.le_of_ble_eq_true rfl, Nat.le_of_ble_eq_true rfl⟩ dX7_move_68 (fun r_1 u H locs hw hP hD hS => ?_)
    obtain ⟨vZ_thrown_2, rfl⟩ : ∃ z, z = u := ⟨_, rfl⟩
    have hP : va_P D vwCl (cl_X7_move ad cs vZ_players vZ_fill vZ_patience vZ_turn vZ_made vZ_out vZ_finishers vZ_thrown_2 vZ_camp vZ_next vZ_far vZ_cells vZ_board vZ_movesOf vZ_places vZ_movedFrom vZ_movedTo vZ_turnWas vZ_outWas vZ_finishersWas vZ_level vZ_queue vZ_isEnd) H := hP.sub [15, 0, 1, 2, 3, 4, 5, 6, 7, 8, 9, 10, 11, 12, 13, 14] rfl
    have hD : va_D A (cl_X7_move ad cs vZ_players vZ_fill vZ_patience vZ_turn vZ_made vZ_out vZ_finishers vZ_thrown_2 vZ_camp vZ_next vZ_far vZ_cells vZ_board vZ_movesOf vZ_places vZ_movedFrom vZ_movedTo vZ_turnWas vZ_outWas vZ_finishersWas vZ_level vZ_queue vZ_isEnd) := hD.sub [15, 0, 1, 2, 3, 4, 5, 6, 7, 8, 9, 10, 11, 12, 13, 14] (by decide) rfl
    refine lv_if_ne (tgt := 76) hx hb dX7_move_71 (by decide) (fun c_3 => ?_) (fun c_3 => ?_)
    · have hw := hw.1 c_3
      refine lv_aload_n hx hb dX7_move_76 rfl (lv_at hl 0 rfl) ?_
      refine lv_iload_n hx hb dX7_move_77 rfl (lv_at hl 1 rfl) ?_
      refine lv_iload_n hx hb dX7_move_78 rfl (lv_at hl 2 rfl) ?_
      refine pcVv (rest := []) (wr := [((ad 31), .inl ((cs 31), 121, .inl vZ_camp)), ((ad 32), .inl ((cs 32), 726, .inl vZ_next)), ((ad 33), .inl ((cs 33), 14641, .inl vZ_far)), ((ad 34), .inl ((cs 34), 60, .inl vZ_cells)), ((ad 35), .inl ((cs 35), 121, .inl vZ_board)), ((ad 37), .inl ((cs 37), 6, .inl vZ_places)), ((ad 43), .inl ((cs 43), 121, .inl vZ_level)), ((ad 44), .inl ((cs 44), 121, .inl vZ_queue)), ((ad 45), .inl ((cs 45), 121, .inl vZ_isEnd))]) (ci := 7) S0 (c_X7_notes l D ad cs H.size vZ_players vZ_fill vZ_patience vZ_turn vZ_made vZ_out vZ_finishers vZ_thrown_2 vZ_movesOf vZ_movedFrom vZ_movedTo vZ_turnWas vZ_outWas vZ_finishersWas x1 x2 _ hw) (cwV 2 hts gX7_move_X7_notes rfl rfl rfl (by decide +kernel) ⟨Nat.le_of_ble_eq_true rfl, Nat.le_of_ble_eq_true rfl⟩) hN hK hP hD hS hA [0, 6, 8, 9, 10, 11, 12] [1, 2, 3, 4, 5, 7, 13, 14, 15] [5, 7, 8, 9, 10, 11] ⟨rfl, rfl, rfl, rfl, rfl, by decide⟩ 0 rfl rfl rfl rfl hl.1 (Nat.le_of_ble_eq_true rfl) ⟨Nat.le_of_ble_eq_true rfl, Nat.le_of_ble_eq_true rfl⟩ dX7_move_79 (fun u H locs hw hP hD hS => ?_)
      obtain ⟨vZ_made_4, vZ_movesOf_5, vZ_movedFrom_6, vZ_movedTo_7, vZ_turnWas_8, vZ_outWas_9, vZ_finishersWas_10⟩ := u
      dsimp only at hw
      have hP : va_P D vwCl (cl_X7_move ad cs vZ_players vZ_fill vZ_patience vZ_turn vZ_made_4 vZ_out vZ_finishers vZ_thrown_2 vZ_camp vZ_next vZ_far vZ_cells vZ_board vZ_movesOf_5 vZ_places vZ_movedFrom_6 vZ_movedTo_7 vZ_turnWas_8 vZ_outWas_9 vZ_finishersWas_10 vZ_level vZ_queue vZ_isEnd) H := hP.sub [9, 0, 1, 2, 3, 4, 10, 5, 11, 12, 13, 14, 15, 6, 7, 8] rfl
      have hD : va_D A (cl_X7_move ad cs vZ_players vZ_fill vZ_patience vZ_turn vZ_made_4 vZ_out vZ_finishers vZ_thrown_2 vZ_camp vZ_next vZ_far vZ_cells vZ_board vZ_movesOf_5 vZ_places vZ_movedFrom_6 vZ_movedTo_7 vZ_turnWas_8 vZ_outWas_9 vZ_finishersWas_10 vZ_level vZ_queue vZ_isEnd) := hD.sub [9, 0, 1, 2, 3, 4, 10, 5, 11, 12, 13, 14, 15, 6, 7, 8] (by decide) rfl
      refine lv_aload_n hx hb dX7_move_82 rfl (lv_at hl 0 rfl) ?_
      refine va_get (D := D) (ci := 7) (v := .ref (ad 35)) (C := RX7) (T := TX7) (N := 27) hx hb hts inX7 hown hK hP 0 rfl rfl 9 (by decide) fl_32 (fun _ h9 => h9) rfl dX7_move_83 ?_
      refine lv_iload_n hx hb dX7_move_86 rfl (lv_at hl 2 rfl) ?_
      refine lv_aload_n hx hb dX7_move_87 rfl (lv_at hl 0 rfl) ?_
      refine va_get (D := D) (ci := 7) (v := .int vZ_turn) (C := RX7) (T := TX7) (N := 27) hx hb hts inX7 hown hK hP 0 rfl rfl 10 (by decide) fl_83 (fun _ h9 => h9) rfl dX7_move_88 ?_
      obtain ⟨h_11, hw⟩ := hw
      refine va_iast hx hb hK hP hD hS 5 4 rfl rfl h_11 dX7_move_91 (fun H locs hP hD hS => ?_)
      have hP : va_P D vwCl (cl_X7_move ad cs vZ_players vZ_fill vZ_patience vZ_turn vZ_made_4 vZ_out vZ_finishers vZ_thrown_2 vZ_camp vZ_next vZ_far vZ_cells (upd vZ_board x2.toNatClampNeg vZ_turn) vZ_movesOf_5 vZ_places vZ_movedFrom_6 vZ_movedTo_7 vZ_turnWas_8 vZ_outWas_9 vZ_finishersWas_10 vZ_level vZ_queue vZ_isEnd) H := hP
      have hD : va_D A (cl_X7_move ad cs vZ_players vZ_fill vZ_patience vZ_turn vZ_made_4 vZ_out vZ_finishers vZ_thrown_2 vZ_camp vZ_next vZ_far vZ_cells (upd vZ_board x2.toNatClampNeg vZ_turn) vZ_movesOf_5 vZ_places vZ_movedFrom_6 vZ_movedTo_7 vZ_turnWas_8 vZ_outWas_9 vZ_finishersWas_10 vZ_level vZ_queue vZ_isEnd) := hD
      refine lv_aload_n hx hb dX7_move_92 rfl (lv_at hl 0 rfl) ?_
      refine va_get (D := D) (ci := 7) (v := .ref (ad 35)) (C := RX7) (T := TX7) (N := 27) hx hb hts inX7 hown hK hP 0 rfl rfl 9 (by decide) fl_32 (fun _ h9 => h9) rfl dX7_move_93 ?_
      refine lv_iload_n hx hb dX7_move_96 rfl (lv_at hl 1 rfl) ?_
      refine lv_iconst (v := (-1 : Int32)) hx hb dX7_move_97 (by decide) ?_
      obtain ⟨h_12, hw⟩ := hw
      refine va_iast hx hb hK hP hD hS 5 4 rfl rfl h_12 dX7_move_98 (fun H locs hP hD hS => ?_)
      have hP : va_P D vwCl (cl_X7_move ad cs vZ_players vZ_fill vZ_patience vZ_turn vZ_made_4 vZ_out vZ_finishers vZ_thrown_2 vZ_camp vZ_next vZ_far vZ_cells (upd (upd vZ_board x2.toNatClampNeg vZ_turn) x1.toNatClampNeg (-1 : Int32)) vZ_movesOf_5 vZ_places vZ_movedFrom_6 vZ_movedTo_7 vZ_turnWas_8 vZ_outWas_9 vZ_finishersWas_10 vZ_level vZ_queue vZ_isEnd) H := hP
      have hD : va_D A (cl_X7_move ad cs vZ_players vZ_fill vZ_patience vZ_turn vZ_made_4 vZ_out vZ_finishers vZ_thrown_2 vZ_camp vZ_next vZ_far vZ_cells (upd (upd vZ_board x2.toNatClampNeg vZ_turn) x1.toNatClampNeg (-1 : Int32)) vZ_movesOf_5 vZ_places vZ_movedFrom_6 vZ_movedTo_7 vZ_turnWas_8 vZ_outWas_9 vZ_finishersWas_10 vZ_level vZ_queue vZ_isEnd) := hD
      refine lv_aload_n hx hb dX7_move_99 rfl (lv_at hl 0 rfl) ?_
      refine pcVv (rest := []) (wr := [((ad 31), .inl ((cs 31), 121, .inl vZ_camp)), ((ad 32), .inl ((cs 32), 726, .inl vZ_next)), ((ad 33), .inl ((cs 33), 14641, .inl vZ_far)), ((ad 36), .inl ((cs 36), 6, .inl vZ_movesOf_5)), ((ad 38), .inl ((cs 38), 300, .inl vZ_movedFrom_6)), ((ad 39), .inl ((cs 39), 300, .inl vZ_movedTo_7)), ((ad 40), .inl ((cs 40), 300, .inl vZ_turnWas_8)), ((ad 41), .inl ((cs 41), 300, .inl vZ_outWas_9)), ((ad 42), .inl ((cs 42), 300, .inl vZ_finishersWas_10)), ((ad 43), .inl ((cs 43), 121, .inl vZ_level)), ((ad 44), .inl ((cs 44), 121, .inl vZ_queue)), ((ad 45), .inl ((cs 45), 121, .inl vZ_isEnd))]) (ci := 7) S0 (c_X7_finishes l D ad cs H.size vZ_players vZ_fill vZ_patience vZ_turn vZ_made_4 vZ_out vZ_finishers vZ_thrown_2 vZ_cells (upd (upd vZ_board x2.toNatClampNeg vZ_turn) x1.toNatClampNeg (-1 : Int32)) vZ_places _ hw) (cwV 0 hts gX7_move_X7_finishes rfl rfl rfl (by decide +kernel) ⟨Nat.le_of_ble_eq_true rfl, Nat.le_of_ble_eq_true rfl⟩) hN hK hP hD hS hA [0, 4, 5, 7] [1, 2, 3, 6, 8, 9, 10, 11, 12, 13, 14, 15] [3, 4, 6] ⟨rfl, rfl, rfl, rfl, rfl, by decide⟩ 0 rfl rfl rfl rfl hl.1 (Nat.le_of_ble_eq_true rfl) ⟨Nat.le_of_ble_eq_true rfl, Nat.le_of_ble_eq_true rfl⟩ dX7_move_100 (fun u H locs hw hP hD hS => ?_)
      obtain ⟨vZ_finishers_13, vZ_places_14⟩ := u
      dsimp only at hw
      have hP : va_P D vwCl (cl_X7_move ad cs vZ_players vZ_fill vZ_patience vZ_turn vZ_made_4 vZ_out vZ_finishers_13 vZ_thrown_2 vZ_camp vZ_next vZ_far vZ_cells (upd (upd vZ_board x2.toNatClampNeg vZ_turn) x1.toNatClampNeg (-1 : Int32)) vZ_movesOf_5 vZ_places_14 vZ_movedFrom_6 vZ_movedTo_7 vZ_turnWas_8 vZ_outWas_9 vZ_finishersWas_10 vZ_level vZ_queue vZ_isEnd) H := hP.sub [12, 0, 1, 2, 13, 14, 3, 15, 4, 5, 6, 7, 8, 9, 10, 11] rfl
      have hD : va_D A (cl_X7_move ad cs vZ_players vZ_fill vZ_patience vZ_turn vZ_made_4 vZ_out vZ_finishers_13 vZ_thrown_2 vZ_camp vZ_next vZ_far vZ_cells (upd (upd vZ_board x2.toNatClampNeg vZ_turn) x1.toNatClampNeg (-1 : Int32)) vZ_movesOf_5 vZ_places_14 vZ_movedFrom_6 vZ_movedTo_7 vZ_turnWas_8 vZ_outWas_9 vZ_finishersWas_10 vZ_level vZ_queue vZ_isEnd) := hD.sub [12, 0, 1, 2, 13, 14, 3, 15, 4, 5, 6, 7, 8, 9, 10, 11] (by decide) rfl
      refine lv_aload_n hx hb dX7_move_103 rfl (lv_at hl 0 rfl) ?_
      refine pcVv (rest := []) (wr := [((ad 31), .inl ((cs 31), 121, .inl vZ_camp)), ((ad 32), .inl ((cs 32), 726, .inl vZ_next)), ((ad 33), .inl ((cs 33), 14641, .inl vZ_far)), ((ad 38), .inl ((cs 38), 300, .inl vZ_movedFrom_6)), ((ad 39), .inl ((cs 39), 300, .inl vZ_movedTo_7)), ((ad 40), .inl ((cs 40), 300, .inl vZ_turnWas_8)), ((ad 41), .inl ((cs 41), 300, .inl vZ_outWas_9)), ((ad 42), .inl ((cs 42), 300, .inl vZ_finishersWas_10)), ((ad 43), .inl ((cs 43), 121, .inl vZ_level)), ((ad 44), .inl ((cs 44), 121, .inl vZ_queue)), ((ad 45), .inl ((cs 45), 121, .inl vZ_isEnd))]) (ci := 7) S0 (c_X7_turns l D ad cs H.size vZ_players vZ_fill vZ_patience vZ_turn vZ_made_4 vZ_out vZ_finishers_13 vZ_thrown_2 vZ_cells (upd (upd vZ_board x2.toNatClampNeg vZ_turn) x1.toNatClampNeg (-1 : Int32)) vZ_movesOf_5 vZ_places_14 _ hw) (cwV 0 hts gX7_move_X7_turns rfl rfl rfl (by decide +kernel) ⟨Nat.le_of_ble_eq_true rfl, Nat.le_of_ble_eq_true rfl⟩) hN hK hP hD hS hA [0, 4, 5, 6, 7] [1, 2, 3, 8, 9, 10, 11, 12, 13, 14, 15] [3, 4, 5, 6] ⟨rfl, rfl, rfl, rfl, rfl, by decide⟩ 0 rfl rfl rfl rfl hl.1 (Nat.le_of_ble_eq_true rfl) ⟨Nat.le_of_ble_eq_true rfl, Nat.le_of_ble_eq_true rfl⟩ dX7_move_104 (fun u H locs hw hP hD hS => ?_)
      obtain ⟨vZ_turn_15, vZ_out_16⟩ := u
      dsimp only at hw
      have hP : va_P D vwCl (cl_X7_move ad cs vZ_players vZ_fill vZ_patience vZ_turn_15 vZ_made_4 vZ_out_16 vZ_finishers_13 vZ_thrown_2 vZ_camp vZ_next vZ_far vZ_cells (upd (upd vZ_board x2.toNatClampNeg vZ_turn) x1.toNatClampNeg (-1 : Int32)) vZ_movesOf_5 vZ_places_14 vZ_movedFrom_6 vZ_movedTo_7 vZ_turnWas_8 vZ_outWas_9 vZ_finishersWas_10 vZ_level vZ_queue vZ_isEnd) H := hP.sub [11, 0, 1, 2, 12, 13, 14, 15, 3, 4, 5, 6, 7, 8, 9, 10] rfl
      have hD : va_D A (cl_X7_move ad cs vZ_players vZ_fill vZ_patience vZ_turn_15 vZ_made_4 vZ_out_16 vZ_finishers_13 vZ_thrown_2 vZ_camp vZ_next vZ_far vZ_cells (upd (upd vZ_board x2.toNatClampNeg vZ_turn) x1.toNatClampNeg (-1 : Int32)) vZ_movesOf_5 vZ_places_14 vZ_movedFrom_6 vZ_movedTo_7 vZ_turnWas_8 vZ_outWas_9 vZ_finishersWas_10 vZ_level vZ_queue vZ_isEnd) := hD.sub [11, 0, 1, 2, 12, 13, 14, 15, 3, 4, 5, 6, 7, 8, 9, 10] (by decide) rfl
      refine lv_iload_n hx hb dX7_move_107 rfl (lv_at hl 3 rfl) ?_
      exact hret _ _ _ _ _ _ _ _ _ _ _ _ _ _ _ _ _ _ _ _ _ hw hP hD hS dX7_move_108
    · have hw := hw.2 c_3
      refine lv_iconst (v := (0 : Int32)) hx hb dX7_move_74 (by decide) ?_
      exact hret _ _ _ _ _ _ _ _ _ _ _ _ _ _ _ _ _ _ _ _ _ hw hP hD hS dX7_move_75
  have hJ42 : ∀ (vZ_turn vZ_made vZ_out vZ_finishers vZ_thrown : Int32) (vZ_board vZ_movesOf vZ_places vZ_movedFrom vZ_movedTo vZ_turnWas vZ_outWas vZ_finishersWas vZ_level vZ_queue vZ_isEnd : Nat → Int32) (x1 x2 t1 : Int32), wJ_X7_move_42 vZ_players vZ_fill vZ_patience vZ_turn vZ_made vZ_out vZ_finishers vZ_thrown vZ_camp vZ_next vZ_far vZ_cells vZ_board vZ_movesOf vZ_places vZ_movedFrom vZ_movedTo vZ_turnWas vZ_outWas vZ_finishersWas vZ_level vZ_queue vZ_isEnd x1 x2 t1 Q → ∀ (H : Heap) (locs : List Loc) (ls : Array Slot), va_P D vwCl (cl_X7_move ad cs vZ_players vZ_fill vZ_patience vZ_turn vZ_made vZ_out vZ_finishers vZ_thrown vZ_camp vZ_next vZ_far vZ_cells vZ_board vZ_movesOf vZ_places vZ_movedFrom vZ_movedTo vZ_turnWas vZ_outWas vZ_finishersWas vZ_level vZ_queue vZ_isEnd) H → va_D A (cl_X7_move ad cs vZ_players vZ_fill vZ_patience vZ_turn vZ_made vZ_out vZ_finishers vZ_thrown vZ_camp vZ_next vZ_far vZ_cells vZ_board vZ_movesOf vZ_places vZ_movedFrom vZ_movedTo vZ_turnWas vZ_outWas vZ_finishersWas vZ_level vZ_queue vZ_isEnd) → va_S A s.heap H locs → lv_has ls 4 [(0, .ref (ad 28)), (1, .int x1), (2, .int x2)] → W p l e rm_X7_move s m args below meth c H locs 0 0 QQ (F0 m 42 ls [.int t1, .ref (ad 28)]) := by
    intro vZ_turn vZ_made vZ_out vZ_finishers vZ_thrown vZ_board vZ_movesOf vZ_places vZ_movedFrom vZ_movedTo vZ_turnWas vZ_outWas vZ_finishersWas vZ_level vZ_queue vZ_isEnd x1 x2 t1 hw  H locs ls hP hD hS hl
    unfold wJ_X7_move_42 at hw
    refine pcVi (rest := []) (wr := [((ad 31), .inl ((cs 31), 121, .inl vZ_camp)), ((ad 32), .inl ((cs 32), 726, .inl vZ_next)), ((ad 33), .inl ((cs 33), 14641, .inl vZ_far)), ((ad 34), .inl ((cs 34), 60, .inl vZ_cells)), ((ad 35), .inl ((cs 35), 121, .inl vZ_board)), ((ad 36), .inl ((cs 36), 6, .inl vZ_movesOf)), ((ad 37), .inl ((cs 37), 6, .inl vZ_places)), ((ad 38), .inl ((cs 38), 300, .inl vZ_movedFrom)), ((ad 39), .inl ((cs 39), 300, .inl vZ_movedTo)), ((ad 40), .inl ((cs 40), 300, .inl vZ_turnWas)), ((ad 41), .inl ((cs 41), 300, .inl vZ_outWas)), ((ad 42), .inl ((cs 42), 300, .inl vZ_finishersWas)), ((ad 43), .inl ((cs 43), 121, .inl vZ_level)), ((ad 44), .inl ((cs 44), 121, .inl vZ_queue)), ((ad 45), .inl ((cs 45), 121, .inl vZ_isEnd))]) (ci := 7) S0 (c_X7_can l D ad cs H.size vZ_players vZ_fill vZ_patience vZ_turn vZ_made vZ_out vZ_finishers vZ_thrown t1 _ hw) (cwV 1 hts gX7_move_X7_can rfl rfl rfl (by decide +kernel) ⟨Nat.le_of_ble_eq_true rfl, Nat.le_of_ble_eq_true rfl⟩) hN hK hP hD hS hA [0] [1, 2, 3, 4, 5, 6, 7, 8, 9, 10, 11, 12, 13, 14, 15] [] ⟨rfl, rfl, rfl, rfl, rfl, by decide⟩ 0 rfl rfl rfl rfl hl.1 (Nat.le_of_ble_eq_true rfl) ⟨Nat.le_of_ble_eq_true rfl, Nat.le_of_ble_eq_true rfl⟩ dX7_move_42 (fun r_17 u H locs hw hP hD hS => ?_)
    obtain ⟨vZ_thrown_18, rfl⟩ : ∃ z, z = u := ⟨_, rfl⟩
    have hP : va_P D vwCl (cl_X7_move ad cs vZ_players vZ_fill vZ_patience vZ_turn vZ_made vZ_out vZ_finishers vZ_thrown_18 vZ_camp vZ_next vZ_far vZ_cells vZ_board vZ_movesOf vZ_places vZ_movedFrom vZ_movedTo vZ_turnWas vZ_outWas vZ_finishersWas vZ_level vZ_queue vZ_isEnd) H := hP.sub [15, 0, 1, 2, 3, 4, 5, 6, 7, 8, 9, 10, 11, 12, 13, 14] rfl
    have hD : va_D A (cl_X7_move ad cs vZ_players vZ_fill vZ_patience vZ_turn vZ_made vZ_out vZ_finishers vZ_thrown_18 vZ_camp vZ_next vZ_far vZ_cells vZ_board vZ_movesOf vZ_places vZ_movedFrom vZ_movedTo vZ_turnWas vZ_outWas vZ_finishersWas vZ_level vZ_queue vZ_isEnd) := hD.sub [15, 0, 1, 2, 3, 4, 5, 6, 7, 8, 9, 10, 11, 12, 13, 14] (by decide) rfl
    refine lv_if_ne (tgt := 50) hx hb dX7_move_45 (by decide) (fun c_19 => ?_) (fun c_19 => ?_)
    · have hw := hw.1 c_19
      refine lv_aload_n hx hb dX7_move_50 rfl (lv_at hl 0 rfl) ?_
      refine lv_iload_n hx hb dX7_move_51 rfl (lv_at hl 1 rfl) ?_
      refine lv_iload_n hx hb dX7_move_52 rfl (lv_at hl 2 rfl) ?_
      refine pcVi (rest := []) (wr := [((ad 34), .inl ((cs 34), 60, .inl vZ_cells)), ((ad 36), .inl ((cs 36), 6, .inl vZ_movesOf)), ((ad 37), .inl ((cs 37), 6, .inl vZ_places)), ((ad 38), .inl ((cs 38), 300, .inl vZ_movedFrom)), ((ad 39), .inl ((cs 39), 300, .inl vZ_movedTo)), ((ad 40), .inl ((cs 40), 300, .inl vZ_turnWas)), ((ad 41), .inl ((cs 41), 300, .inl vZ_outWas)), ((ad 42), .inl ((cs 42), 300, .inl vZ_finishersWas))]) (ci := 7) S0 (c_X7_hopsOf l D ad cs H.size vZ_players vZ_fill vZ_patience vZ_turn vZ_made vZ_out vZ_finishers vZ_thrown_18 vZ_camp vZ_next vZ_far vZ_board vZ_level vZ_queue vZ_isEnd x1 x2 _ hw) (cwV 2 hts gX7_move_X7_hopsOf rfl rfl rfl (by decide +kernel) ⟨Nat.le_of_ble_eq_true rfl, Nat.le_of_ble_eq_true rfl⟩) hN hK hP hD hS hA [0, 1, 2, 3, 5, 13, 14, 15] [4, 6, 7, 8, 9, 10, 11, 12] [0, 1, 2, 4, 12, 13, 14] ⟨rfl, rfl, rfl, rfl, rfl, by decide⟩ 0 rfl rfl rfl rfl hl.1 (Nat.le_of_ble_eq_true rfl) ⟨Nat.le_of_ble_eq_true rfl, Nat.le_of_ble_eq_true rfl⟩ dX7_move_53 (fun r_20 u H locs hw hP hD hS => ?_)
      obtain ⟨vZ_level_21, vZ_queue_22, vZ_isEnd_23⟩ := u
      dsimp only at hw
      have hP : va_P D vwCl (cl_X7_move ad cs vZ_players vZ_fill vZ_patience vZ_turn vZ_made vZ_out vZ_finishers vZ_thrown_18 vZ_camp vZ_next vZ_far vZ_cells vZ_board vZ_movesOf vZ_places vZ_movedFrom vZ_movedTo vZ_turnWas vZ_outWas vZ_finishersWas vZ_level_21 vZ_queue_22 vZ_isEnd_23) H := hP.sub [8, 9, 10, 11, 0, 12, 1, 2, 3, 4, 5, 6, 7, 13, 14, 15] rfl
      have hD : va_D A (cl_X7_move ad cs vZ_players vZ_fill vZ_patience vZ_turn vZ_made vZ_out vZ_finishers vZ_thrown_18 vZ_camp vZ_next vZ_far vZ_cells vZ_board vZ_movesOf vZ_places vZ_movedFrom vZ_movedTo vZ_turnWas vZ_outWas vZ_finishersWas vZ_level_21 vZ_queue_22 vZ_isEnd_23) := hD.sub [8, 9, 10, 11, 0, 12, 1, 2, 3, 4, 5, 6, 7, 13, 14, 15] (by decide) rfl
      refine lv_istore_n (lv' := [(3, .int r_20), (0, .ref (ad 28)), (1, .int x1), (2, .int x2)]) hx hb dX7_move_56 rfl hl (by decide) rfl (fun ls hl => ?_)
      refine lv_aload_n hx hb dX7_move_57 rfl (lv_at hl 1 rfl) ?_
      refine lv_iload_n hx hb dX7_move_58 rfl (lv_at hl 0 rfl) ?_
      refine lv_iconst (v := (-1 : Int32)) hx hb dX7_move_59 (by decide) ?_
      refine lv_icmp_ne (tgt := 67) hx hb dX7_move_60 (by decide) (fun c_24 => ?_) (fun c_24 => ?_)
      · have hw := hw.1 c_24
        refine lv_iconst (v := (0 : Int32)) hx hb dX7_move_67 (by decide) ?_
        exact hJ68 vZ_turn vZ_made vZ_out vZ_finishers vZ_thrown_18 vZ_board vZ_movesOf vZ_places vZ_movedFrom vZ_movedTo vZ_turnWas vZ_outWas vZ_finishersWas vZ_level_21 vZ_queue_22 vZ_isEnd_23 x1 x2 r_20 (0 : Int32) hw _ _ _ hP hD hS (lv_sub hl [1, 2, 3, 0] rfl)
      · have hw := hw.2 c_24
        refine lv_iconst (v := (3 : Int32)) hx hb dX7_move_63 (by decide) ?_
        refine lv_goto (tgt := 68) hx hb dX7_move_64 (by decide) ?_
        exact hJ68 vZ_turn vZ_made vZ_out vZ_finishers vZ_thrown_18 vZ_board vZ_movesOf vZ_places vZ_movedFrom vZ_movedTo vZ_turnWas vZ_outWas vZ_finishersWas vZ_level_21 vZ_queue_22 vZ_isEnd_23 x1 x2 r_20 (3 : Int32) hw _ _ _ hP hD hS (lv_sub hl [1, 2, 3, 0] rfl)
    · have hw := hw.2 c_19
      refine lv_iconst (v := (0 : Int32)) hx hb dX7_move_48 (by decide) ?_
      exact hret _ _ _ _ _ _ _ _ _ _ _ _ _ _ _ _ _ _ _ _ _ hw hP hD hS dX7_move_49
  obtain ⟨H, hH⟩ : ∃ H : Heap, H = s.heap := ⟨_, rfl⟩
  have hS : va_S A s.heap H [] := by rw [hH]; exact va_S.rf
  rw [← hH] at hP ⊢
  unfold wp_X7_move at hw
  refine lv_aload_n hx hb dX7_move_0 rfl (lv_at hl 0 rfl) ?_
  refine lv_iload_n hx hb dX7_move_1 rfl (lv_at hl 1 rfl) ?_
  refine pcS (rest := [.ref (ad 28)]) S0 (c_X7_isCell l D ad cs H.size x1 _ hw) (va_cwS 1 hts gX7_move_X7_isCell rfl rfl rfl (by decide +kernel) ⟨Nat.le_of_ble_eq_true rfl, Nat.le_of_ble_eq_true rfl⟩) hN hK hP hD [] [] rfl rfl rfl rfl rfl hl.1 (Nat.le_of_ble_eq_true rfl) ⟨Nat.le_of_ble_eq_true rfl, Nat.le_of_ble_eq_true rfl⟩ dX7_move_2 (fun r_25 hw => ?_)
  refine lv_if_eq (tgt := 15) hx hb dX7_move_5 (by decide) (fun c_26 => ?_) (fun c_26 => ?_)
  · have hw := hw.1 c_26
    refine lv_iconst (v := (1 : Int32)) hx hb dX7_move_15 (by decide) ?_
    refine lv_goto (tgt := 42) hx hb dX7_move_16 (by decide) ?_
    exact hJ42 vZ_turn vZ_made vZ_out vZ_finishers vZ_thrown vZ_board vZ_movesOf vZ_places vZ_movedFrom vZ_movedTo vZ_turnWas vZ_outWas vZ_finishersWas vZ_level vZ_queue vZ_isEnd x1 x2 (1 : Int32) hw _ _ _ hP hD hS (lv_sub hl [0, 1, 2] rfl)
  · have hw := hw.2 c_26
    refine lv_iload_n hx hb dX7_move_8 rfl (lv_at hl 2 rfl) ?_
    refine pcS (rest := [.ref (ad 28)]) S0 (c_X7_isCell l D ad cs H.size x2 _ hw) (va_cwS 1 hts gX7_move_X7_isCell rfl rfl rfl (by decide +kernel) ⟨Nat.le_of_ble_eq_true rfl, Nat.le_of_ble_eq_true rfl⟩) hN hK hP hD [] [] rfl rfl rfl rfl rfl hl.1 (Nat.le_of_ble_eq_true rfl) ⟨Nat.le_of_ble_eq_true rfl, Nat.le_of_ble_eq_true rfl⟩ dX7_move_9 (fun r_27 hw => ?_)
    refine lv_if_ne (tgt := 19) hx hb dX7_move_12 (by decide) (fun c_28 => ?_) (fun c_28 => ?_)
    · have hw := hw.1 c_28
      refine lv_aload_n hx hb dX7_move_19 rfl (lv_at hl 0 rfl) ?_
      refine va_get (D := D) (ci := 7) (v := .int vZ_turn) (C := RX7) (T := TX7) (N := 27) hx hb hts inX7 hown hK hP 0 rfl rfl 10 (by decide) fl_83 (fun _ h9 => h9) rfl dX7_move_20 ?_
      refine lv_iconst (v := (-1 : Int32)) hx hb dX7_move_23 (by decide) ?_
      refine lv_icmp_eq (tgt := 37) hx hb dX7_move_24 (by decide) (fun c_29 => ?_) (fun c_29 => ?_)
      · have hw := hw.1 c_29
        refine lv_iconst (v := (2 : Int32)) hx hb dX7_move_37 (by decide) ?_
        refine lv_goto (tgt := 42) hx hb dX7_move_38 (by decide) ?_
        exact hJ42 vZ_turn vZ_made vZ_out vZ_finishers vZ_thrown vZ_board vZ_movesOf vZ_places vZ_movedFrom vZ_movedTo vZ_turnWas vZ_outWas vZ_finishersWas vZ_level vZ_queue vZ_isEnd x1 x2 (2 : Int32) hw _ _ _ hP hD hS (lv_sub hl [0, 1, 2] rfl)
      · have hw := hw.2 c_29
        refine lv_aload_n hx hb dX7_move_27 rfl (lv_at hl 0 rfl) ?_
        refine va_get (D := D) (ci := 7) (v := .int vZ_made) (C := RX7) (T := TX7) (N := 27) hx hb hts inX7 hown hK hP 0 rfl rfl 11 (by decide) fl_103 (fun _ h9 => h9) rfl dX7_move_28 ?_
        refine lv_sipush (v := (300 : Int32)) hx hb dX7_move_31 (by decide) ?_
        refine lv_icmp_ne (tgt := 41) hx hb dX7_move_34 (by decide) (fun c_30 => ?_) (fun c_30 => ?_)
        · have hw := hw.1 c_30
          refine lv_iconst (v := (0 : Int32)) hx hb dX7_move_41 (by decide) ?_
          exact hJ42 vZ_turn vZ_made vZ_out vZ_finishers vZ_thrown vZ_board vZ_movesOf vZ_places vZ_movedFrom vZ_movedTo vZ_turnWas vZ_outWas vZ_finishersWas vZ_level vZ_queue vZ_isEnd x1 x2 (0 : Int32) hw _ _ _ hP hD hS (lv_sub hl [0, 1, 2] rfl)
        · have hw := hw.2 c_30
          refine lv_iconst (v := (2 : Int32)) hx hb dX7_move_37 (by decide) ?_
          refine lv_goto (tgt := 42) hx hb dX7_move_38 (by decide) ?_
          exact hJ42 vZ_turn vZ_made vZ_out vZ_finishers vZ_thrown vZ_board vZ_movesOf vZ_places vZ_movedFrom vZ_movedTo vZ_turnWas vZ_outWas vZ_finishersWas vZ_level vZ_queue vZ_isEnd x1 x2 (2 : Int32) hw _ _ _ hP hD hS (lv_sub hl [0, 1, 2] rfl)
    · have hw := hw.2 c_28
      refine lv_iconst (v := (1 : Int32)) hx hb dX7_move_15 (by decide) ?_
      refine lv_goto (tgt := 42) hx hb dX7_move_16 (by decide) ?_
      exact hJ42 vZ_turn vZ_made vZ_out vZ_finishers vZ_thrown vZ_board vZ_movesOf vZ_places vZ_movedFrom vZ_movedTo vZ_turnWas vZ_outWas vZ_finishersWas vZ_level vZ_queue vZ_isEnd x1 x2 (1 : Int32) hw _ _ _ hP hD hS (lv_sub hl [0, 1, 2] rfl)
set_option maxHeartbeats 4000000 in
set_option maxRecDepth 100000 in
theorem c_X7_move (l : Launch) (D : va_G) (ad : Nat → Nat) (cs : Nat → ClassId) (sz : Nat) (vZ_players vZ_fill vZ_patience vZ_turn vZ_made vZ_out vZ_finishers vZ_thrown : Int32) (vZ_camp vZ_next vZ_far vZ_cells vZ_board vZ_movesOf vZ_places vZ_movedFrom vZ_movedTo vZ_turnWas vZ_outWas vZ_finishersWas vZ_level vZ_queue vZ_isEnd : Nat → Int32) (x1 x2 : Int32) (Q : Int32 → Int32 → Int32 → Int32 → Int32 → Int32 → (Nat → Int32) → (Nat → Int32) → (Nat → Int32) → (Nat → Int32) → (Nat → Int32) → (Nat → Int32) → (Nat → Int32) → (Nat → Int32) → (Nat → Int32) → (Nat → Int32) → (Nat → Int32) → Prop) (hw : wp_X7_move vZ_players vZ_fill vZ_patience vZ_turn vZ_made vZ_out vZ_finishers vZ_thrown vZ_camp vZ_next vZ_far vZ_cells vZ_board vZ_movesOf vZ_places vZ_movedFrom vZ_movedTo vZ_turnWas vZ_outWas vZ_finishersWas vZ_level vZ_queue vZ_isEnd x1 x2 Q) :
  Met l yX7_move wsX7_move rm_X7_move (va_Pc [.ref (ad 28), .int x1, .int x2] (PX D (cl_X7_move ad cs vZ_players vZ_fill vZ_patience vZ_turn vZ_made vZ_out vZ_finishers vZ_thrown vZ_camp vZ_next vZ_far vZ_cells vZ_board vZ_movesOf vZ_places vZ_movedFrom vZ_movedTo vZ_turnWas vZ_outWas vZ_finishersWas vZ_level vZ_queue vZ_isEnd) (ty_X7_move cs) sz)) (va_Qi (fun (r : Int32) (u : Int32 × Int32 × Int32 × Int32 × Int32 × (Nat → Int32) × (Nat → Int32) × (Nat → Int32) × (Nat → Int32) × (Nat → Int32) × (Nat → Int32) × (Nat → Int32) × (Nat → Int32) × (Nat → Int32) × (Nat → Int32) × (Nat → Int32)) => Q r u.1 u.2.1 u.2.2.1 u.2.2.2.1 u.2.2.2.2.1 u.2.2.2.2.2.1 u.2.2.2.2.2.2.1 u.2.2.2.2.2.2.2.1 u.2.2.2.2.2.2.2.2.1 u.2.2.2.2.2.2.2.2.2.1 u.2.2.2.2.2.2.2.2.2.2.1 u.2.2.2.2.2.2.2.2.2.2.2.1 u.2.2.2.2.2.2.2.2.2.2.2.2.1 u.2.2.2.2.2.2.2.2.2.2.2.2.2.1 u.2.2.2.2.2.2.2.2.2.2.2.2.2.2.1 u.2.2.2.2.2.2.2.2.2.2.2.2.2.2.2) (fun (u : Int32 × Int32 × Int32 × Int32 × Int32 × (Nat → Int32) × (Nat → Int32) × (Nat → Int32) × (Nat → Int32) × (Nat → Int32) × (Nat → Int32) × (Nat → Int32) × (Nat → Int32) × (Nat → Int32) × (Nat → Int32) × (Nat → Int32)) t => va_P D vwCl (cl_X7_move ad cs vZ_players vZ_fill vZ_patience u.1 u.2.1 u.2.2.1 u.2.2.2.1 u.2.2.2.2.1 vZ_camp vZ_next vZ_far vZ_cells u.2.2.2.2.2.1 u.2.2.2.2.2.2.1 u.2.2.2.2.2.2.2.1 u.2.2.2.2.2.2.2.2.1 u.2.2.2.2.2.2.2.2.2.1 u.2.2.2.2.2.2.2.2.2.2.1 u.2.2.2.2.2.2.2.2.2.2.2.1 u.2.2.2.2.2.2.2.2.2.2.2.2.1 u.2.2.2.2.2.2.2.2.2.2.2.2.2.1 u.2.2.2.2.2.2.2.2.2.2.2.2.2.2.1 u.2.2.2.2.2.2.2.2.2.2.2.2.2.2.2) t.heap ∧ va_D (va_A (cl_X7_move ad cs vZ_players vZ_fill vZ_patience vZ_turn vZ_made vZ_out vZ_finishers vZ_thrown vZ_camp vZ_next vZ_far vZ_cells vZ_board vZ_movesOf vZ_places vZ_movedFrom vZ_movedTo vZ_turnWas vZ_outWas vZ_finishersWas vZ_level vZ_queue vZ_isEnd) sz) (cl_X7_move ad cs vZ_players vZ_fill vZ_patience u.1 u.2.1 u.2.2.1 u.2.2.2.1 u.2.2.2.2.1 vZ_camp vZ_next vZ_far vZ_cells u.2.2.2.2.2.1 u.2.2.2.2.2.2.1 u.2.2.2.2.2.2.2.1 u.2.2.2.2.2.2.2.2.1 u.2.2.2.2.2.2.2.2.2.1 u.2.2.2.2.2.2.2.2.2.2.1 u.2.2.2.2.2.2.2.2.2.2.2.1 u.2.2.2.2.2.2.2.2.2.2.2.2.1 u.2.2.2.2.2.2.2.2.2.2.2.2.2.1 u.2.2.2.2.2.2.2.2.2.2.2.2.2.2.1 u.2.2.2.2.2.2.2.2.2.2.2.2.2.2.2)) (va_A (cl_X7_move ad cs vZ_players vZ_fill vZ_patience vZ_turn vZ_made vZ_out vZ_finishers vZ_thrown vZ_camp vZ_next vZ_far vZ_cells vZ_board vZ_movesOf vZ_places vZ_movedFrom vZ_movedTo vZ_turnWas vZ_outWas vZ_finishersWas vZ_level vZ_queue vZ_isEnd) sz)) 0 0 (va_A (cl_X7_move ad cs vZ_players vZ_fill vZ_patience vZ_turn vZ_made vZ_out vZ_finishers vZ_thrown vZ_camp vZ_next vZ_far vZ_cells vZ_board vZ_movesOf vZ_places vZ_movedFrom vZ_movedTo vZ_turnWas vZ_outWas vZ_finishersWas vZ_level vZ_queue vZ_isEnd) sz) := by
  refine Met.ofW (cc := cX7_move) (maxL := 4) (ret := (some .int)) (by decide) rfl ?_
  intro p e s m args below meth c s₁ B hml hv
  obtain ⟨rfl, hsz, hP, hK, hD0, hN⟩ := hv
  subst hsz
  have hl := lv_entry ([.ref (ad 28), .int x1, .int x2]) (n := 4) (Nat.le_of_ble_eq_true rfl)
  rw [lg_entry_eq]
  have hx := B.exec
  have hb := B.bytes
  have hr := B.returns
  exact b_X7_move l D ad cs vZ_players vZ_fill vZ_patience vZ_turn vZ_made vZ_out vZ_finishers vZ_thrown vZ_camp vZ_next vZ_far vZ_cells vZ_board vZ_movesOf vZ_places vZ_movedFrom vZ_movedTo vZ_turnWas vZ_outWas vZ_finishersWas vZ_level vZ_queue vZ_isEnd x1 x2 Q hx hb hml (findClass_of_methodNamed B.named) (atoms_spec (ws := wsX7_move) B.pre) hN hP hK hD0.self (fun q h => Or.inr h) hl (fun r o0 o1 o2 o3 o4 o5 o6 o7 o8 o9 o10 o11 o12 o13 o14 o15 H locs pc ls hq hP hD hS hd => W.iret (v := r) hx hb hr (fun t ht hW => ⟨⟨r, (o0, o1, o2, o3, o4, o5, o6, o7, o8, o9, o10, o11, o12, o13, o14, o15), rfl, hq, by rw [ht]; exact hP, hD⟩, hS.F ht⟩) hS.2.2 hd) hw
abbrev rm_X7_allMoves : Room := { frames := 3, cells := 0, slots := 0, locals := 76 }
abbrev cl_X7_allMoves (ad : Nat → Nat) (cs : Nat → ClassId) (vZ_players vZ_fill vZ_patience vZ_turn vZ_made vZ_out vZ_finishers vZ_thrown : Int32) (vZ_camp vZ_next vZ_far vZ_board vZ_level vZ_queue vZ_isEnd : Nat → Int32) : va_W := [((ad 28), .inr (7, [.ref (ad 29), .ref (ad 30), .ref (ad 31), .ref (ad 32), .ref (ad 33), .ref (ad 34), .int vZ_players, .int vZ_fill, .int vZ_patience, .ref (ad 35), .int vZ_turn, .int vZ_made, .int vZ_out, .ref (ad 36), .int vZ_finishers, .ref (ad 37), .ref (ad 38), .ref (ad 39), .ref (ad 40), .ref (ad 41), .ref (ad 42), .ref (ad 43), .ref (ad 44), .ref (ad 45), .ref (ad 46), .ref (ad 47), .int vZ_thrown])), ((ad 31), .inl ((cs 31), 121, .inl vZ_camp)), ((ad 32), .inl ((cs 32), 726, .inl vZ_next)), ((ad 33), .inl ((cs 33), 14641, .inl vZ_far)), ((ad 35), .inl ((cs 35), 121, .inl vZ_board)), ((ad 43), .inl ((cs 43), 121, .inl vZ_level)), ((ad 44), .inl ((cs 44), 121, .inl vZ_queue)), ((ad 45), .inl ((cs 45), 121, .inl vZ_isEnd))]
abbrev ty_X7_allMoves (cs : Nat → ClassId) : List (ClassId × FieldType) := [((cs 31), .int), ((cs 32), .int), ((cs 33), .int), ((cs 35), .int), ((cs 43), .int), ((cs 44), .int), ((cs 45), .boolean)]
def wb_X7_allMoves_4 (vZ_players vZ_fill vZ_patience vZ_turn vZ_made vZ_out vZ_finishers vZ_thrown : Int32) (vZ_camp vZ_next vZ_far vZ_board : Nat → Int32) (K4 : (Nat → Int32) → (Nat → Int32) → (Nat → Int32) → Int32 → Prop) (P4 : (Nat → Int32) → (Nat → Int32) → (Nat → Int32) → Int32 → Int32 → Prop) (vZ_level vZ_queue vZ_isEnd : Nat → Int32) (x1 x2 : Int32) : Prop :=
 (((121 : Int32) ≤ x2 → K4 vZ_level vZ_queue vZ_isEnd x1) ∧
 (¬ (121 : Int32) ≤ x2 → wp_X7_endsOf vZ_players vZ_fill vZ_patience vZ_turn vZ_made vZ_out vZ_finishers vZ_thrown vZ_camp vZ_next vZ_far vZ_board vZ_level vZ_queue vZ_isEnd x2 (fun r_2 vZ_level_3 vZ_queue_4 vZ_isEnd_5 =>
 P4 vZ_level_3 vZ_queue_4 vZ_isEnd_5 (x1 + r_2) (x2 + (1 : Int32)))))
def wl_X7_allMoves_4 (vZ_players vZ_fill vZ_patience vZ_turn vZ_made vZ_out vZ_finishers vZ_thrown : Int32) (vZ_camp vZ_next vZ_far vZ_board : Nat → Int32) (K4 : (Nat → Int32) → (Nat → Int32) → (Nat → Int32) → Int32 → Prop) (vZ_level vZ_queue vZ_isEnd : Nat → Int32) (x1 x2 : Int32) : Prop := ∀ P4 : (Nat → Int32) → (Nat → Int32) → (Nat → Int32) → Int32 → Int32 → Prop, (∀ (vZ_level vZ_queue vZ_isEnd : Nat → Int32) (x1 x2 : Int32), wb_X7_allMoves_4 vZ_players vZ_fill vZ_patience vZ_turn vZ_made vZ_out vZ_finishers vZ_thrown vZ_camp vZ_next vZ_far vZ_board K4 P4 vZ_level vZ_queue vZ_isEnd x1 x2 → P4 vZ_level vZ_queue vZ_isEnd x1 x2) → P4 vZ_level vZ_queue vZ_isEnd x1 x2
def wp_X7_allMoves (vZ_players vZ_fill vZ_patience vZ_turn vZ_made vZ_out vZ_finishers vZ_thrown : Int32) (vZ_camp vZ_next vZ_far vZ_board vZ_level vZ_queue vZ_isEnd : Nat → Int32) (Q : Int32 → (Nat → Int32) → (Nat → Int32) → (Nat → Int32) → Prop) : Prop :=
 wl_X7_allMoves_4 vZ_players vZ_fill vZ_patience vZ_turn vZ_made vZ_out vZ_finishers vZ_thrown vZ_camp vZ_next vZ_far vZ_board (fun vZ_level_6 vZ_queue_7 vZ_isEnd_8 x1_9 => Q x1_9 vZ_level_6 vZ_queue_7 vZ_isEnd_8) vZ_level vZ_queue vZ_isEnd (0 : Int32) (0 : Int32)
set_option maxHeartbeats 4000000 in
set_option maxRecDepth 100000 in
theorem b_X7_allMoves {p : Program} {e : Env} {s : State} {m : MethodId} {args : Array Value} {below : List Frame} {meth : Method} {c : Code} {QQ : State → Prop} {A : Nat → Prop} {ls : Array Slot} (l : Launch) (D : va_G) (ad : Nat → Nat) (cs : Nat → ClassId) (vZ_players vZ_fill vZ_patience vZ_turn vZ_made vZ_out vZ_finishers vZ_thrown : Int32) (vZ_camp vZ_next vZ_far vZ_board vZ_level vZ_queue vZ_isEnd : Nat → Int32) (Q : Int32 → (Nat → Int32) → (Nat → Int32) → (Nat → Int32) → Prop) (hx : p.tables.exec = Jvm.exec) (hb : c.code = cX7_allMoves) (hml : c.maxLocals = 3) (hown : s.vm.findClass RX7 = some m.cls) (hts : ∀ w ∈ wsX7_allMoves, w.before args s = true) (hN : NW s) (hP : va_P D vwCl (cl_X7_allMoves ad cs vZ_players vZ_fill vZ_patience vZ_turn vZ_made vZ_out vZ_finishers vZ_thrown vZ_camp vZ_next vZ_far vZ_board vZ_level vZ_queue vZ_isEnd) s.heap) (hK : va_K D vwCl (ty_X7_allMoves cs) s) (hD : va_D A (cl_X7_allMoves ad cs vZ_players vZ_fill vZ_patience vZ_turn vZ_made vZ_out vZ_finishers vZ_thrown vZ_camp vZ_next vZ_far vZ_board vZ_level vZ_queue vZ_isEnd)) (hA : ∀ q : Nat, s.heap.size ≤ q → A q) (hl : lv_has ls 3 [(0, .ref (ad 28))])
  (hret : ∀ (r : Int32) (o0 : Nat → Int32) (o1 : Nat → Int32) (o2 : Nat → Int32) (H : Heap) (locs : List Loc) (pc : Nat) (ls : Array Slot), Q r o0 o1 o2 → va_P D vwCl (cl_X7_allMoves ad cs vZ_players vZ_fill vZ_patience vZ_turn vZ_made vZ_out vZ_finishers vZ_thrown vZ_camp vZ_next vZ_far vZ_board o0 o1 o2) H → va_D A (cl_X7_allMoves ad cs vZ_players vZ_fill vZ_patience vZ_turn vZ_made vZ_out vZ_finishers vZ_thrown vZ_camp vZ_next vZ_far vZ_board o0 o1 o2) → va_S A s.heap H locs → decode cX7_allMoves pc = .ok (.ireturn, 1) → W p l e rm_X7_allMoves s m args below meth c H locs 0 0 QQ (F0 m pc ls [.int r]))
  (hw : wp_X7_allMoves vZ_players vZ_fill vZ_patience vZ_turn vZ_made vZ_out vZ_finishers vZ_thrown vZ_camp vZ_next vZ_far vZ_board vZ_level vZ_queue vZ_isEnd Q) :
  W p l e rm_X7_allMoves s m args below meth c s.heap [] 0 0 QQ (F0 m 0 ls []) := by
  have S0 : CallFix p m c cX7_allMoves 3 s args wsX7_allMoves RX7 := ⟨hx, hb, hml, hown, hts⟩
  have hL4 : ∀ (K4 : (Nat → Int32) → (Nat → Int32) → (Nat → Int32) → Int32 → Prop) (vZ_level vZ_queue vZ_isEnd : Nat → Int32) (x1 x2 : Int32), wl_X7_allMoves_4 vZ_players vZ_fill vZ_patience vZ_turn vZ_made vZ_out vZ_finishers vZ_thrown vZ_camp vZ_next vZ_far vZ_board K4 vZ_level vZ_queue vZ_isEnd x1 x2 → (∀ (vZ_level vZ_queue vZ_isEnd : Nat → Int32) (x1 : Int32), K4 vZ_level vZ_queue vZ_isEnd x1 → ∀ (H : Heap) (locs : List Loc) (ls : Array Slot), va_P D vwCl (cl_X7_allMoves ad cs vZ_players vZ_fill vZ_patience vZ_turn vZ_made vZ_out vZ_finishers vZ_thrown vZ_camp vZ_next vZ_far vZ_board vZ_level vZ_queue vZ_isEnd) H → va_D A (cl_X7_allMoves ad cs vZ_players vZ_fill vZ_patience vZ_turn vZ_made vZ_out vZ_finishers vZ_thrown vZ_camp vZ_next vZ_far vZ_board vZ_level vZ_queue vZ_isEnd) → va_S A s.heap H locs → lv_has ls 3 [(1, .int x1)] → W p l e rm_X7_allMoves s m args below meth c H locs 0 0 QQ (F0 m 24 ls [])) → ∀ (H : Heap) (locs : List Loc) (ls : Array Slot), va_P D vwCl (cl_X7_allMoves ad cs vZ_players vZ_fill vZ_patience vZ_turn vZ_made vZ_out vZ_finishers vZ_thrown vZ_camp vZ_next vZ_far vZ_board vZ_level vZ_queue vZ_isEnd) H → va_D A (cl_X7_allMoves ad cs vZ_players vZ_fill vZ_patience vZ_turn vZ_made vZ_out vZ_finishers vZ_thrown vZ_camp vZ_next vZ_far vZ_board vZ_level vZ_queue vZ_isEnd) → va_S A s.heap H locs → lv_has ls 3 [(0, .ref (ad 28)), (1, .int x1), (2, .int x2)] → W p l e rm_X7_allMoves s m args below meth c H locs 0 0 QQ (F0 m 4 ls []) := by
    intro K4 vZ_level vZ_queue vZ_isEnd x1 x2 hw hK4
    unfold wl_X7_allMoves_4 at hw
    refine hw (fun (vZ_level vZ_queue vZ_isEnd : Nat → Int32) (x1 x2 : Int32) => ∀ (H : Heap) (locs : List Loc) (ls : Array Slot), va_P D vwCl (cl_X7_allMoves ad cs vZ_players vZ_fill vZ_patience vZ_turn vZ_made vZ_out vZ_finishers vZ_thrown vZ_camp vZ_next vZ_far vZ_board vZ_level vZ_queue vZ_isEnd) H → va_D A (cl_X7_allMoves ad cs vZ_players vZ_fill vZ_patience vZ_turn vZ_made vZ_out vZ_finishers vZ_thrown vZ_camp vZ_next vZ_far vZ_board vZ_level vZ_queue vZ_isEnd) → va_S A s.heap H locs → lv_has ls 3 [(0, .ref (ad 28)), (1, .int x1), (2, .int x2)] → W p l e rm_X7_allMoves s m args below meth c H locs 0 0 QQ (F0 m 4 ls [])) ?_
    intro vZ_level vZ_queue vZ_isEnd x1 x2 hw H locs ls hP hD hS hl
    unfold wb_X7_allMoves_4 at hw
    refine lv_iload_n hx hb dX7_allMoves_4 rfl (lv_at hl 2 rfl) ?_
    refine lv_bipush (v := (121 : Int32)) hx hb dX7_allMoves_5 (by decide) ?_
    refine lv_icmp_ge (tgt := 24) hx hb dX7_allMoves_7 (by decide) (fun c_1 => ?_) (fun c_1 => ?_)
    · have hw := hw.1 c_1
      exact hK4 vZ_level vZ_queue vZ_isEnd x1 hw _ _ _ hP hD hS (lv_sub hl [1] rfl)
    · have hw := hw.2 c_1
      refine lv_iload_n hx hb dX7_allMoves_10 rfl (lv_at hl 1 rfl) ?_
      refine lv_aload_n hx hb dX7_allMoves_11 rfl (lv_at hl 0 rfl) ?_
      refine lv_iload_n hx hb dX7_allMoves_12 rfl (lv_at hl 2 rfl) ?_
      refine pcVi (rest := [.int x1]) (wr := []) (ci := 7) S0 (c_X7_endsOf l D ad cs H.size vZ_players vZ_fill vZ_patience vZ_turn vZ_made vZ_out vZ_finishers vZ_thrown vZ_camp vZ_next vZ_far vZ_board vZ_level vZ_queue vZ_isEnd x2 _ hw) (cwV 1 hts gX7_allMoves_X7_endsOf rfl rfl rfl (by decide +kernel) ⟨Nat.le_of_ble_eq_true rfl, Nat.le_of_ble_eq_true rfl⟩) hN hK hP hD hS hA [0, 1, 2, 3, 4, 5, 6, 7] [] [0, 1, 2, 3, 4, 5, 6] ⟨rfl, rfl, rfl, rfl, rfl, by decide⟩ 0 rfl rfl rfl rfl hl.1 (Nat.le_of_ble_eq_true rfl) ⟨Nat.le_of_ble_eq_true rfl, Nat.le_of_ble_eq_true rfl⟩ dX7_allMoves_13 (fun r_2 u H locs hw hP hD hS => ?_)
      obtain ⟨vZ_level_3, vZ_queue_4, vZ_isEnd_5⟩ := u
      dsimp only at hw
      have hP : va_P D vwCl (cl_X7_allMoves ad cs vZ_players vZ_fill vZ_patience vZ_turn vZ_made vZ_out vZ_finishers vZ_thrown vZ_camp vZ_next vZ_far vZ_board vZ_level_3 vZ_queue_4 vZ_isEnd_5) H := hP.sub [0, 1, 2, 3, 4, 5, 6, 7] rfl
      have hD : va_D A (cl_X7_allMoves ad cs vZ_players vZ_fill vZ_patience vZ_turn vZ_made vZ_out vZ_finishers vZ_thrown vZ_camp vZ_next vZ_far vZ_board vZ_level_3 vZ_queue_4 vZ_isEnd_5) := hD.sub [0, 1, 2, 3, 4, 5, 6, 7] (by decide) rfl
      refine lv_iadd hx hb dX7_allMoves_16 ?_
      refine lv_istore_n (lv' := [(1, .int (x1 + r_2)), (0, .ref (ad 28)), (2, .int x2)]) hx hb dX7_allMoves_17 rfl hl (by decide) rfl (fun ls hl => ?_)
      refine lv_iinc (v := (x2 + (1 : Int32))) (lv' := [(2, .int (x2 + (1 : Int32))), (1, .int (x1 + r_2)), (0, .ref (ad 28))]) hx hb dX7_allMoves_18 hl (k := 2) rfl rfl (by decide) rfl (fun ls hl => ?_)
      refine lv_goto (tgt := 4) hx hb dX7_allMoves_21 (by decide) ?_
      exact hw _ _ _ hP hD hS (lv_sub hl [2, 1, 0] rfl)
  obtain ⟨H, hH⟩ : ∃ H : Heap, H = s.heap := ⟨_, rfl⟩
  have hS : va_S A s.heap H [] := by rw [hH]; exact va_S.rf
  rw [← hH] at hP ⊢
  unfold wp_X7_allMoves at hw
  refine lv_iconst (v := (0 : Int32)) hx hb dX7_allMoves_0 (by decide) ?_
  refine lv_istore_n (lv' := [(1, .int (0 : Int32)), (0, .ref (ad 28))]) hx hb dX7_allMoves_1 rfl hl (by decide) rfl (fun ls hl => ?_)
  refine lv_iconst (v := (0 : Int32)) hx hb dX7_allMoves_2 (by decide) ?_
  refine lv_istore_n (lv' := [(2, .int (0 : Int32)), (1, .int (0 : Int32)), (0, .ref (ad 28))]) hx hb dX7_allMoves_3 rfl hl (by decide) rfl (fun ls hl => ?_)
  refine hL4 _ vZ_level vZ_queue vZ_isEnd (0 : Int32) (0 : Int32) hw ?_ _ _ _ hP hD hS (lv_sub hl [2, 1, 0] rfl)
  intro vZ_level_6 vZ_queue_7 vZ_isEnd_8 x1_9 hw H locs ls hP hD hS hl
  refine lv_iload_n hx hb dX7_allMoves_24 rfl (lv_at hl 0 rfl) ?_
  exact hret _ _ _ _ _ _ _ _ hw hP hD hS dX7_allMoves_25
set_option maxHeartbeats 4000000 in
set_option maxRecDepth 100000 in
theorem c_X7_allMoves (l : Launch) (D : va_G) (ad : Nat → Nat) (cs : Nat → ClassId) (sz : Nat) (vZ_players vZ_fill vZ_patience vZ_turn vZ_made vZ_out vZ_finishers vZ_thrown : Int32) (vZ_camp vZ_next vZ_far vZ_board vZ_level vZ_queue vZ_isEnd : Nat → Int32) (Q : Int32 → (Nat → Int32) → (Nat → Int32) → (Nat → Int32) → Prop) (hw : wp_X7_allMoves vZ_players vZ_fill vZ_patience vZ_turn vZ_made vZ_out vZ_finishers vZ_thrown vZ_camp vZ_next vZ_far vZ_board vZ_level vZ_queue vZ_isEnd Q) :
  Met l yX7_allMoves wsX7_allMoves rm_X7_allMoves (va_Pc [.ref (ad 28)] (PX D (cl_X7_allMoves ad cs vZ_players vZ_fill vZ_patience vZ_turn vZ_made vZ_out vZ_finishers vZ_thrown vZ_camp vZ_next vZ_far vZ_board vZ_level vZ_queue vZ_isEnd) (ty_X7_allMoves cs) sz)) (va_Qi (fun (r : Int32) (u : (Nat → Int32) × (Nat → Int32) × (Nat → Int32)) => Q r u.1 u.2.1 u.2.2) (fun (u : (Nat → Int32) × (Nat → Int32) × (Nat → Int32)) t => va_P D vwCl (cl_X7_allMoves ad cs vZ_players vZ_fill vZ_patience vZ_turn vZ_made vZ_out vZ_finishers vZ_thrown vZ_camp vZ_next vZ_far vZ_board u.1 u.2.1 u.2.2) t.heap ∧ va_D (va_A (cl_X7_allMoves ad cs vZ_players vZ_fill vZ_patience vZ_turn vZ_made vZ_out vZ_finishers vZ_thrown vZ_camp vZ_next vZ_far vZ_board vZ_level vZ_queue vZ_isEnd) sz) (cl_X7_allMoves ad cs vZ_players vZ_fill vZ_patience vZ_turn vZ_made vZ_out vZ_finishers vZ_thrown vZ_camp vZ_next vZ_far vZ_board u.1 u.2.1 u.2.2)) (va_A (cl_X7_allMoves ad cs vZ_players vZ_fill vZ_patience vZ_turn vZ_made vZ_out vZ_finishers vZ_thrown vZ_camp vZ_next vZ_far vZ_board vZ_level vZ_queue vZ_isEnd) sz)) 0 0 (va_A (cl_X7_allMoves ad cs vZ_players vZ_fill vZ_patience vZ_turn vZ_made vZ_out vZ_finishers vZ_thrown vZ_camp vZ_next vZ_far vZ_board vZ_level vZ_queue vZ_isEnd) sz) := by
  refine Met.ofW (cc := cX7_allMoves) (maxL := 3) (ret := (some .int)) (by decide) rfl ?_
  intro p e s m args below meth c s₁ B hml hv
  obtain ⟨rfl, hsz, hP, hK, hD0, hN⟩ := hv
  subst hsz
  have hl := lv_entry ([.ref (ad 28)]) (n := 3) (Nat.le_of_ble_eq_true rfl)
  rw [lg_entry_eq]
  have hx := B.exec
  have hb := B.bytes
  have hr := B.returns
  exact b_X7_allMoves l D ad cs vZ_players vZ_fill vZ_patience vZ_turn vZ_made vZ_out vZ_finishers vZ_thrown vZ_camp vZ_next vZ_far vZ_board vZ_level vZ_queue vZ_isEnd Q hx hb hml (findClass_of_methodNamed B.named) (atoms_spec (ws := wsX7_allMoves) B.pre) hN hP hK hD0.self (fun q h => Or.inr h) hl (fun r o0 o1 o2 H locs pc ls hq hP hD hS hd => W.iret (v := r) hx hb hr (fun t ht hW => ⟨⟨r, (o0, o1, o2), rfl, hq, by rw [ht]; exact hP, hD⟩, hS.F ht⟩) hS.2.2 hd) hw
abbrev rm_X7_pass : Room := { frames := 4, cells := 0, slots := 0, locals := 98 }
abbrev cl_X7_pass (ad : Nat → Nat) (cs : Nat → ClassId) (vZ_players vZ_fill vZ_patience vZ_turn vZ_made vZ_out vZ_finishers vZ_thrown : Int32) (vZ_camp vZ_next vZ_far vZ_cells vZ_board vZ_movesOf vZ_places vZ_movedFrom vZ_movedTo vZ_turnWas vZ_outWas vZ_finishersWas vZ_level vZ_queue vZ_isEnd : Nat → Int32) : va_W := [((ad 28), .inr (7, [.ref (ad 29), .ref (ad 30), .ref (ad 31), .ref (ad 32), .ref (ad 33), .ref (ad 34), .int vZ_players, .int vZ_fill, .int vZ_patience, .ref (ad 35), .int vZ_turn, .int vZ_made, .int vZ_out, .ref (ad 36), .int vZ_finishers, .ref (ad 37), .ref (ad 38), .ref (ad 39), .ref (ad 40), .ref (ad 41), .ref (ad 42), .ref (ad 43), .ref (ad 44), .ref (ad 45), .ref (ad 46), .ref (ad 47), .int vZ_thrown])), ((ad 31), .inl ((cs 31), 121, .inl vZ_camp)), ((ad 32), .inl ((cs 32), 726, .inl vZ_next)), ((ad 33), .inl ((cs 33), 14641, .inl vZ_far)), ((ad 34), .inl ((cs 34), 60, .inl vZ_cells)), ((ad 35), .inl ((cs 35), 121, .inl vZ_board)), ((ad 36), .inl ((cs 36), 6, .inl vZ_movesOf)), ((ad 37), .inl ((cs 37), 6, .inl vZ_places)), ((ad 38), .inl ((cs 38), 300, .inl vZ_movedFrom)), ((ad 39), .inl ((cs 39), 300, .inl vZ_movedTo)), ((ad 40), .inl ((cs 40), 300, .inl vZ_turnWas)), ((ad 41), .inl ((cs 41), 300, .inl vZ_outWas)), ((ad 42), .inl ((cs 42), 300, .inl vZ_finishersWas)), ((ad 43), .inl ((cs 43), 121, .inl vZ_level)), ((ad 44), .inl ((cs 44), 121, .inl vZ_queue)), ((ad 45), .inl ((cs 45), 121, .inl vZ_isEnd))]
abbrev ty_X7_pass (cs : Nat → ClassId) : List (ClassId × FieldType) := [((cs 31), .int), ((cs 32), .int), ((cs 33), .int), ((cs 34), .int), ((cs 35), .int), ((cs 36), .int), ((cs 37), .int), ((cs 38), .int), ((cs 39), .int), ((cs 40), .int), ((cs 41), .int), ((cs 42), .int), ((cs 43), .int), ((cs 44), .int), ((cs 45), .boolean)]
def wJ_X7_pass_31 (vZ_players vZ_fill vZ_patience vZ_turn vZ_made vZ_out vZ_finishers vZ_thrown : Int32) (vZ_cells vZ_board vZ_movesOf vZ_places vZ_movedFrom vZ_movedTo vZ_turnWas vZ_outWas vZ_finishersWas vZ_level vZ_queue vZ_isEnd : Nat → Int32) (t1 : Int32) (Q : Int32 → Int32 → Int32 → Int32 → (Nat → Int32) → (Nat → Int32) → (Nat → Int32) → (Nat → Int32) → (Nat → Int32) → (Nat → Int32) → (Nat → Int32) → (Nat → Int32) → (Nat → Int32) → Prop) : Prop :=
 wp_X7_can vZ_players vZ_fill vZ_patience vZ_turn vZ_made vZ_out vZ_finishers vZ_thrown t1 (fun r_1 vZ_thrown_2 =>
 ((r_1 = 0 → Q vZ_turn vZ_made vZ_out vZ_thrown_2 vZ_movesOf vZ_movedFrom vZ_movedTo vZ_turnWas vZ_outWas vZ_finishersWas vZ_level vZ_queue vZ_isEnd) ∧
 (¬ r_1 = 0 → wp_X7_notes vZ_players vZ_fill vZ_patience vZ_turn vZ_made vZ_out vZ_finishers vZ_thrown_2 vZ_movesOf vZ_movedFrom vZ_movedTo vZ_turnWas vZ_outWas vZ_finishersWas (-1 : Int32) (-1 : Int32) (fun vZ_made_4 vZ_movesOf_5 vZ_movedFrom_6 vZ_movedTo_7 vZ_turnWas_8 vZ_outWas_9 vZ_finishersWas_10 =>
 wp_X7_turns vZ_players vZ_fill vZ_patience vZ_turn vZ_made_4 vZ_out vZ_finishers vZ_thrown_2 vZ_cells vZ_board vZ_movesOf_5 vZ_places (fun vZ_turn_11 vZ_out_12 =>
 Q vZ_turn_11 vZ_made_4 vZ_out_12 vZ_thrown_2 vZ_movesOf_5 vZ_movedFrom_6 vZ_movedTo_7 vZ_turnWas_8 vZ_outWas_9 vZ_finishersWas_10 vZ_level vZ_queue vZ_isEnd)))))
def wp_X7_pass (vZ_players vZ_fill vZ_patience vZ_turn vZ_made vZ_out vZ_finishers vZ_thrown : Int32) (vZ_camp vZ_next vZ_far vZ_cells vZ_board vZ_movesOf vZ_places vZ_movedFrom vZ_movedTo vZ_turnWas vZ_outWas vZ_finishersWas vZ_level vZ_queue vZ_isEnd : Nat → Int32) (Q : Int32 → Int32 → Int32 → Int32 → (Nat → Int32) → (Nat → Int32) → (Nat → Int32) → (Nat → Int32) → (Nat → Int32) → (Nat → Int32) → (Nat → Int32) → (Nat → Int32) → (Nat → Int32) → Prop) : Prop :=
 ((vZ_turn = (-1 : Int32) → wJ_X7_pass_31 vZ_players vZ_fill vZ_patience vZ_turn vZ_made vZ_out vZ_finishers vZ_thrown vZ_cells vZ_board vZ_movesOf vZ_places vZ_movedFrom vZ_movedTo vZ_turnWas vZ_outWas vZ_finishersWas vZ_level vZ_queue vZ_isEnd (1 : Int32) Q) ∧
 (¬ vZ_turn = (-1 : Int32) → wp_X7_allMoves vZ_players vZ_fill vZ_patience vZ_turn vZ_made vZ_out vZ_finishers vZ_thrown vZ_camp vZ_next vZ_far vZ_board vZ_level vZ_queue vZ_isEnd (fun r_14 vZ_level_15 vZ_queue_16 vZ_isEnd_17 =>
 ((0 < r_14 → wJ_X7_pass_31 vZ_players vZ_fill vZ_patience vZ_turn vZ_made vZ_out vZ_finishers vZ_thrown vZ_cells vZ_board vZ_movesOf vZ_places vZ_movedFrom vZ_movedTo vZ_turnWas vZ_outWas vZ_finishersWas vZ_level_15 vZ_queue_16 vZ_isEnd_17 (1 : Int32) Q) ∧
 (¬ 0 < r_14 → ((¬ vZ_made = (300 : Int32) → wJ_X7_pass_31 vZ_players vZ_fill vZ_patience vZ_turn vZ_made vZ_out vZ_finishers vZ_thrown vZ_cells vZ_board vZ_movesOf vZ_places vZ_movedFrom vZ_movedTo vZ_turnWas vZ_outWas vZ_finishersWas vZ_level_15 vZ_queue_16 vZ_isEnd_17 (0 : Int32) Q) ∧
 (vZ_made = (300 : Int32) → wJ_X7_pass_31 vZ_players vZ_fill vZ_patience vZ_turn vZ_made vZ_out vZ_finishers vZ_thrown vZ_cells vZ_board vZ_movesOf vZ_places vZ_movedFrom vZ_movedTo vZ_turnWas vZ_outWas vZ_finishersWas vZ_level_15 vZ_queue_16 vZ_isEnd_17 (1 : Int32) Q)))))))
set_option maxHeartbeats 4000000 in
set_option maxRecDepth 100000 in
theorem b_X7_pass {p : Program} {e : Env} {s : State} {m : MethodId} {args : Array Value} {below : List Frame} {meth : Method} {c : Code} {QQ : State → Prop} {A : Nat → Prop} {ls : Array Slot} (l : Launch) (D : va_G) (ad : Nat → Nat) (cs : Nat → ClassId) (vZ_players vZ_fill vZ_patience vZ_turn vZ_made vZ_out vZ_finishers vZ_thrown : Int32) (vZ_camp vZ_next vZ_far vZ_cells vZ_board vZ_movesOf vZ_places vZ_movedFrom vZ_movedTo vZ_turnWas vZ_outWas vZ_finishersWas vZ_level vZ_queue vZ_isEnd : Nat → Int32) (Q : Int32 → Int32 → Int32 → Int32 → (Nat → Int32) → (Nat → Int32) → (Nat → Int32) → (Nat → Int32) → (Nat → Int32) → (Nat → Int32) → (Nat → Int32) → (Nat → Int32) → (Nat → Int32) → Prop) (hx : p.tables.exec = Jvm.exec) (hb : c.code = cX7_pass) (hml : c.maxLocals = 1) (hown : s.vm.findClass RX7 = some m.cls) (hts : ∀ w ∈ wsX7_pass, w.before args s = true) (hN : NW s) (hP : va_P D vwCl (cl_X7_pass ad cs vZ_players vZ_fill vZ_patience vZ_turn vZ_made vZ_out vZ_finishers vZ_thrown vZ_camp vZ_next vZ_far vZ_cells vZ_board vZ_movesOf vZ_places vZ_movedFrom vZ_movedTo vZ_turnWas vZ_outWas vZ_finishersWas vZ_level vZ_queue vZ_isEnd) s.heap) (hK : va_K D vwCl (ty_X7_pass cs) s) (hD : va_D A (cl_X7_pass ad cs vZ_players vZ_fill vZ_patience vZ_turn vZ_made vZ_out vZ_finishers vZ_thrown vZ_camp vZ_next vZ_far vZ_cells vZ_board vZ_movesOf vZ_places vZ_movedFrom vZ_movedTo vZ_turnWas vZ_outWas vZ_finishersWas vZ_level vZ_queue vZ_isEnd)) (hA : ∀ q : Nat, s.heap.size ≤ q → A q) (hl : lv_has ls 1 [(0, .ref (ad 28))])
  (hret : ∀ (o0 : Int32) (o1 : Int32) (o2 : Int32) (o3 : Int32) (o4 : Nat → Int32) (o5 : Nat → Int32) (o6 : Nat → Int32) (o7 : Nat → Int32) (o8 : Nat → Int32) (o9 : Nat → Int32) (o10 : Nat → Int32) (o11 : Nat → Int32) (o12 : Nat → Int32) (H : Heap) (locs : List Loc) (pc : Nat) (ls : Array Slot), Q o0 o1 o2 o3 o4 o5 o6 o7 o8 o9 o10 o11 o12 → va_P D vwCl (cl_X7_pass ad cs vZ_players vZ_fill vZ_patience o0 o1 o2 vZ_finishers o3 vZ_camp vZ_next vZ_far vZ_cells vZ_board o4 vZ_places o5 o6 o7 o8 o9 o10 o11 o12) H → va_D A (cl_X7_pass ad cs vZ_players vZ_fill vZ_patience o0 o1 o2 vZ_finishers o3 vZ_camp vZ_next vZ_far vZ_cells vZ_board o4 vZ_places o5 o6 o7 o8 o9 o10 o11 o12) → va_S A s.heap H locs → decode cX7_pass pc = .ok (.return_, 1) → W p l e rm_X7_pass s m args below meth c H locs 0 0 QQ (F0 m pc ls []))
  (hw : wp_X7_pass vZ_players vZ_fill vZ_patience vZ_turn vZ_made vZ_out vZ_finishers vZ_thrown vZ_camp vZ_next vZ_far vZ_cells vZ_board vZ_movesOf vZ_places vZ_movedFrom vZ_movedTo vZ_turnWas vZ_outWas vZ_finishersWas vZ_level vZ_queue vZ_isEnd Q) :
  W p l e rm_X7_pass s m args below meth c s.heap [] 0 0 QQ (F0 m 0 ls []) := by
  have S0 : CallFix p m c cX7_pass 1 s args wsX7_pass RX7 := ⟨hx, hb, hml, hown, hts⟩
  have inX7 : ∀ w ∈ u_ws RX7 TX7 27, w ∈ wsX7_pass := by decide +kernel
  have fl_103 := hts (.fieldLink RX7 103 "HopperCourtModel" "made" "I") (by decide +kernel)
  have fl_83 := hts (.fieldLink RX7 83 "HopperCourtModel" "turn" "I") (by decide +kernel)
  have hJ31 : ∀ (vZ_turn vZ_made vZ_out vZ_thrown : Int32) (vZ_movesOf vZ_movedFrom vZ_movedTo vZ_turnWas vZ_outWas vZ_finishersWas vZ_level vZ_queue vZ_isEnd : Nat → Int32) (t1 : Int32), wJ_X7_pass_31 vZ_players vZ_fill vZ_patience vZ_turn vZ_made vZ_out vZ_finishers vZ_thrown vZ_cells vZ_board vZ_movesOf vZ_places vZ_movedFrom vZ_movedTo vZ_turnWas vZ_outWas vZ_finishersWas vZ_level vZ_queue vZ_isEnd t1 Q → ∀ (H : Heap) (locs : List Loc) (ls : Array Slot), va_P D vwCl (cl_X7_pass ad cs vZ_players vZ_fill vZ_patience vZ_turn vZ_made vZ_out vZ_finishers vZ_thrown vZ_camp vZ_next vZ_far vZ_cells vZ_board vZ_movesOf vZ_places vZ_movedFrom vZ_movedTo vZ_turnWas vZ_outWas vZ_finishersWas vZ_level vZ_queue vZ_isEnd) H → va_D A (cl_X7_pass ad cs vZ_players vZ_fill vZ_patience vZ_turn vZ_made vZ_out vZ_finishers vZ_thrown vZ_camp vZ_next vZ_far vZ_cells vZ_board vZ_movesOf vZ_places vZ_movedFrom vZ_movedTo vZ_turnWas vZ_outWas vZ_finishersWas vZ_level vZ_queue vZ_isEnd) → va_S A s.heap H locs → lv_has ls 1 [(0, .ref (ad 28))] → W p l e rm_X7_pass s m args below meth c H locs 0 0 QQ (F0 m 31 ls [.int t1, .ref (ad 28)]) := by
    intro vZ_turn vZ_made vZ_out vZ_thrown vZ_movesOf vZ_movedFrom vZ_movedTo vZ_turnWas vZ_outWas vZ_finishersWas vZ_level vZ_queue vZ_isEnd t1 hw  H locs ls hP hD hS hl
    unfold wJ_X7_pass_31 at hw
    refine pcVi (rest := []) (wr := [((ad 31), .inl ((cs 31), 121, .inl vZ_camp)), ((ad 32), .inl ((cs 32), 726, .inl vZ_next)), ((ad 33), .inl ((cs 33), 14641, .inl vZ_far)), ((ad 34), .inl ((cs 34), 60, .inl vZ_cells)), ((ad 35), .inl ((cs 35), 121, .inl vZ_board)), ((ad 36), .inl ((cs 36), 6, .inl vZ_movesOf)), ((ad 37), .inl ((cs 37), 6, .inl vZ_places)), ((ad 38), .inl ((cs 38), 300, .inl vZ_movedFrom)), ((ad 39), .inl ((cs 39), 300, .inl vZ_movedTo)), ((ad 40), .inl ((cs 40), 300, .inl vZ_turnWas)), ((ad 41), .inl ((cs 41), 300, .inl vZ_outWas)), ((ad 42), .inl ((cs 42), 300, .inl vZ_finishersWas)), ((ad 43), .inl ((cs 43), 121, .inl vZ_level)), ((ad 44), .inl ((cs 44), 121, .inl vZ_queue)), ((ad 45), .inl ((cs 45), 121, .inl vZ_isEnd))]) (ci := 7) S0 (c_X7_can l D ad cs H.size vZ_players vZ_fill vZ_patience vZ_turn vZ_made vZ_out vZ_finishers vZ_thrown t1 _ hw) (cwV 1 hts gX7_pass_X7_can rfl rfl rfl (by decide +kernel) ⟨Nat.le_of_ble_eq_true rfl, Nat.le_of_ble_eq_true rfl⟩) hN hK hP hD hS hA [0] [1, 2, 3, 4, 5, 6, 7, 8, 9, 10, 11, 12, 13, 14, 15] [] ⟨rfl, rfl, rfl, rfl, rfl, by decide⟩ 0 rfl rfl rfl rfl hl.1 (Nat.le_of_ble_eq_true rfl) ⟨Nat.le_of_ble_eq_true rfl, Nat.le_of_ble_eq_true rfl⟩ dX7_pass_31 (fun r_1 u H locs hw hP hD hS => ?_)
    obtain ⟨vZ_thrown_2, rfl⟩ : ∃ z, z = u := ⟨_, rfl⟩
    have hP : va_P D vwCl (cl_X7_pass ad cs vZ_players vZ_fill vZ_patience vZ_turn vZ_made vZ_out vZ_finishers vZ_thrown_2 vZ_camp vZ_next vZ_far vZ_cells vZ_board vZ_movesOf vZ_places vZ_movedFrom vZ_movedTo vZ_turnWas vZ_outWas vZ_finishersWas vZ_level vZ_queue vZ_isEnd) H := hP.sub [15, 0, 1, 2, 3, 4, 5, 6, 7, 8, 9, 10, 11, 12, 13, 14] rfl
    have hD : va_D A (cl_X7_pass ad cs vZ_players vZ_fill vZ_patience vZ_turn vZ_made vZ_out vZ_finishers vZ_thrown_2 vZ_camp vZ_next vZ_far vZ_cells vZ_board vZ_movesOf vZ_places vZ_movedFrom vZ_movedTo vZ_turnWas vZ_outWas vZ_finishersWas vZ_level vZ_queue vZ_isEnd) := hD.sub [15, 0, 1, 2, 3, 4, 5, 6, 7, 8, 9, 10, 11, 12, 13, 14] (by decide) rfl
    refine lv_if_eq (tgt := 47) hx hb dX7_pass_34 (by decide) (fun c_3 => ?_) (fun c_3 => ?_)
    · have hw := hw.1 c_3
      exact hret _ _ _ _ _ _ _ _ _ _ _ _ _ _ _ _ _ hw hP hD hS dX7_pass_47
    · have hw := hw.2 c_3
      refine lv_aload_n hx hb dX7_pass_37 rfl (lv_at hl 0 rfl) ?_
      refine lv_iconst (v := (-1 : Int32)) hx hb dX7_pass_38 (by decide) ?_
      refine lv_iconst (v := (-1 : Int32)) hx hb dX7_pass_39 (by decide) ?_
      refine pcVv (rest := []) (wr := [((ad 31), .inl ((cs 31), 121, .inl vZ_camp)), ((ad 32), .inl ((cs 32), 726, .inl vZ_next)), ((ad 33), .inl ((cs 33), 14641, .inl vZ_far)), ((ad 34), .inl ((cs 34), 60, .inl vZ_cells)), ((ad 35), .inl ((cs 35), 121, .inl vZ_board)), ((ad 37), .inl ((cs 37), 6, .inl vZ_places)), ((ad 43), .inl ((cs 43), 121, .inl vZ_level)), ((ad 44), .inl ((cs 44), 121, .inl vZ_queue)), ((ad 45), .inl ((cs 45), 121, .inl vZ_isEnd))]) (ci := 7) S0 (c_X7_notes l D ad cs H.size vZ_players vZ_fill vZ_patience vZ_turn vZ_made vZ_out vZ_finishers vZ_thrown_2 vZ_movesOf vZ_movedFrom vZ_movedTo vZ_turnWas vZ_outWas vZ_finishersWas (-1 : Int32) (-1 : Int32) _ hw) (cwV 2 hts gX7_pass_X7_notes rfl rfl rfl (by decide +kernel) ⟨Nat.le_of_ble_eq_true rfl, Nat.le_of_ble_eq_true rfl⟩) hN hK hP hD hS hA [0, 6, 8, 9, 10, 11, 12] [1, 2, 3, 4, 5, 7, 13, 14, 15] [5, 7, 8, 9, 10, 11] ⟨rfl, rfl, rfl, rfl, rfl, by decide⟩ 0 rfl rfl rfl rfl hl.1 (Nat.le_of_ble_eq_true rfl) ⟨Nat.le_of_ble_eq_true rfl, Nat.le_of_ble_eq_true rfl⟩ dX7_pass_40 (fun u H locs hw hP hD hS => ?_)
      obtain ⟨vZ_made_4, vZ_movesOf_5, vZ_movedFrom_6, vZ_movedTo_7, vZ_turnWas_8, vZ_outWas_9, vZ_finishersWas_10⟩ := u
      dsimp only at hw
      have hP : va_P D vwCl (cl_X7_pass ad cs vZ_players vZ_fill vZ_patience vZ_turn vZ_made_4 vZ_out vZ_finishers vZ_thrown_2 vZ_camp vZ_next vZ_far vZ_cells vZ_board vZ_movesOf_5 vZ_places vZ_movedFrom_6 vZ_movedTo_7 vZ_turnWas_8 vZ_outWas_9 vZ_finishersWas_10 vZ_level vZ_queue vZ_isEnd) H := hP.sub [9, 0, 1, 2, 3, 4, 10, 5, 11, 12, 13, 14, 15, 6, 7, 8] rfl
      have hD : va_D A (cl_X7_pass ad cs vZ_players vZ_fill vZ_patience vZ_turn vZ_made_4 vZ_out vZ_finishers vZ_thrown_2 vZ_camp vZ_next vZ_far vZ_cells vZ_board vZ_movesOf_5 vZ_places vZ_movedFrom_6 vZ_movedTo_7 vZ_turnWas_8 vZ_outWas_9 vZ_finishersWas_10 vZ_level vZ_queue vZ_isEnd) := hD.sub [9, 0, 1, 2, 3, 4, 10, 5, 11, 12, 13, 14, 15, 6, 7, 8] (by decide) rfl
      refine lv_aload_n hx hb dX7_pass_43 rfl (lv_at hl 0 rfl) ?_
      refine pcVv (rest := []) (wr := [((ad 31), .inl ((cs 31), 121, .inl vZ_camp)), ((ad 32), .inl ((cs 32), 726, .inl vZ_next)), ((ad 33), .inl ((cs 33), 14641, .inl vZ_far)), ((ad 38), .inl ((cs 38), 300, .inl vZ_movedFrom_6)), ((ad 39), .inl ((cs 39), 300, .inl vZ_movedTo_7)), ((ad 40), .inl ((cs 40), 300, .inl vZ_turnWas_8)), ((ad 41), .inl ((cs 41), 300, .inl vZ_outWas_9)), ((ad 42), .inl ((cs 42), 300, .inl vZ_finishersWas_10)), ((ad 43), .inl ((cs 43), 121, .inl vZ_level)), ((ad 44), .inl ((cs 44), 121, .inl vZ_queue)), ((ad 45), .inl ((cs 45), 121, .inl vZ_isEnd))]) (ci := 7) S0 (c_X7_turns l D ad cs H.size vZ_players vZ_fill vZ_patience vZ_turn vZ_made_4 vZ_out vZ_finishers vZ_thrown_2 vZ_cells vZ_board vZ_movesOf_5 vZ_places _ hw) (cwV 0 hts gX7_pass_X7_turns rfl rfl rfl (by decide +kernel) ⟨Nat.le_of_ble_eq_true rfl, Nat.le_of_ble_eq_true rfl⟩) hN hK hP hD hS hA [0, 4, 5, 6, 7] [1, 2, 3, 8, 9, 10, 11, 12, 13, 14, 15] [3, 4, 5, 6] ⟨rfl, rfl, rfl, rfl, rfl, by decide⟩ 0 rfl rfl rfl rfl hl.1 (Nat.le_of_ble_eq_true rfl) ⟨Nat.le_of_ble_eq_true rfl, Nat.le_of_ble_eq_true rfl⟩ dX7_pass_44 (fun u H locs hw hP hD hS => ?_)
      obtain ⟨vZ_turn_11, vZ_out_12⟩ := u
      dsimp only at hw
      have hP : va_P D vwCl (cl_X7_pass ad cs vZ_players vZ_fill vZ_patience vZ_turn_11 vZ_made_4 vZ_out_12 vZ_finishers vZ_thrown_2 vZ_camp vZ_next vZ_far vZ_cells vZ_board vZ_movesOf_5 vZ_places vZ_movedFrom_6 vZ_movedTo_7 vZ_turnWas_8 vZ_outWas_9 vZ_finishersWas_10 vZ_level vZ_queue vZ_isEnd) H := hP.sub [11, 0, 1, 2, 12, 13, 14, 15, 3, 4, 5, 6, 7, 8, 9, 10] rfl
      have hD : va_D A (cl_X7_pass ad cs vZ_players vZ_fill vZ_patience vZ_turn_11 vZ_made_4 vZ_out_12 vZ_finishers vZ_thrown_2 vZ_camp vZ_next vZ_far vZ_cells vZ_board vZ_movesOf_5 vZ_places vZ_movedFrom_6 vZ_movedTo_7 vZ_turnWas_8 vZ_outWas_9 vZ_finishersWas_10 vZ_level vZ_queue vZ_isEnd) := hD.sub [11, 0, 1, 2, 12, 13, 14, 15, 3, 4, 5, 6, 7, 8, 9, 10] (by decide) rfl
      exact hret _ _ _ _ _ _ _ _ _ _ _ _ _ _ _ _ _ hw hP hD hS dX7_pass_47
  obtain ⟨H, hH⟩ : ∃ H : Heap, H = s.heap := ⟨_, rfl⟩
  have hS : va_S A s.heap H [] := by rw [hH]; exact va_S.rf
  rw [← hH] at hP ⊢
  unfold wp_X7_pass at hw
  refine lv_aload_n hx hb dX7_pass_0 rfl (lv_at hl 0 rfl) ?_
  refine lv_aload_n hx hb dX7_pass_1 rfl (lv_at hl 0 rfl) ?_
  refine va_get (D := D) (ci := 7) (v := .int vZ_turn) (C := RX7) (T := TX7) (N := 27) hx hb hts inX7 hown hK hP 0 rfl rfl 10 (by decide) fl_83 (fun _ h9 => h9) rfl dX7_pass_2 ?_
  refine lv_iconst (v := (-1 : Int32)) hx hb dX7_pass_5 (by decide) ?_
  refine lv_icmp_eq (tgt := 26) hx hb dX7_pass_6 (by decide) (fun c_13 => ?_) (fun c_13 => ?_)
  · have hw := hw.1 c_13
    refine lv_iconst (v := (1 : Int32)) hx hb dX7_pass_26 (by decide) ?_
    refine lv_goto (tgt := 31) hx hb dX7_pass_27 (by decide) ?_
    exact hJ31 vZ_turn vZ_made vZ_out vZ_thrown vZ_movesOf vZ_movedFrom vZ_movedTo vZ_turnWas vZ_outWas vZ_finishersWas vZ_level vZ_queue vZ_isEnd (1 : Int32) hw _ _ _ hP hD hS (lv_sub hl [0] rfl)
  · have hw := hw.2 c_13
    refine lv_aload_n hx hb dX7_pass_9 rfl (lv_at hl 0 rfl) ?_
    refine pcVi (rest := [.ref (ad 28)]) (wr := [((ad 34), .inl ((cs 34), 60, .inl vZ_cells)), ((ad 36), .inl ((cs 36), 6, .inl vZ_movesOf)), ((ad 37), .inl ((cs 37), 6, .inl vZ_places)), ((ad 38), .inl ((cs 38), 300, .inl vZ_movedFrom)), ((ad 39), .inl ((cs 39), 300, .inl vZ_movedTo)), ((ad 40), .inl ((cs 40), 300, .inl vZ_turnWas)), ((ad 41), .inl ((cs 41), 300, .inl vZ_outWas)), ((ad 42), .inl ((cs 42), 300, .inl vZ_finishersWas))]) (ci := 7) S0 (c_X7_allMoves l D ad cs H.size vZ_players vZ_fill vZ_patience vZ_turn vZ_made vZ_out vZ_finishers vZ_thrown vZ_camp vZ_next vZ_far vZ_board vZ_level vZ_queue vZ_isEnd _ hw) (cwV 0 hts gX7_pass_X7_allMoves rfl rfl rfl (by decide +kernel) ⟨Nat.le_of_ble_eq_true rfl, Nat.le_of_ble_eq_true rfl⟩) hN hK hP hD hS hA [0, 1, 2, 3, 5, 13, 14, 15] [4, 6, 7, 8, 9, 10, 11, 12] [0, 1, 2, 4, 12, 13, 14] ⟨rfl, rfl, rfl, rfl, rfl, by decide⟩ 0 rfl rfl rfl rfl hl.1 (Nat.le_of_ble_eq_true rfl) ⟨Nat.le_of_ble_eq_true rfl, Nat.le_of_ble_eq_true rfl⟩ dX7_pass_10 (fun r_14 u H locs hw hP hD hS => ?_)
    obtain ⟨vZ_level_15, vZ_queue_16, vZ_isEnd_17⟩ := u
    dsimp only at hw
    have hP : va_P D vwCl (cl_X7_pass ad cs vZ_players vZ_fill vZ_patience vZ_turn vZ_made vZ_out vZ_finishers vZ_thrown vZ_camp vZ_next vZ_far vZ_cells vZ_board vZ_movesOf vZ_places vZ_movedFrom vZ_movedTo vZ_turnWas vZ_outWas vZ_finishersWas vZ_level_15 vZ_queue_16 vZ_isEnd_17) H := hP.sub [8, 9, 10, 11, 0, 12, 1, 2, 3, 4, 5, 6, 7, 13, 14, 15] rfl
    have hD : va_D A (cl_X7_pass ad cs vZ_players vZ_fill vZ_patience vZ_turn vZ_made vZ_out vZ_finishers vZ_thrown vZ_camp vZ_next vZ_far vZ_cells vZ_board vZ_movesOf vZ_places vZ_movedFrom vZ_movedTo vZ_turnWas vZ_outWas vZ_finishersWas vZ_level_15 vZ_queue_16 vZ_isEnd_17) := hD.sub [8, 9, 10, 11, 0, 12, 1, 2, 3, 4, 5, 6, 7, 13, 14, 15] (by decide) rfl
    refine lv_if_gt (tgt := 26) hx hb dX7_pass_13 (by decide) (fun c_18 => ?_) (fun c_18 => ?_)
    · have hw := hw.1 c_18
      refine lv_iconst (v := (1 : Int32)) hx hb dX7_pass_26 (by decide) ?_
      refine lv_goto (tgt := 31) hx hb dX7_pass_27 (by decide) ?_
      exact hJ31 vZ_turn vZ_made vZ_out vZ_thrown vZ_movesOf vZ_movedFrom vZ_movedTo vZ_turnWas vZ_outWas vZ_finishersWas vZ_level_15 vZ_queue_16 vZ_isEnd_17 (1 : Int32) hw _ _ _ hP hD hS (lv_sub hl [0] rfl)
    · have hw := hw.2 c_18
      refine lv_aload_n hx hb dX7_pass_16 rfl (lv_at hl 0 rfl) ?_
      refine va_get (D := D) (ci := 7) (v := .int vZ_made) (C := RX7) (T := TX7) (N := 27) hx hb hts inX7 hown hK hP 0 rfl rfl 11 (by decide) fl_103 (fun _ h9 => h9) rfl dX7_pass_17 ?_
      refine lv_sipush (v := (300 : Int32)) hx hb dX7_pass_20 (by decide) ?_
      refine lv_icmp_ne (tgt := 30) hx hb dX7_pass_23 (by decide) (fun c_19 => ?_) (fun c_19 => ?_)
      · have hw := hw.1 c_19
        refine lv_iconst (v := (0 : Int32)) hx hb dX7_pass_30 (by decide) ?_
        exact hJ31 vZ_turn vZ_made vZ_out vZ_thrown vZ_movesOf vZ_movedFrom vZ_movedTo vZ_turnWas vZ_outWas vZ_finishersWas vZ_level_15 vZ_queue_16 vZ_isEnd_17 (0 : Int32) hw _ _ _ hP hD hS (lv_sub hl [0] rfl)
      · have hw := hw.2 c_19
        refine lv_iconst (v := (1 : Int32)) hx hb dX7_pass_26 (by decide) ?_
        refine lv_goto (tgt := 31) hx hb dX7_pass_27 (by decide) ?_
        exact hJ31 vZ_turn vZ_made vZ_out vZ_thrown vZ_movesOf vZ_movedFrom vZ_movedTo vZ_turnWas vZ_outWas vZ_finishersWas vZ_level_15 vZ_queue_16 vZ_isEnd_17 (1 : Int32) hw _ _ _ hP hD hS (lv_sub hl [0] rfl)
set_option maxHeartbeats 4000000 in
set_option maxRecDepth 100000 in
theorem c_X7_pass (l : Launch) (D : va_G) (ad : Nat → Nat) (cs : Nat → ClassId) (sz : Nat) (vZ_players vZ_fill vZ_patience vZ_turn vZ_made vZ_out vZ_finishers vZ_thrown : Int32) (vZ_camp vZ_next vZ_far vZ_cells vZ_board vZ_movesOf vZ_places vZ_movedFrom vZ_movedTo vZ_turnWas vZ_outWas vZ_finishersWas vZ_level vZ_queue vZ_isEnd : Nat → Int32) (Q : Int32 → Int32 → Int32 → Int32 → (Nat → Int32) → (Nat → Int32) → (Nat → Int32) → (Nat → Int32) → (Nat → Int32) → (Nat → Int32) → (Nat → Int32) → (Nat → Int32) → (Nat → Int32) → Prop) (hw : wp_X7_pass vZ_players vZ_fill vZ_patience vZ_turn vZ_made vZ_out vZ_finishers vZ_thrown vZ_camp vZ_next vZ_far vZ_cells vZ_board vZ_movesOf vZ_places vZ_movedFrom vZ_movedTo vZ_turnWas vZ_outWas vZ_finishersWas vZ_level vZ_queue vZ_isEnd Q) :
  Met l yX7_pass wsX7_pass rm_X7_pass (va_Pc [.ref (ad 28)] (PX D (cl_X7_pass ad cs vZ_players vZ_fill vZ_patience vZ_turn vZ_made vZ_out vZ_finishers vZ_thrown vZ_camp vZ_next vZ_far vZ_cells vZ_board vZ_movesOf vZ_places vZ_movedFrom vZ_movedTo vZ_turnWas vZ_outWas vZ_finishersWas vZ_level vZ_queue vZ_isEnd) (ty_X7_pass cs) sz)) (va_Qv (fun (u : Int32 × Int32 × Int32 × Int32 × (Nat → Int32) × (Nat → Int32) × (Nat → Int32) × (Nat → Int32) × (Nat → Int32) × (Nat → Int32) × (Nat → Int32) × (Nat → Int32) × (Nat → Int32)) => Q u.1 u.2.1 u.2.2.1 u.2.2.2.1 u.2.2.2.2.1 u.2.2.2.2.2.1 u.2.2.2.2.2.2.1 u.2.2.2.2.2.2.2.1 u.2.2.2.2.2.2.2.2.1 u.2.2.2.2.2.2.2.2.2.1 u.2.2.2.2.2.2.2.2.2.2.1 u.2.2.2.2.2.2.2.2.2.2.2.1 u.2.2.2.2.2.2.2.2.2.2.2.2) (fun (u : Int32 × Int32 × Int32 × Int32 × (Nat → Int32) × (Nat → Int32) × (Nat → Int32) × (Nat → Int32) × (Nat → Int32) × (Nat → Int32) × (Nat → Int32) × (Nat → Int32) × (Nat → Int32)) t => va_P D vwCl (cl_X7_pass ad cs vZ_players vZ_fill vZ_patience u.1 u.2.1 u.2.2.1 vZ_finishers u.2.2.2.1 vZ_camp vZ_next vZ_far vZ_cells vZ_board u.2.2.2.2.1 vZ_places u.2.2.2.2.2.1 u.2.2.2.2.2.2.1 u.2.2.2.2.2.2.2.1 u.2.2.2.2.2.2.2.2.1 u.2.2.2.2.2.2.2.2.2.1 u.2.2.2.2.2.2.2.2.2.2.1 u.2.2.2.2.2.2.2.2.2.2.2.1 u.2.2.2.2.2.2.2.2.2.2.2.2) t.heap ∧ va_D (va_A (cl_X7_pass ad cs vZ_players vZ_fill vZ_patience vZ_turn vZ_made vZ_out vZ_finishers vZ_thrown vZ_camp vZ_next vZ_far vZ_cells vZ_board vZ_movesOf vZ_places vZ_movedFrom vZ_movedTo vZ_turnWas vZ_outWas vZ_finishersWas vZ_level vZ_queue vZ_isEnd) sz) (cl_X7_pass ad cs vZ_players vZ_fill vZ_patience u.1 u.2.1 u.2.2.1 vZ_finishers u.2.2.2.1 vZ_camp vZ_next vZ_far vZ_cells vZ_board u.2.2.2.2.1 vZ_places u.2.2.2.2.2.1 u.2.2.2.2.2.2.1 u.2.2.2.2.2.2.2.1 u.2.2.2.2.2.2.2.2.1 u.2.2.2.2.2.2.2.2.2.1 u.2.2.2.2.2.2.2.2.2.2.1 u.2.2.2.2.2.2.2.2.2.2.2.1 u.2.2.2.2.2.2.2.2.2.2.2.2)) (va_A (cl_X7_pass ad cs vZ_players vZ_fill vZ_patience vZ_turn vZ_made vZ_out vZ_finishers vZ_thrown vZ_camp vZ_next vZ_far vZ_cells vZ_board vZ_movesOf vZ_places vZ_movedFrom vZ_movedTo vZ_turnWas vZ_outWas vZ_finishersWas vZ_level vZ_queue vZ_isEnd) sz)) 0 0 (va_A (cl_X7_pass ad cs vZ_players vZ_fill vZ_patience vZ_turn vZ_made vZ_out vZ_finishers vZ_thrown vZ_camp vZ_next vZ_far vZ_cells vZ_board vZ_movesOf vZ_places vZ_movedFrom vZ_movedTo vZ_turnWas vZ_outWas vZ_finishersWas vZ_level vZ_queue vZ_isEnd) sz) := by
  refine Met.ofW (cc := cX7_pass) (maxL := 1) (ret := none) (by decide) rfl ?_
  intro p e s m args below meth c s₁ B hml hv
  obtain ⟨rfl, hsz, hP, hK, hD0, hN⟩ := hv
  subst hsz
  have hl := lv_entry ([.ref (ad 28)]) (n := 1) (Nat.le_of_ble_eq_true rfl)
  rw [lg_entry_eq]
  have hx := B.exec
  have hb := B.bytes
  have hr := B.returns
  exact b_X7_pass l D ad cs vZ_players vZ_fill vZ_patience vZ_turn vZ_made vZ_out vZ_finishers vZ_thrown vZ_camp vZ_next vZ_far vZ_cells vZ_board vZ_movesOf vZ_places vZ_movedFrom vZ_movedTo vZ_turnWas vZ_outWas vZ_finishersWas vZ_level vZ_queue vZ_isEnd Q hx hb hml (findClass_of_methodNamed B.named) (atoms_spec (ws := wsX7_pass) B.pre) hN hP hK hD0.self (fun q h => Or.inr h) hl (fun o0 o1 o2 o3 o4 o5 o6 o7 o8 o9 o10 o11 o12 H locs pc ls hq hP hD hS hd => W.vret hx hb hr (fun t ht hW => ⟨⟨(o0, o1, o2, o3, o4, o5, o6, o7, o8, o9, o10, o11, o12), rfl, hq, by rw [ht]; exact hP, hD⟩, hS.F ht⟩) hS.2.2 hd) hw
abbrev rm_X7_undo : Room := { frames := 1, cells := 0, slots := 0, locals := 21 }
abbrev cl_X7_undo (ad : Nat → Nat) (cs : Nat → ClassId) (vZ_players vZ_fill vZ_patience vZ_turn vZ_made vZ_out vZ_finishers vZ_thrown : Int32) (vZ_board vZ_movesOf vZ_movedFrom vZ_movedTo vZ_turnWas vZ_outWas vZ_finishersWas : Nat → Int32) : va_W := [((ad 28), .inr (7, [.ref (ad 29), .ref (ad 30), .ref (ad 31), .ref (ad 32), .ref (ad 33), .ref (ad 34), .int vZ_players, .int vZ_fill, .int vZ_patience, .ref (ad 35), .int vZ_turn, .int vZ_made, .int vZ_out, .ref (ad 36), .int vZ_finishers, .ref (ad 37), .ref (ad 38), .ref (ad 39), .ref (ad 40), .ref (ad 41), .ref (ad 42), .ref (ad 43), .ref (ad 44), .ref (ad 45), .ref (ad 46), .ref (ad 47), .int vZ_thrown])), ((ad 35), .inl ((cs 35), 121, .inl vZ_board)), ((ad 36), .inl ((cs 36), 6, .inl vZ_movesOf)), ((ad 38), .inl ((cs 38), 300, .inl vZ_movedFrom)), ((ad 39), .inl ((cs 39), 300, .inl vZ_movedTo)), ((ad 40), .inl ((cs 40), 300, .inl vZ_turnWas)), ((ad 41), .inl ((cs 41), 300, .inl vZ_outWas)), ((ad 42), .inl ((cs 42), 300, .inl vZ_finishersWas))]
abbrev ty_X7_undo (cs : Nat → ClassId) : List (ClassId × FieldType) := [((cs 35), .int), ((cs 36), .int), ((cs 38), .int), ((cs 39), .int), ((cs 40), .int), ((cs 41), .int), ((cs 42), .int)]
def wJ_X7_undo_13 (vZ_players vZ_fill vZ_patience vZ_turn vZ_made vZ_out vZ_finishers vZ_thrown : Int32) (vZ_board vZ_movesOf vZ_movedFrom vZ_movedTo vZ_turnWas vZ_outWas vZ_finishersWas : Nat → Int32) (t1 : Int32) (Q : Int32 → Int32 → Int32 → Int32 → Int32 → Int32 → (Nat → Int32) → (Nat → Int32) → Prop) : Prop :=
 wp_X7_can vZ_players vZ_fill vZ_patience vZ_turn vZ_made vZ_out vZ_finishers vZ_thrown t1 (fun r_1 vZ_thrown_2 =>
 ((¬ r_1 = 0 → (vp_in (vZ_made - (1 : Int32)) 300 ∧
 (vp_in (vZ_made - (1 : Int32)) 300 ∧
 (vp_in (vZ_made - (1 : Int32)) 300 ∧
 (vp_in (vZ_turnWas (vZ_made - (1 : Int32)).toNatClampNeg) 6 ∧
 (vp_in (vZ_turnWas (vZ_made - (1 : Int32)).toNatClampNeg) 6 ∧
 (vp_in (vZ_made - (1 : Int32)) 300 ∧
 (((vZ_movedFrom (vZ_made - (1 : Int32)).toNatClampNeg) = (-1 : Int32) → Q (vZ_made - (1 : Int32)) (vZ_turnWas (vZ_made - (1 : Int32)).toNatClampNeg) (vZ_made - (1 : Int32)) (vZ_outWas (vZ_made - (1 : Int32)).toNatClampNeg) (vZ_finishersWas (vZ_made - (1 : Int32)).toNatClampNeg) vZ_thrown_2 vZ_board (upd vZ_movesOf (vZ_turnWas (vZ_made - (1 : Int32)).toNatClampNeg).toNatClampNeg ((vZ_movesOf (vZ_turnWas (vZ_made - (1 : Int32)).toNatClampNeg).toNatClampNeg) - (1 : Int32)))) ∧
 (¬ (vZ_movedFrom (vZ_made - (1 : Int32)).toNatClampNeg) = (-1 : Int32) → (vp_in (vZ_made - (1 : Int32)) 300 ∧
 (vp_in (vZ_movedFrom (vZ_made - (1 : Int32)).toNatClampNeg) 121 ∧
 (vp_in (vZ_made - (1 : Int32)) 300 ∧
 (vp_in (vZ_movedTo (vZ_made - (1 : Int32)).toNatClampNeg) 121 ∧
 Q (vZ_made - (1 : Int32)) (vZ_turnWas (vZ_made - (1 : Int32)).toNatClampNeg) (vZ_made - (1 : Int32)) (vZ_outWas (vZ_made - (1 : Int32)).toNatClampNeg) (vZ_finishersWas (vZ_made - (1 : Int32)).toNatClampNeg) vZ_thrown_2 (upd (upd vZ_board (vZ_movedFrom (vZ_made - (1 : Int32)).toNatClampNeg).toNatClampNeg (vZ_turnWas (vZ_made - (1 : Int32)).toNatClampNeg)) (vZ_movedTo (vZ_made - (1 : Int32)).toNatClampNeg).toNatClampNeg (-1 : Int32)) (upd vZ_movesOf (vZ_turnWas (vZ_made - (1 : Int32)).toNatClampNeg).toNatClampNeg ((vZ_movesOf (vZ_turnWas (vZ_made - (1 : Int32)).toNatClampNeg).toNatClampNeg) - (1 : Int32)))))))))))))))) ∧
 (r_1 = 0 → Q (0 : Int32) vZ_turn vZ_made vZ_out vZ_finishers vZ_thrown_2 vZ_board vZ_movesOf)))
def wp_X7_undo (vZ_players vZ_fill vZ_patience vZ_turn vZ_made vZ_out vZ_finishers vZ_thrown : Int32) (vZ_board vZ_movesOf vZ_movedFrom vZ_movedTo vZ_turnWas vZ_outWas vZ_finishersWas : Nat → Int32) (Q : Int32 → Int32 → Int32 → Int32 → Int32 → Int32 → (Nat → Int32) → (Nat → Int32) → Prop) : Prop :=
 ((¬ vZ_made = 0 → wJ_X7_undo_13 vZ_players vZ_fill vZ_patience vZ_turn vZ_made vZ_out vZ_finishers vZ_thrown vZ_board vZ_movesOf vZ_movedFrom vZ_movedTo vZ_turnWas vZ_outWas vZ_finishersWas (0 : Int32) Q) ∧
 (vZ_made = 0 → wJ_X7_undo_13 vZ_players vZ_fill vZ_patience vZ_turn vZ_made vZ_out vZ_finishers vZ_thrown vZ_board vZ_movesOf vZ_movedFrom vZ_movedTo vZ_turnWas vZ_outWas vZ_finishersWas (1 : Int32) Q))
set_option maxHeartbeats 4000000 in
set_option maxRecDepth 100000 in
theorem b_X7_undo {p : Program} {e : Env} {s : State} {m : MethodId} {args : Array Value} {below : List Frame} {meth : Method} {c : Code} {QQ : State → Prop} {A : Nat → Prop} {ls : Array Slot} (l : Launch) (D : va_G) (ad : Nat → Nat) (cs : Nat → ClassId) (vZ_players vZ_fill vZ_patience vZ_turn vZ_made vZ_out vZ_finishers vZ_thrown : Int32) (vZ_board vZ_movesOf vZ_movedFrom vZ_movedTo vZ_turnWas vZ_outWas vZ_finishersWas : Nat → Int32) (Q : Int32 → Int32 → Int32 → Int32 → Int32 → Int32 → (Nat → Int32) → (Nat → Int32) → Prop) (hx : p.tables.exec = Jvm.exec) (hb : c.code = cX7_undo) (hml : c.maxLocals = 1) (hown : s.vm.findClass RX7 = some m.cls) (hts : ∀ w ∈ wsX7_undo, w.before args s = true) (hN : NW s) (hP : va_P D vwCl (cl_X7_undo ad cs vZ_players vZ_fill vZ_patience vZ_turn vZ_made vZ_out vZ_finishers vZ_thrown vZ_board vZ_movesOf vZ_movedFrom vZ_movedTo vZ_turnWas vZ_outWas vZ_finishersWas) s.heap) (hK : va_K D vwCl (ty_X7_undo cs) s) (hD : va_D A (cl_X7_undo ad cs vZ_players vZ_fill vZ_patience vZ_turn vZ_made vZ_out vZ_finishers vZ_thrown vZ_board vZ_movesOf vZ_movedFrom vZ_movedTo vZ_turnWas vZ_outWas vZ_finishersWas)) (hA : ∀ q : Nat, s.heap.size ≤ q → A q) (hl : lv_has ls 1 [(0, .ref (ad 28))])
  (hret : ∀ (r : Int32) (o0 : Int32) (o1 : Int32) (o2 : Int32) (o3 : Int32) (o4 : Int32) (o5 : Nat → Int32) (o6 : Nat → Int32) (H : Heap) (locs : List Loc) (pc : Nat) (ls : Array Slot), Q r o0 o1 o2 o3 o4 o5 o6 → va_P D vwCl (cl_X7_undo ad cs vZ_players vZ_fill vZ_patience o0 o1 o2 o3 o4 o5 o6 vZ_movedFrom vZ_movedTo vZ_turnWas vZ_outWas vZ_finishersWas) H → va_D A (cl_X7_undo ad cs vZ_players vZ_fill vZ_patience o0 o1 o2 o3 o4 o5 o6 vZ_movedFrom vZ_movedTo vZ_turnWas vZ_outWas vZ_finishersWas) → va_S A s.heap H locs → decode cX7_undo pc = .ok (.ireturn, 1) → W p l e rm_X7_undo s m args below meth c H locs 0 0 QQ (F0 m pc ls [.int r]))
  (hw : wp_X7_undo vZ_players vZ_fill vZ_patience vZ_turn vZ_made vZ_out vZ_finishers vZ_thrown vZ_board vZ_movesOf vZ_movedFrom vZ_movedTo vZ_turnWas vZ_outWas vZ_finishersWas Q) :
  W p l e rm_X7_undo s m args below meth c s.heap [] 0 0 QQ (F0 m 0 ls []) := by
  have S0 : CallFix p m c cX7_undo 1 s args wsX7_undo RX7 := ⟨hx, hb, hml, hown, hts⟩
  have inX7 : ∀ w ∈ u_ws RX7 TX7 27, w ∈ wsX7_undo := by decide +kernel
  have fl_103 := hts (.fieldLink RX7 103 "HopperCourtModel" "made" "I") (by decide +kernel)
  have fl_106 := hts (.fieldLink RX7 106 "HopperCourtModel" "out" "I") (by decide +kernel)
  have fl_109 := hts (.fieldLink RX7 109 "HopperCourtModel" "finishers" "I") (by decide +kernel)
  have fl_32 := hts (.fieldLink RX7 32 "HopperCourtModel" "board" "[I") (by decide +kernel)
  have fl_35 := hts (.fieldLink RX7 35 "HopperCourtModel" "movesOf" "[I") (by decide +kernel)
  have fl_41 := hts (.fieldLink RX7 41 "HopperCourtModel" "movedFrom" "[I") (by decide +kernel)
  have fl_44 := hts (.fieldLink RX7 44 "HopperCourtModel" "movedTo" "[I") (by decide +kernel)
  have fl_47 := hts (.fieldLink RX7 47 "HopperCourtModel" "turnWas" "[I") (by decide +kernel)
  have fl_50 := hts (.fieldLink RX7 50 "HopperCourtModel" "outWas" "[I") (by decide +kernel)
  have fl_53 := hts (.fieldLink RX7 53 "HopperCourtModel" "finishersWas" "[I") (by decide +kernel)
  have fl_83 := hts (.fieldLink RX7 83 "HopperCourtModel" "turn" "I") (by decide +kernel)
  have hJ13 : ∀ (vZ_turn vZ_made vZ_out vZ_finishers vZ_thrown : Int32) (vZ_board vZ_movesOf : Nat → Int32) (t1 : Int32), wJ_X7_undo_13 vZ_players vZ_fill vZ_patience vZ_turn vZ_made vZ_out vZ_finishers vZ_thrown vZ_board vZ_movesOf vZ_movedFrom vZ_movedTo vZ_turnWas vZ_outWas vZ_finishersWas t1 Q → ∀ (H : Heap) (locs : List Loc) (ls : Array Slot), va_P D vwCl (cl_X7_undo ad cs vZ_players vZ_fill vZ_patience vZ_turn vZ_made vZ_out vZ_finishers vZ_thrown vZ_board vZ_movesOf vZ_movedFrom vZ_movedTo vZ_turnWas vZ_outWas vZ_finishersWas) H → va_D A (cl_X7_undo ad cs vZ_players vZ_fill vZ_patience vZ_turn vZ_made vZ_out vZ_finishers vZ_thrown vZ_board vZ_movesOf vZ_movedFrom vZ_movedTo vZ_turnWas vZ_outWas vZ_finishersWas) → va_S A s.heap H locs → lv_has ls 1 [(0, .ref (ad 28))] → W p l e rm_X7_undo s m args below meth c H locs 0 0 QQ (F0 m 13 ls [.int t1, .ref (ad 28)]) := by
    intro vZ_turn vZ_made vZ_out vZ_finishers vZ_thrown vZ_board vZ_movesOf t1 hw  H locs ls hP hD hS hl
    unfold wJ_X7_undo_13 at hw
    refine pcVi (rest := []) (wr := [((ad 35), .inl ((cs 35), 121, .inl vZ_board)), ((ad 36), .inl ((cs 36), 6, .inl vZ_movesOf)), ((ad 38), .inl ((cs 38), 300, .inl vZ_movedFrom)), ((ad 39), .inl ((cs 39), 300, .inl vZ_movedTo)), ((ad 40), .inl ((cs 40), 300, .inl vZ_turnWas)), ((ad 41), .inl ((cs 41), 300, .inl vZ_outWas)), ((ad 42), .inl ((cs 42), 300, .inl vZ_finishersWas))]) (ci := 7) S0 (c_X7_can l D ad cs H.size vZ_players vZ_fill vZ_patience vZ_turn vZ_made vZ_out vZ_finishers vZ_thrown t1 _ hw) (cwV 1 hts gX7_undo_X7_can rfl rfl rfl (by decide +kernel) ⟨Nat.le_of_ble_eq_true rfl, Nat.le_of_ble_eq_true rfl⟩) hN hK hP hD hS hA [0] [1, 2, 3, 4, 5, 6, 7] [] ⟨rfl, rfl, rfl, rfl, rfl, by decide⟩ 0 rfl rfl rfl rfl hl.1 (Nat.le_of_ble_eq_true rfl) ⟨Nat.le_of_ble_eq_true rfl, Nat.le_of_ble_eq_true rfl⟩ dX7_undo_13 (fun r_1 u H locs hw hP hD hS => ?_)
    obtain ⟨vZ_thrown_2, rfl⟩ : ∃ z, z = u := ⟨_, rfl⟩
    have hP : va_P D vwCl (cl_X7_undo ad cs vZ_players vZ_fill vZ_patience vZ_turn vZ_made vZ_out vZ_finishers vZ_thrown_2 vZ_board vZ_movesOf vZ_movedFrom vZ_movedTo vZ_turnWas vZ_outWas vZ_finishersWas) H := hP.sub [7, 0, 1, 2, 3, 4, 5, 6] rfl
    have hD : va_D A (cl_X7_undo ad cs vZ_players vZ_fill vZ_patience vZ_turn vZ_made vZ_out vZ_finishers vZ_thrown_2 vZ_board vZ_movesOf vZ_movedFrom vZ_movedTo vZ_turnWas vZ_outWas vZ_finishersWas) := hD.sub [7, 0, 1, 2, 3, 4, 5, 6] (by decide) rfl
    refine lv_if_ne (tgt := 21) hx hb dX7_undo_16 (by decide) (fun c_3 => ?_) (fun c_3 => ?_)
    · have hw := hw.1 c_3
      refine lv_aload_n hx hb dX7_undo_21 rfl (lv_at hl 0 rfl) ?_
      refine lv_dup hx hb dX7_undo_22 rfl ?_
      refine va_get (D := D) (ci := 7) (v := .int vZ_made) (C := RX7) (T := TX7) (N := 27) hx hb hts inX7 hown hK hP 0 rfl rfl 11 (by decide) fl_103 (fun _ h9 => h9) rfl dX7_undo_23 ?_
      refine lv_iconst (v := (1 : Int32)) hx hb dX7_undo_26 (by decide) ?_
      refine lv_isub hx hb dX7_undo_27 ?_
      refine va_put (D := D) (ci := 7) (v := .int (vZ_made - (1 : Int32))) (ty := .int) (C := RX7) (T := TX7) (N := 27) hx hb hts inX7 tyX7 tyX7_ok nmX7 hown hK hP hD hS 0 rfl rfl 11 (by decide) fl_103 (fun _ h9 => h9) rfl (by decide +kernel) rfl rfl (Nat.le_of_ble_eq_true rfl) dX7_undo_28 (fun H locs hP hD hS => ?_)
      have hP : va_P D vwCl (cl_X7_undo ad cs vZ_players vZ_fill vZ_patience vZ_turn (vZ_made - (1 : Int32)) vZ_out vZ_finishers vZ_thrown_2 vZ_board vZ_movesOf vZ_movedFrom vZ_movedTo vZ_turnWas vZ_outWas vZ_finishersWas) H := hP
      have hD : va_D A (cl_X7_undo ad cs vZ_players vZ_fill vZ_patience vZ_turn (vZ_made - (1 : Int32)) vZ_out vZ_finishers vZ_thrown_2 vZ_board vZ_movesOf vZ_movedFrom vZ_movedTo vZ_turnWas vZ_outWas vZ_finishersWas) := hD
      refine lv_aload_n hx hb dX7_undo_31 rfl (lv_at hl 0 rfl) ?_
      refine lv_aload_n hx hb dX7_undo_32 rfl (lv_at hl 0 rfl) ?_
      refine va_get (D := D) (ci := 7) (v := .ref (ad 40)) (C := RX7) (T := TX7) (N := 27) hx hb hts inX7 hown hK hP 0 rfl rfl 18 (by decide) fl_47 (fun _ h9 => h9) rfl dX7_undo_33 ?_
      refine lv_aload_n hx hb dX7_undo_36 rfl (lv_at hl 0 rfl) ?_
      refine va_get (D := D) (ci := 7) (v := .int (vZ_made - (1 : Int32))) (C := RX7) (T := TX7) (N := 27) hx hb hts inX7 hown hK hP 0 rfl rfl 11 (by decide) fl_103 (fun _ h9 => h9) rfl dX7_undo_37 ?_
      obtain ⟨h_4, hw⟩ := hw
      refine va_iald hx hb hK hP 5 4 rfl rfl h_4 dX7_undo_40 ?_
      refine va_put (D := D) (ci := 7) (v := .int (vZ_turnWas (vZ_made - (1 : Int32)).toNatClampNeg)) (ty := .int) (C := RX7) (T := TX7) (N := 27) hx hb hts inX7 tyX7 tyX7_ok nmX7 hown hK hP hD hS 0 rfl rfl 10 (by decide) fl_83 (fun _ h9 => h9) rfl (by decide +kernel) rfl rfl (Nat.le_of_ble_eq_true rfl) dX7_undo_41 (fun H locs hP hD hS => ?_)
      have hP : va_P D vwCl (cl_X7_undo ad cs vZ_players vZ_fill vZ_patience (vZ_turnWas (vZ_made - (1 : Int32)).toNatClampNeg) (vZ_made - (1 : Int32)) vZ_out vZ_finishers vZ_thrown_2 vZ_board vZ_movesOf vZ_movedFrom vZ_movedTo vZ_turnWas vZ_outWas vZ_finishersWas) H := hP
      have hD : va_D A (cl_X7_undo ad cs vZ_players vZ_fill vZ_patience (vZ_turnWas (vZ_made - (1 : Int32)).toNatClampNeg) (vZ_made - (1 : Int32)) vZ_out vZ_finishers vZ_thrown_2 vZ_board vZ_movesOf vZ_movedFrom vZ_movedTo vZ_turnWas vZ_outWas vZ_finishersWas) := hD
      refine lv_aload_n hx hb dX7_undo_44 rfl (lv_at hl 0 rfl) ?_
      refine lv_aload_n hx hb dX7_undo_45 rfl (lv_at hl 0 rfl) ?_
      refine va_get (D := D) (ci := 7) (v := .ref (ad 41)) (C := RX7) (T := TX7) (N := 27) hx hb hts inX7 hown hK hP 0 rfl rfl 19 (by decide) fl_50 (fun _ h9 => h9) rfl dX7_undo_46 ?_
      refine lv_aload_n hx hb dX7_undo_49 rfl (lv_at hl 0 rfl) ?_
      refine va_get (D := D) (ci := 7) (v := .int (vZ_made - (1 : Int32))) (C := RX7) (T := TX7) (N := 27) hx hb hts inX7 hown hK hP 0 rfl rfl 11 (by decide) fl_103 (fun _ h9 => h9) rfl dX7_undo_50 ?_
      obtain ⟨h_5, hw⟩ := hw
      refine va_iald hx hb hK hP 6 5 rfl rfl h_5 dX7_undo_53 ?_
      refine va_put (D := D) (ci := 7) (v := .int (vZ_outWas (vZ_made - (1 : Int32)).toNatClampNeg)) (ty := .int) (C := RX7) (T := TX7) (N := 27) hx hb hts inX7 tyX7 tyX7_ok nmX7 hown hK hP hD hS 0 rfl rfl 12 (by decide) fl_106 (fun _ h9 => h9) rfl (by decide +kernel) rfl rfl (Nat.le_of_ble_eq_true rfl) dX7_undo_54 (fun H locs hP hD hS => ?_)
      have hP : va_P D vwCl (cl_X7_undo ad cs vZ_players vZ_fill vZ_patience (vZ_turnWas (vZ_made - (1 : Int32)).toNatClampNeg) (vZ_made - (1 : Int32)) (vZ_outWas (vZ_made - (1 : Int32)).toNatClampNeg) vZ_finishers vZ_thrown_2 vZ_board vZ_movesOf vZ_movedFrom vZ_movedTo vZ_turnWas vZ_outWas vZ_finishersWas) H := hP
      have hD : va_D A (cl_X7_undo ad cs vZ_players vZ_fill vZ_patience (vZ_turnWas (vZ_made - (1 : Int32)).toNatClampNeg) (vZ_made - (1 : Int32)) (vZ_outWas (vZ_made - (1 : Int32)).toNatClampNeg) vZ_finishers vZ_thrown_2 vZ_board vZ_movesOf vZ_movedFrom vZ_movedTo vZ_turnWas vZ_outWas vZ_finishersWas) := hD
      refine lv_aload_n hx hb dX7_undo_57 rfl (lv_at hl 0 rfl) ?_
      refine lv_aload_n hx hb dX7_undo_58 rfl (lv_at hl 0 rfl) ?_
      refine va_get (D := D) (ci := 7) (v := .ref (ad 42)) (C := RX7) (T := TX7) (N := 27) hx hb hts inX7 hown hK hP 0 rfl rfl 20 (by decide) fl_53 (fun _ h9 => h9) rfl dX7_undo_59 ?_
      refine lv_aload_n hx hb dX7_undo_62 rfl (lv_at hl 0 rfl) ?_
      refine va_get (D := D) (ci := 7) (v := .int (vZ_made - (1 : Int32))) (C := RX7) (T := TX7) (N := 27) hx hb hts inX7 hown hK hP 0 rfl rfl 11 (by decide) fl_103 (fun _ h9 => h9) rfl dX7_undo_63 ?_
      obtain ⟨h_6, hw⟩ := hw
      refine va_iald hx hb hK hP 7 6 rfl rfl h_6 dX7_undo_66 ?_
      refine va_put (D := D) (ci := 7) (v := .int (vZ_finishersWas (vZ_made - (1 : Int32)).toNatClampNeg)) (ty := .int) (C := RX7) (T := TX7) (N := 27) hx hb hts inX7 tyX7 tyX7_ok nmX7 hown hK hP hD hS 0 rfl rfl 14 (by decide) fl_109 (fun _ h9 => h9) rfl (by decide +kernel) rfl rfl (Nat.le_of_ble_eq_true rfl) dX7_undo_67 (fun H locs hP hD hS => ?_)
      have hP : va_P D vwCl (cl_X7_undo ad cs vZ_players vZ_fill vZ_patience (vZ_turnWas (vZ_made - (1 : Int32)).toNatClampNeg) (vZ_made - (1 : Int32)) (vZ_outWas (vZ_made - (1 : Int32)).toNatClampNeg) (vZ_finishersWas (vZ_made - (1 : Int32)).toNatClampNeg) vZ_thrown_2 vZ_board vZ_movesOf vZ_movedFrom vZ_movedTo vZ_turnWas vZ_outWas vZ_finishersWas) H := hP
      have hD : va_D A (cl_X7_undo ad cs vZ_players vZ_fill vZ_patience (vZ_turnWas (vZ_made - (1 : Int32)).toNatClampNeg) (vZ_made - (1 : Int32)) (vZ_outWas (vZ_made - (1 : Int32)).toNatClampNeg) (vZ_finishersWas (vZ_made - (1 : Int32)).toNatClampNeg) vZ_thrown_2 vZ_board vZ_movesOf vZ_movedFrom vZ_movedTo vZ_turnWas vZ_outWas vZ_finishersWas) := hD
      refine lv_aload_n hx hb dX7_undo_70 rfl (lv_at hl 0 rfl) ?_
      refine va_get (D := D) (ci := 7) (v := .ref (ad 36)) (C := RX7) (T := TX7) (N := 27) hx hb hts inX7 hown hK hP 0 rfl rfl 13 (by decide) fl_35 (fun _ h9 => h9) rfl dX7_undo_71 ?_
      refine lv_aload_n hx hb dX7_undo_74 rfl (lv_at hl 0 rfl) ?_
      refine va_get (D := D) (ci := 7) (v := .int (vZ_turnWas (vZ_made - (1 : Int32)).toNatClampNeg)) (C := RX7) (T := TX7) (N := 27) hx hb hts inX7 hown hK hP 0 rfl rfl 10 (by decide) fl_83 (fun _ h9 => h9) rfl dX7_undo_75 ?_
      refine lv_dup2_11 hx hb dX7_undo_78 rfl rfl ?_
      obtain ⟨h_7, hw⟩ := hw
      refine va_iald hx hb hK hP 2 1 rfl rfl h_7 dX7_undo_79 ?_
      refine lv_iconst (v := (1 : Int32)) hx hb dX7_undo_80 (by decide) ?_
      refine lv_isub hx hb dX7_undo_81 ?_
      obtain ⟨h_8, hw⟩ := hw
      refine va_iast hx hb hK hP hD hS 2 1 rfl rfl h_8 dX7_undo_82 (fun H locs hP hD hS => ?_)
      have hP : va_P D vwCl (cl_X7_undo ad cs vZ_players vZ_fill vZ_patience (vZ_turnWas (vZ_made - (1 : Int32)).toNatClampNeg) (vZ_made - (1 : Int32)) (vZ_outWas (vZ_made - (1 : Int32)).toNatClampNeg) (vZ_finishersWas (vZ_made - (1 : Int32)).toNatClampNeg) vZ_thrown_2 vZ_board (upd vZ_movesOf (vZ_turnWas (vZ_made - (1 : Int32)).toNatClampNeg).toNatClampNeg ((vZ_movesOf (vZ_turnWas (vZ_made - (1 : Int32)).toNatClampNeg).toNatClampNeg) - (1 : Int32))) vZ_movedFrom vZ_movedTo vZ_turnWas vZ_outWas vZ_finishersWas) H := hP
      have hD : va_D A (cl_X7_undo ad cs vZ_players vZ_fill vZ_patience (vZ_turnWas (vZ_made - (1 : Int32)).toNatClampNeg) (vZ_made - (1 : Int32)) (vZ_outWas (vZ_made - (1 : Int32)).toNatClampNeg) (vZ_finishersWas (vZ_made - (1 : Int32)).toNatClampNeg) vZ_thrown_2 vZ_board (upd vZ_movesOf (vZ_turnWas (vZ_made - (1 : Int32)).toNatClampNeg).toNatClampNeg ((vZ_movesOf (vZ_turnWas (vZ_made - (1 : Int32)).toNatClampNeg).toNatClampNeg) - (1 : Int32))) vZ_movedFrom vZ_movedTo vZ_turnWas vZ_outWas vZ_finishersWas) := hD
      refine lv_aload_n hx hb dX7_undo_83 rfl (lv_at hl 0 rfl) ?_
      refine va_get (D := D) (ci := 7) (v := .ref (ad 38)) (C := RX7) (T := TX7) (N := 27) hx hb hts inX7 hown hK hP 0 rfl rfl 16 (by decide) fl_41 (fun _ h9 => h9) rfl dX7_undo_84 ?_
      refine lv_aload_n hx hb dX7_undo_87 rfl (lv_at hl 0 rfl) ?_
      refine va_get (D := D) (ci := 7) (v := .int (vZ_made - (1 : Int32))) (C := RX7) (T := TX7) (N := 27) hx hb hts inX7 hown hK hP 0 rfl rfl 11 (by decide) fl_103 (fun _ h9 => h9) rfl dX7_undo_88 ?_
      obtain ⟨h_9, hw⟩ := hw
      refine va_iald hx hb hK hP 3 2 rfl rfl h_9 dX7_undo_91 ?_
      refine lv_iconst (v := (-1 : Int32)) hx hb dX7_undo_92 (by decide) ?_
      refine lv_icmp_eq (tgt := 129) hx hb dX7_undo_93 (by decide) (fun c_10 => ?_) (fun c_10 => ?_)
      · have hw := hw.1 c_10
        refine lv_aload_n hx hb dX7_undo_129 rfl (lv_at hl 0 rfl) ?_
        refine va_get (D := D) (ci := 7) (v := .int (vZ_made - (1 : Int32))) (C := RX7) (T := TX7) (N := 27) hx hb hts inX7 hown hK hP 0 rfl rfl 11 (by decide) fl_103 (fun _ h9 => h9) rfl dX7_undo_130 ?_
        exact hret _ _ _ _ _ _ _ _ _ _ _ _ hw hP hD hS dX7_undo_133
      · have hw := hw.2 c_10
        refine lv_aload_n hx hb dX7_undo_96 rfl (lv_at hl 0 rfl) ?_
        refine va_get (D := D) (ci := 7) (v := .ref (ad 35)) (C := RX7) (T := TX7) (N := 27) hx hb hts inX7 hown hK hP 0 rfl rfl 9 (by decide) fl_32 (fun _ h9 => h9) rfl dX7_undo_97 ?_
        refine lv_aload_n hx hb dX7_undo_100 rfl (lv_at hl 0 rfl) ?_
        refine va_get (D := D) (ci := 7) (v := .ref (ad 38)) (C := RX7) (T := TX7) (N := 27) hx hb hts inX7 hown hK hP 0 rfl rfl 16 (by decide) fl_41 (fun _ h9 => h9) rfl dX7_undo_101 ?_
        refine lv_aload_n hx hb dX7_undo_104 rfl (lv_at hl 0 rfl) ?_
        refine va_get (D := D) (ci := 7) (v := .int (vZ_made - (1 : Int32))) (C := RX7) (T := TX7) (N := 27) hx hb hts inX7 hown hK hP 0 rfl rfl 11 (by decide) fl_103 (fun _ h9 => h9) rfl dX7_undo_105 ?_
        obtain ⟨h_11, hw⟩ := hw
        refine va_iald hx hb hK hP 3 2 rfl rfl h_11 dX7_undo_108 ?_
        refine lv_aload_n hx hb dX7_undo_109 rfl (lv_at hl 0 rfl) ?_
        refine va_get (D := D) (ci := 7) (v := .int (vZ_turnWas (vZ_made - (1 : Int32)).toNatClampNeg)) (C := RX7) (T := TX7) (N := 27) hx hb hts inX7 hown hK hP 0 rfl rfl 10 (by decide) fl_83 (fun _ h9 => h9) rfl dX7_undo_110 ?_
        obtain ⟨h_12, hw⟩ := hw
        refine va_iast hx hb hK hP hD hS 1 0 rfl rfl h_12 dX7_undo_113 (fun H locs hP hD hS => ?_)
        have hP : va_P D vwCl (cl_X7_undo ad cs vZ_players vZ_fill vZ_patience (vZ_turnWas (vZ_made - (1 : Int32)).toNatClampNeg) (vZ_made - (1 : Int32)) (vZ_outWas (vZ_made - (1 : Int32)).toNatClampNeg) (vZ_finishersWas (vZ_made - (1 : Int32)).toNatClampNeg) vZ_thrown_2 (upd vZ_board (vZ_movedFrom (vZ_made - (1 : Int32)).toNatClampNeg).toNatClampNeg (vZ_turnWas (vZ_made - (1 : Int32)).toNatClampNeg)) (upd vZ_movesOf (vZ_turnWas (vZ_made - (1 : Int32)).toNatClampNeg).toNatClampNeg ((vZ_movesOf (vZ_turnWas (vZ_made - (1 : Int32)).toNatClampNeg).toNatClampNeg) - (1 : Int32))) vZ_movedFrom vZ_movedTo vZ_turnWas vZ_outWas vZ_finishersWas) H := hP
        have hD : va_D A (cl_X7_undo ad cs vZ_players vZ_fill vZ_patience (vZ_turnWas (vZ_made - (1 : Int32)).toNatClampNeg) (vZ_made - (1 : Int32)) (vZ_outWas (vZ_made - (1 : Int32)).toNatClampNeg) (vZ_finishersWas (vZ_made - (1 : Int32)).toNatClampNeg) vZ_thrown_2 (upd vZ_board (vZ_movedFrom (vZ_made - (1 : Int32)).toNatClampNeg).toNatClampNeg (vZ_turnWas (vZ_made - (1 : Int32)).toNatClampNeg)) (upd vZ_movesOf (vZ_turnWas (vZ_made - (1 : Int32)).toNatClampNeg).toNatClampNeg ((vZ_movesOf (vZ_turnWas (vZ_made - (1 : Int32)).toNatClampNeg).toNatClampNeg) - (1 : Int32))) vZ_movedFrom vZ_movedTo vZ_turnWas vZ_outWas vZ_finishersWas) := hD
        refine lv_aload_n hx hb dX7_undo_114 rfl (lv_at hl 0 rfl) ?_
        refine va_get (D := D) (ci := 7) (v := .ref (ad 35)) (C := RX7) (T := TX7) (N := 27) hx hb hts inX7 hown hK hP 0 rfl rfl 9 (by decide) fl_32 (fun _ h9 => h9) rfl dX7_undo_115 ?_
        refine lv_aload_n hx hb dX7_undo_118 rfl (lv_at hl 0 rfl) ?_
        refine va_get (D := D) (ci := 7) (v := .ref (ad 39)) (C := RX7) (T := TX7) (N := 27) hx hb hts inX7 hown hK hP 0 rfl rfl 17 (by decide) fl_44 (fun _ h9 => h9) rfl dX7_undo_119 ?_
        refine lv_aload_n hx hb dX7_undo_122 rfl (lv_at hl 0 rfl) ?_
        refine va_get (D := D) (ci := 7) (v := .int (vZ_made - (1 : Int32))) (C := RX7) (T := TX7) (N := 27) hx hb hts inX7 hown hK hP 0 rfl rfl 11 (by decide) fl_103 (fun _ h9 => h9) rfl dX7_undo_123 ?_
        obtain ⟨h_13, hw⟩ := hw
        refine va_iald hx hb hK hP 4 3 rfl rfl h_13 dX7_undo_126 ?_
        refine lv_iconst (v := (-1 : Int32)) hx hb dX7_undo_127 (by decide) ?_
        obtain ⟨h_14, hw⟩ := hw
        refine va_iast hx hb hK hP hD hS 1 0 rfl rfl h_14 dX7_undo_128 (fun H locs hP hD hS => ?_)
        have hP : va_P D vwCl (cl_X7_undo ad cs vZ_players vZ_fill vZ_patience (vZ_turnWas (vZ_made - (1 : Int32)).toNatClampNeg) (vZ_made - (1 : Int32)) (vZ_outWas (vZ_made - (1 : Int32)).toNatClampNeg) (vZ_finishersWas (vZ_made - (1 : Int32)).toNatClampNeg) vZ_thrown_2 (upd (upd vZ_board (vZ_movedFrom (vZ_made - (1 : Int32)).toNatClampNeg).toNatClampNeg (vZ_turnWas (vZ_made - (1 : Int32)).toNatClampNeg)) (vZ_movedTo (vZ_made - (1 : Int32)).toNatClampNeg).toNatClampNeg (-1 : Int32)) (upd vZ_movesOf (vZ_turnWas (vZ_made - (1 : Int32)).toNatClampNeg).toNatClampNeg ((vZ_movesOf (vZ_turnWas (vZ_made - (1 : Int32)).toNatClampNeg).toNatClampNeg) - (1 : Int32))) vZ_movedFrom vZ_movedTo vZ_turnWas vZ_outWas vZ_finishersWas) H := hP
        have hD : va_D A (cl_X7_undo ad cs vZ_players vZ_fill vZ_patience (vZ_turnWas (vZ_made - (1 : Int32)).toNatClampNeg) (vZ_made - (1 : Int32)) (vZ_outWas (vZ_made - (1 : Int32)).toNatClampNeg) (vZ_finishersWas (vZ_made - (1 : Int32)).toNatClampNeg) vZ_thrown_2 (upd (upd vZ_board (vZ_movedFrom (vZ_made - (1 : Int32)).toNatClampNeg).toNatClampNeg (vZ_turnWas (vZ_made - (1 : Int32)).toNatClampNeg)) (vZ_movedTo (vZ_made - (1 : Int32)).toNatClampNeg).toNatClampNeg (-1 : Int32)) (upd vZ_movesOf (vZ_turnWas (vZ_made - (1 : Int32)).toNatClampNeg).toNatClampNeg ((vZ_movesOf (vZ_turnWas (vZ_made - (1 : Int32)).toNatClampNeg).toNatClampNeg) - (1 : Int32))) vZ_movedFrom vZ_movedTo vZ_turnWas vZ_outWas vZ_finishersWas) := hD
        refine lv_aload_n hx hb dX7_undo_129 rfl (lv_at hl 0 rfl) ?_
        refine va_get (D := D) (ci := 7) (v := .int (vZ_made - (1 : Int32))) (C := RX7) (T := TX7) (N := 27) hx hb hts inX7 hown hK hP 0 rfl rfl 11 (by decide) fl_103 (fun _ h9 => h9) rfl dX7_undo_130 ?_
        exact hret _ _ _ _ _ _ _ _ _ _ _ _ hw hP hD hS dX7_undo_133
    · have hw := hw.2 c_3
      refine lv_iconst (v := (0 : Int32)) hx hb dX7_undo_19 (by decide) ?_
      exact hret _ _ _ _ _ _ _ _ _ _ _ _ hw hP hD hS dX7_undo_20
  obtain ⟨H, hH⟩ : ∃ H : Heap, H = s.heap := ⟨_, rfl⟩
  have hS : va_S A s.heap H [] := by rw [hH]; exact va_S.rf
  rw [← hH] at hP ⊢
  unfold wp_X7_undo at hw
  refine lv_aload_n hx hb dX7_undo_0 rfl (lv_at hl 0 rfl) ?_
  refine lv_aload_n hx hb dX7_undo_1 rfl (lv_at hl 0 rfl) ?_
  refine va_get (D := D) (ci := 7) (v := .int vZ_made) (C := RX7) (T := TX7) (N := 27) hx hb hts inX7 hown hK hP 0 rfl rfl 11 (by decide) fl_103 (fun _ h9 => h9) rfl dX7_undo_2 ?_
  refine lv_if_ne (tgt := 12) hx hb dX7_undo_5 (by decide) (fun c_15 => ?_) (fun c_15 => ?_)
  · have hw := hw.1 c_15
    refine lv_iconst (v := (0 : Int32)) hx hb dX7_undo_12 (by decide) ?_
    exact hJ13 vZ_turn vZ_made vZ_out vZ_finishers vZ_thrown vZ_board vZ_movesOf (0 : Int32) hw _ _ _ hP hD hS (lv_sub hl [0] rfl)
  · have hw := hw.2 c_15
    refine lv_iconst (v := (1 : Int32)) hx hb dX7_undo_8 (by decide) ?_
    refine lv_goto (tgt := 13) hx hb dX7_undo_9 (by decide) ?_
    exact hJ13 vZ_turn vZ_made vZ_out vZ_finishers vZ_thrown vZ_board vZ_movesOf (1 : Int32) hw _ _ _ hP hD hS (lv_sub hl [0] rfl)
set_option maxHeartbeats 4000000 in
set_option maxRecDepth 100000 in
theorem c_X7_undo (l : Launch) (D : va_G) (ad : Nat → Nat) (cs : Nat → ClassId) (sz : Nat) (vZ_players vZ_fill vZ_patience vZ_turn vZ_made vZ_out vZ_finishers vZ_thrown : Int32) (vZ_board vZ_movesOf vZ_movedFrom vZ_movedTo vZ_turnWas vZ_outWas vZ_finishersWas : Nat → Int32) (Q : Int32 → Int32 → Int32 → Int32 → Int32 → Int32 → (Nat → Int32) → (Nat → Int32) → Prop) (hw : wp_X7_undo vZ_players vZ_fill vZ_patience vZ_turn vZ_made vZ_out vZ_finishers vZ_thrown vZ_board vZ_movesOf vZ_movedFrom vZ_movedTo vZ_turnWas vZ_outWas vZ_finishersWas Q) :
  Met l yX7_undo wsX7_undo rm_X7_undo (va_Pc [.ref (ad 28)] (PX D (cl_X7_undo ad cs vZ_players vZ_fill vZ_patience vZ_turn vZ_made vZ_out vZ_finishers vZ_thrown vZ_board vZ_movesOf vZ_movedFrom vZ_movedTo vZ_turnWas vZ_outWas vZ_finishersWas) (ty_X7_undo cs) sz)) (va_Qi (fun (r : Int32) (u : Int32 × Int32 × Int32 × Int32 × Int32 × (Nat → Int32) × (Nat → Int32)) => Q r u.1 u.2.1 u.2.2.1 u.2.2.2.1 u.2.2.2.2.1 u.2.2.2.2.2.1 u.2.2.2.2.2.2) (fun (u : Int32 × Int32 × Int32 × Int32 × Int32 × (Nat → Int32) × (Nat → Int32)) t => va_P D vwCl (cl_X7_undo ad cs vZ_players vZ_fill vZ_patience u.1 u.2.1 u.2.2.1 u.2.2.2.1 u.2.2.2.2.1 u.2.2.2.2.2.1 u.2.2.2.2.2.2 vZ_movedFrom vZ_movedTo vZ_turnWas vZ_outWas vZ_finishersWas) t.heap ∧ va_D (va_A (cl_X7_undo ad cs vZ_players vZ_fill vZ_patience vZ_turn vZ_made vZ_out vZ_finishers vZ_thrown vZ_board vZ_movesOf vZ_movedFrom vZ_movedTo vZ_turnWas vZ_outWas vZ_finishersWas) sz) (cl_X7_undo ad cs vZ_players vZ_fill vZ_patience u.1 u.2.1 u.2.2.1 u.2.2.2.1 u.2.2.2.2.1 u.2.2.2.2.2.1 u.2.2.2.2.2.2 vZ_movedFrom vZ_movedTo vZ_turnWas vZ_outWas vZ_finishersWas)) (va_A (cl_X7_undo ad cs vZ_players vZ_fill vZ_patience vZ_turn vZ_made vZ_out vZ_finishers vZ_thrown vZ_board vZ_movesOf vZ_movedFrom vZ_movedTo vZ_turnWas vZ_outWas vZ_finishersWas) sz)) 0 0 (va_A (cl_X7_undo ad cs vZ_players vZ_fill vZ_patience vZ_turn vZ_made vZ_out vZ_finishers vZ_thrown vZ_board vZ_movesOf vZ_movedFrom vZ_movedTo vZ_turnWas vZ_outWas vZ_finishersWas) sz) := by
  refine Met.ofW (cc := cX7_undo) (maxL := 1) (ret := (some .int)) (by decide) rfl ?_
  intro p e s m args below meth c s₁ B hml hv
  obtain ⟨rfl, hsz, hP, hK, hD0, hN⟩ := hv
  subst hsz
  have hl := lv_entry ([.ref (ad 28)]) (n := 1) (Nat.le_of_ble_eq_true rfl)
  rw [lg_entry_eq]
  have hx := B.exec
  have hb := B.bytes
  have hr := B.returns
  exact b_X7_undo l D ad cs vZ_players vZ_fill vZ_patience vZ_turn vZ_made vZ_out vZ_finishers vZ_thrown vZ_board vZ_movesOf vZ_movedFrom vZ_movedTo vZ_turnWas vZ_outWas vZ_finishersWas Q hx hb hml (findClass_of_methodNamed B.named) (atoms_spec (ws := wsX7_undo) B.pre) hN hP hK hD0.self (fun q h => Or.inr h) hl (fun r o0 o1 o2 o3 o4 o5 o6 H locs pc ls hq hP hD hS hd => W.iret (v := r) hx hb hr (fun t ht hW => ⟨⟨r, (o0, o1, o2, o3, o4, o5, o6), rfl, hq, by rw [ht]; exact hP, hD⟩, hS.F ht⟩) hS.2.2 hd) hw
abbrev rm_X7_at : Room := { frames := 2, cells := 0, slots := 0, locals := 42 }
abbrev cl_X7_at (ad : Nat → Nat) (cs : Nat → ClassId) (vZ_players vZ_fill vZ_patience vZ_turn vZ_made vZ_out vZ_finishers vZ_thrown : Int32) (vZ_board : Nat → Int32) : va_W := [((ad 28), .inr (7, [.ref (ad 29), .ref (ad 30), .ref (ad 31), .ref (ad 32), .ref (ad 33), .ref (ad 34), .int vZ_players, .int vZ_fill, .int vZ_patience, .ref (ad 35), .int vZ_turn, .int vZ_made, .int vZ_out, .ref (ad 36), .int vZ_finishers, .ref (ad 37), .ref (ad 38), .ref (ad 39), .ref (ad 40), .ref (ad 41), .ref (ad 42), .ref (ad 43), .ref (ad 44), .ref (ad 45), .ref (ad 46), .ref (ad 47), .int vZ_thrown])), ((ad 35), .inl ((cs 35), 121, .inl vZ_board))]
abbrev ty_X7_at (cs : Nat → ClassId) : List (ClassId × FieldType) := [((cs 35), .int)]
def wJ_X7_at_13 (vZ_players vZ_fill vZ_patience vZ_turn vZ_made vZ_out vZ_finishers vZ_thrown : Int32) (vZ_board : Nat → Int32) (x1 t1 : Int32) (Q : Int32 → Int32 → Prop) : Prop :=
 wp_X7_can vZ_players vZ_fill vZ_patience vZ_turn vZ_made vZ_out vZ_finishers vZ_thrown t1 (fun r_1 vZ_thrown_2 =>
 ((r_1 = 0 → Q (0 : Int32) vZ_thrown_2) ∧
 (¬ r_1 = 0 → (vp_in x1 121 ∧
 Q (vZ_board x1.toNatClampNeg) vZ_thrown_2))))
def wp_X7_at (vZ_players vZ_fill vZ_patience vZ_turn vZ_made vZ_out vZ_finishers vZ_thrown : Int32) (vZ_board : Nat → Int32) (x1 : Int32) (Q : Int32 → Int32 → Prop) : Prop :=
 wp_X7_isCell x1 (fun r_5 =>
 ((r_5 = 0 → wJ_X7_at_13 vZ_players vZ_fill vZ_patience vZ_turn vZ_made vZ_out vZ_finishers vZ_thrown vZ_board x1 (1 : Int32) Q) ∧
 (¬ r_5 = 0 → wJ_X7_at_13 vZ_players vZ_fill vZ_patience vZ_turn vZ_made vZ_out vZ_finishers vZ_thrown vZ_board x1 (0 : Int32) Q)))
set_option maxHeartbeats 4000000 in
set_option maxRecDepth 100000 in
theorem b_X7_at {p : Program} {e : Env} {s : State} {m : MethodId} {args : Array Value} {below : List Frame} {meth : Method} {c : Code} {QQ : State → Prop} {A : Nat → Prop} {ls : Array Slot} (l : Launch) (D : va_G) (ad : Nat → Nat) (cs : Nat → ClassId) (vZ_players vZ_fill vZ_patience vZ_turn vZ_made vZ_out vZ_finishers vZ_thrown : Int32) (vZ_board : Nat → Int32) (x1 : Int32) (Q : Int32 → Int32 → Prop) (hx : p.tables.exec = Jvm.exec) (hb : c.code = cX7_at) (hml : c.maxLocals = 2) (hown : s.vm.findClass RX7 = some m.cls) (hts : ∀ w ∈ wsX7_at, w.before args s = true) (hN : NW s) (hP : va_P D vwCl (cl_X7_at ad cs vZ_players vZ_fill vZ_patience vZ_turn vZ_made vZ_out vZ_finishers vZ_thrown vZ_board) s.heap) (hK : va_K D vwCl (ty_X7_at cs) s) (hD : va_D A (cl_X7_at ad cs vZ_players vZ_fill vZ_patience vZ_turn vZ_made vZ_out vZ_finishers vZ_thrown vZ_board)) (hA : ∀ q : Nat, s.heap.size ≤ q → A q) (hl : lv_has ls 2 [(0, .ref (ad 28)), (1, .int x1)])
  (hret : ∀ (r : Int32) (o0 : Int32) (H : Heap) (locs : List Loc) (pc : Nat) (ls : Array Slot), Q r o0 → va_P D vwCl (cl_X7_at ad cs vZ_players vZ_fill vZ_patience vZ_turn vZ_made vZ_out vZ_finishers o0 vZ_board) H → va_D A (cl_X7_at ad cs vZ_players vZ_fill vZ_patience vZ_turn vZ_made vZ_out vZ_finishers o0 vZ_board) → va_S A s.heap H locs → decode cX7_at pc = .ok (.ireturn, 1) → W p l e rm_X7_at s m args below meth c H locs 0 0 QQ (F0 m pc ls [.int r]))
  (hw : wp_X7_at vZ_players vZ_fill vZ_patience vZ_turn vZ_made vZ_out vZ_finishers vZ_thrown vZ_board x1 Q) :
  W p l e rm_X7_at s m args below meth c s.heap [] 0 0 QQ (F0 m 0 ls []) := by
  have S0 : CallFix p m c cX7_at 2 s args wsX7_at RX7 := ⟨hx, hb, hml, hown, hts⟩
  have inX7 : ∀ w ∈ u_ws RX7 TX7 27, w ∈ wsX7_at := by decide +kernel
  have fl_32 := hts (.fieldLink RX7 32 "HopperCourtModel" "board" "[I") (by decide +kernel)
  have hJ13 : ∀ (vZ_thrown x1 t1 : Int32), wJ_X7_at_13 vZ_players vZ_fill vZ_patience vZ_turn vZ_made vZ_out vZ_finishers vZ_thrown vZ_board x1 t1 Q → ∀ (H : Heap) (locs : List Loc) (ls : Array Slot), va_P D vwCl (cl_X7_at ad cs vZ_players vZ_fill vZ_patience vZ_turn vZ_made vZ_out vZ_finishers vZ_thrown vZ_board) H → va_D A (cl_X7_at ad cs vZ_players vZ_fill vZ_patience vZ_turn vZ_made vZ_out vZ_finishers vZ_thrown vZ_board) → va_S A s.heap H locs → lv_has ls 2 [(0, .ref (ad 28)), (1, .int x1)] → W p l e rm_X7_at s m args below meth c H locs 0 0 QQ (F0 m 13 ls [.int t1, .ref (ad 28)]) := by
    intro vZ_thrown x1 t1 hw  H locs ls hP hD hS hl
    unfold wJ_X7_at_13 at hw
    refine pcVi (rest := []) (wr := [((ad 35), .inl ((cs 35), 121, .inl vZ_board))]) (ci := 7) S0 (c_X7_can l D ad cs H.size vZ_players vZ_fill vZ_patience vZ_turn vZ_made vZ_out vZ_finishers vZ_thrown t1 _ hw) (cwV 1 hts gX7_at_X7_can rfl rfl rfl (by decide +kernel) ⟨Nat.le_of_ble_eq_true rfl, Nat.le_of_ble_eq_true rfl⟩) hN hK hP hD hS hA [0] [1] [] ⟨rfl, rfl, rfl, rfl, rfl, by decide⟩ 0 rfl rfl rfl rfl hl.1 (Nat.le_of_ble_eq_true rfl) ⟨Nat.le_of_ble_eq_true rfl, Nat.le_of_ble_eq_true rfl⟩ dX7_at_13 (fun r_1 u H locs hw hP hD hS => ?_)
    obtain ⟨vZ_thrown_2, rfl⟩ : ∃ z, z = u := ⟨_, rfl⟩
    have hP : va_P D vwCl (cl_X7_at ad cs vZ_players vZ_fill vZ_patience vZ_turn vZ_made vZ_out vZ_finishers vZ_thrown_2 vZ_board) H := hP.sub [1, 0] rfl
    have hD : va_D A (cl_X7_at ad cs vZ_players vZ_fill vZ_patience vZ_turn vZ_made vZ_out vZ_finishers vZ_thrown_2 vZ_board) := hD.sub [1, 0] (by decide) rfl
    refine lv_if_eq (tgt := 28) hx hb dX7_at_16 (by decide) (fun c_3 => ?_) (fun c_3 => ?_)
    · have hw := hw.1 c_3
      refine lv_iconst (v := (0 : Int32)) hx hb dX7_at_28 (by decide) ?_
      exact hret _ _ _ _ _ _ hw hP hD hS dX7_at_29
    · have hw := hw.2 c_3
      refine lv_aload_n hx hb dX7_at_19 rfl (lv_at hl 0 rfl) ?_
      refine va_get (D := D) (ci := 7) (v := .ref (ad 35)) (C := RX7) (T := TX7) (N := 27) hx hb hts inX7 hown hK hP 0 rfl rfl 9 (by decide) fl_32 (fun _ h9 => h9) rfl dX7_at_20 ?_
      refine lv_iload_n hx hb dX7_at_23 rfl (lv_at hl 1 rfl) ?_
      obtain ⟨h_4, hw⟩ := hw
      refine va_iald hx hb hK hP 1 0 rfl rfl h_4 dX7_at_24 ?_
      refine lv_goto (tgt := 29) hx hb dX7_at_25 (by decide) ?_
      exact hret _ _ _ _ _ _ hw hP hD hS dX7_at_29
  obtain ⟨H, hH⟩ : ∃ H : Heap, H = s.heap := ⟨_, rfl⟩
  have hS : va_S A s.heap H [] := by rw [hH]; exact va_S.rf
  rw [← hH] at hP ⊢
  unfold wp_X7_at at hw
  refine lv_aload_n hx hb dX7_at_0 rfl (lv_at hl 0 rfl) ?_
  refine lv_iload_n hx hb dX7_at_1 rfl (lv_at hl 1 rfl) ?_
  refine pcS (rest := [.ref (ad 28)]) S0 (c_X7_isCell l D ad cs H.size x1 _ hw) (va_cwS 1 hts gX7_at_X7_isCell rfl rfl rfl (by decide +kernel) ⟨Nat.le_of_ble_eq_true rfl, Nat.le_of_ble_eq_true rfl⟩) hN hK hP hD [] [] rfl rfl rfl rfl rfl hl.1 (Nat.le_of_ble_eq_true rfl) ⟨Nat.le_of_ble_eq_true rfl, Nat.le_of_ble_eq_true rfl⟩ dX7_at_2 (fun r_5 hw => ?_)
  refine lv_if_eq (tgt := 12) hx hb dX7_at_5 (by decide) (fun c_6 => ?_) (fun c_6 => ?_)
  · have hw := hw.1 c_6
    refine lv_iconst (v := (1 : Int32)) hx hb dX7_at_12 (by decide) ?_
    exact hJ13 vZ_thrown x1 (1 : Int32) hw _ _ _ hP hD hS (lv_sub hl [0, 1] rfl)
  · have hw := hw.2 c_6
    refine lv_iconst (v := (0 : Int32)) hx hb dX7_at_8 (by decide) ?_
    refine lv_goto (tgt := 13) hx hb dX7_at_9 (by decide) ?_
    exact hJ13 vZ_thrown x1 (0 : Int32) hw _ _ _ hP hD hS (lv_sub hl [0, 1] rfl)
set_option maxHeartbeats 4000000 in
set_option maxRecDepth 100000 in
theorem c_X7_at (l : Launch) (D : va_G) (ad : Nat → Nat) (cs : Nat → ClassId) (sz : Nat) (vZ_players vZ_fill vZ_patience vZ_turn vZ_made vZ_out vZ_finishers vZ_thrown : Int32) (vZ_board : Nat → Int32) (x1 : Int32) (Q : Int32 → Int32 → Prop) (hw : wp_X7_at vZ_players vZ_fill vZ_patience vZ_turn vZ_made vZ_out vZ_finishers vZ_thrown vZ_board x1 Q) :
  Met l yX7_at wsX7_at rm_X7_at (va_Pc [.ref (ad 28), .int x1] (PX D (cl_X7_at ad cs vZ_players vZ_fill vZ_patience vZ_turn vZ_made vZ_out vZ_finishers vZ_thrown vZ_board) (ty_X7_at cs) sz)) (va_Qi (fun (r : Int32) (u : Int32) => Q r u) (fun (u : Int32) t => va_P D vwCl (cl_X7_at ad cs vZ_players vZ_fill vZ_patience vZ_turn vZ_made vZ_out vZ_finishers u vZ_board) t.heap ∧ va_D (va_A (cl_X7_at ad cs vZ_players vZ_fill vZ_patience vZ_turn vZ_made vZ_out vZ_finishers vZ_thrown vZ_board) sz) (cl_X7_at ad cs vZ_players vZ_fill vZ_patience vZ_turn vZ_made vZ_out vZ_finishers u vZ_board)) (va_A (cl_X7_at ad cs vZ_players vZ_fill vZ_patience vZ_turn vZ_made vZ_out vZ_finishers vZ_thrown vZ_board) sz)) 0 0 (va_A (cl_X7_at ad cs vZ_players vZ_fill vZ_patience vZ_turn vZ_made vZ_out vZ_finishers vZ_thrown vZ_board) sz) := by
  refine Met.ofW (cc := cX7_at) (maxL := 2) (ret := (some .int)) (by decide) rfl ?_
  intro p e s m args below meth c s₁ B hml hv
  obtain ⟨rfl, hsz, hP, hK, hD0, hN⟩ := hv
  subst hsz
  have hl := lv_entry ([.ref (ad 28), .int x1]) (n := 2) (Nat.le_of_ble_eq_true rfl)
  rw [lg_entry_eq]
  have hx := B.exec
  have hb := B.bytes
  have hr := B.returns
  exact b_X7_at l D ad cs vZ_players vZ_fill vZ_patience vZ_turn vZ_made vZ_out vZ_finishers vZ_thrown vZ_board x1 Q hx hb hml (findClass_of_methodNamed B.named) (atoms_spec (ws := wsX7_at) B.pre) hN hP hK hD0.self (fun q h => Or.inr h) hl (fun r o0 H locs pc ls hq hP hD hS hd => W.iret (v := r) hx hb hr (fun t ht hW => ⟨⟨r, o0, rfl, hq, by rw [ht]; exact hP, hD⟩, hS.F ht⟩) hS.2.2 hd) hw
abbrev rm_X7_cellAt : Room := { frames := 1, cells := 0, slots := 0, locals := 24 }
abbrev cl_X7_cellAt (ad : Nat → Nat) (cs : Nat → ClassId) (vZ_players vZ_fill vZ_patience vZ_turn vZ_made vZ_out vZ_finishers vZ_thrown : Int32) (vZ_row vZ_column : Nat → Int32) : va_W := [((ad 28), .inr (7, [.ref (ad 29), .ref (ad 30), .ref (ad 31), .ref (ad 32), .ref (ad 33), .ref (ad 34), .int vZ_players, .int vZ_fill, .int vZ_patience, .ref (ad 35), .int vZ_turn, .int vZ_made, .int vZ_out, .ref (ad 36), .int vZ_finishers, .ref (ad 37), .ref (ad 38), .ref (ad 39), .ref (ad 40), .ref (ad 41), .ref (ad 42), .ref (ad 43), .ref (ad 44), .ref (ad 45), .ref (ad 46), .ref (ad 47), .int vZ_thrown])), ((ad 29), .inl ((cs 29), 121, .inl vZ_row)), ((ad 30), .inl ((cs 30), 121, .inl vZ_column))]
abbrev ty_X7_cellAt (cs : Nat → ClassId) : List (ClassId × FieldType) := [((cs 29), .int), ((cs 30), .int)]
def wp_X7_cellAt (vZ_players vZ_fill vZ_patience vZ_turn vZ_made vZ_out vZ_finishers vZ_thrown : Int32) (vZ_row vZ_column : Nat → Int32) (x1 x2 : Int32) (Q : Int32 → Int32 → Prop) : Prop :=
 wp_X7_find vZ_players vZ_fill vZ_patience vZ_turn vZ_made vZ_out vZ_finishers (0 : Int32) vZ_row vZ_column x1 x2 (fun r_1 =>
 Q r_1 (0 : Int32))
set_option maxHeartbeats 4000000 in
set_option maxRecDepth 100000 in
theorem b_X7_cellAt {p : Program} {e : Env} {s : State} {m : MethodId} {args : Array Value} {below : List Frame} {meth : Method} {c : Code} {QQ : State → Prop} {A : Nat → Prop} {ls : Array Slot} (l : Launch) (D : va_G) (ad : Nat → Nat) (cs : Nat → ClassId) (vZ_players vZ_fill vZ_patience vZ_turn vZ_made vZ_out vZ_finishers vZ_thrown : Int32) (vZ_row vZ_column : Nat → Int32) (x1 x2 : Int32) (Q : Int32 → Int32 → Prop) (hx : p.tables.exec = Jvm.exec) (hb : c.code = cX7_cellAt) (hml : c.maxLocals = 3) (hown : s.vm.findClass RX7 = some m.cls) (hts : ∀ w ∈ wsX7_cellAt, w.before args s = true) (hN : NW s) (hP : va_P D vwCl (cl_X7_cellAt ad cs vZ_players vZ_fill vZ_patience vZ_turn vZ_made vZ_out vZ_finishers vZ_thrown vZ_row vZ_column) s.heap) (hK : va_K D vwCl (ty_X7_cellAt cs) s) (hD : va_D A (cl_X7_cellAt ad cs vZ_players vZ_fill vZ_patience vZ_turn vZ_made vZ_out vZ_finishers vZ_thrown vZ_row vZ_column)) (hA : ∀ q : Nat, s.heap.size ≤ q → A q) (hl : lv_has ls 3 [(0, .ref (ad 28)), (1, .int x1), (2, .int x2)])
  (hret : ∀ (r : Int32) (o0 : Int32) (H : Heap) (locs : List Loc) (pc : Nat) (ls : Array Slot), Q r o0 → va_P D vwCl (cl_X7_cellAt ad cs vZ_players vZ_fill vZ_patience vZ_turn vZ_made vZ_out vZ_finishers o0 vZ_row vZ_column) H → va_D A (cl_X7_cellAt ad cs vZ_players vZ_fill vZ_patience vZ_turn vZ_made vZ_out vZ_finishers o0 vZ_row vZ_column) → va_S A s.heap H locs → decode cX7_cellAt pc = .ok (.ireturn, 1) → W p l e rm_X7_cellAt s m args below meth c H locs 0 0 QQ (F0 m pc ls [.int r]))
  (hw : wp_X7_cellAt vZ_players vZ_fill vZ_patience vZ_turn vZ_made vZ_out vZ_finishers vZ_thrown vZ_row vZ_column x1 x2 Q) :
  W p l e rm_X7_cellAt s m args below meth c s.heap [] 0 0 QQ (F0 m 0 ls []) := by
  have S0 : CallFix p m c cX7_cellAt 3 s args wsX7_cellAt RX7 := ⟨hx, hb, hml, hown, hts⟩
  have inX7 : ∀ w ∈ u_ws RX7 TX7 27, w ∈ wsX7_cellAt := by decide +kernel
  have fl_86 := hts (.fieldLink RX7 86 "HopperCourtModel" "thrown" "I") (by decide +kernel)
  obtain ⟨H, hH⟩ : ∃ H : Heap, H = s.heap := ⟨_, rfl⟩
  have hS : va_S A s.heap H [] := by rw [hH]; exact va_S.rf
  rw [← hH] at hP ⊢
  unfold wp_X7_cellAt at hw
  refine lv_aload_n hx hb dX7_cellAt_0 rfl (lv_at hl 0 rfl) ?_
  refine lv_iconst (v := (0 : Int32)) hx hb dX7_cellAt_1 (by decide) ?_
  refine va_put (D := D) (ci := 7) (v := .int (0 : Int32)) (ty := .int) (C := RX7) (T := TX7) (N := 27) hx hb hts inX7 tyX7 tyX7_ok nmX7 hown hK hP hD hS 0 rfl rfl 26 (by decide) fl_86 (fun _ h9 => h9) rfl (by decide +kernel) rfl rfl (Nat.le_of_ble_eq_true rfl) dX7_cellAt_2 (fun H locs hP hD hS => ?_)
  have hP : va_P D vwCl (cl_X7_cellAt ad cs vZ_players vZ_fill vZ_patience vZ_turn vZ_made vZ_out vZ_finishers (0 : Int32) vZ_row vZ_column) H := hP
  have hD : va_D A (cl_X7_cellAt ad cs vZ_players vZ_fill vZ_patience vZ_turn vZ_made vZ_out vZ_finishers (0 : Int32) vZ_row vZ_column) := hD
  refine lv_aload_n hx hb dX7_cellAt_5 rfl (lv_at hl 0 rfl) ?_
  refine lv_iload_n hx hb dX7_cellAt_6 rfl (lv_at hl 1 rfl) ?_
  refine lv_iload_n hx hb dX7_cellAt_7 rfl (lv_at hl 2 rfl) ?_
  refine pcV (rest := []) (ci := 7) S0 (c_X7_find l D ad cs H.size vZ_players vZ_fill vZ_patience vZ_turn vZ_made vZ_out vZ_finishers (0 : Int32) vZ_row vZ_column x1 x2 _ hw) (cwV 2 hts gX7_cellAt_X7_find rfl rfl rfl (by decide +kernel) ⟨Nat.le_of_ble_eq_true rfl, Nat.le_of_ble_eq_true rfl⟩) hN hK hP hD [0, 1, 2] [0, 1] rfl rfl rfl 0 rfl rfl rfl rfl hl.1 (Nat.le_of_ble_eq_true rfl) ⟨Nat.le_of_ble_eq_true rfl, Nat.le_of_ble_eq_true rfl⟩ dX7_cellAt_8 (fun r_1 hw => ?_)
  exact hret _ _ _ _ _ _ hw hP hD hS dX7_cellAt_11
set_option maxHeartbeats 4000000 in
set_option maxRecDepth 100000 in
theorem c_X7_cellAt (l : Launch) (D : va_G) (ad : Nat → Nat) (cs : Nat → ClassId) (sz : Nat) (vZ_players vZ_fill vZ_patience vZ_turn vZ_made vZ_out vZ_finishers vZ_thrown : Int32) (vZ_row vZ_column : Nat → Int32) (x1 x2 : Int32) (Q : Int32 → Int32 → Prop) (hw : wp_X7_cellAt vZ_players vZ_fill vZ_patience vZ_turn vZ_made vZ_out vZ_finishers vZ_thrown vZ_row vZ_column x1 x2 Q) :
  Met l yX7_cellAt wsX7_cellAt rm_X7_cellAt (va_Pc [.ref (ad 28), .int x1, .int x2] (PX D (cl_X7_cellAt ad cs vZ_players vZ_fill vZ_patience vZ_turn vZ_made vZ_out vZ_finishers vZ_thrown vZ_row vZ_column) (ty_X7_cellAt cs) sz)) (va_Qi (fun (r : Int32) (u : Int32) => Q r u) (fun (u : Int32) t => va_P D vwCl (cl_X7_cellAt ad cs vZ_players vZ_fill vZ_patience vZ_turn vZ_made vZ_out vZ_finishers u vZ_row vZ_column) t.heap ∧ va_D (va_A (cl_X7_cellAt ad cs vZ_players vZ_fill vZ_patience vZ_turn vZ_made vZ_out vZ_finishers vZ_thrown vZ_row vZ_column) sz) (cl_X7_cellAt ad cs vZ_players vZ_fill vZ_patience vZ_turn vZ_made vZ_out vZ_finishers u vZ_row vZ_column)) (va_A (cl_X7_cellAt ad cs vZ_players vZ_fill vZ_patience vZ_turn vZ_made vZ_out vZ_finishers vZ_thrown vZ_row vZ_column) sz)) 0 0 (va_A (cl_X7_cellAt ad cs vZ_players vZ_fill vZ_patience vZ_turn vZ_made vZ_out vZ_finishers vZ_thrown vZ_row vZ_column) sz) := by
  refine Met.ofW (cc := cX7_cellAt) (maxL := 3) (ret := (some .int)) (by decide) rfl ?_
  intro p e s m args below meth c s₁ B hml hv
  obtain ⟨rfl, hsz, hP, hK, hD0, hN⟩ := hv
  subst hsz
  have hl := lv_entry ([.ref (ad 28), .int x1, .int x2]) (n := 3) (Nat.le_of_ble_eq_true rfl)
  rw [lg_entry_eq]
  have hx := B.exec
  have hb := B.bytes
  have hr := B.returns
  exact b_X7_cellAt l D ad cs vZ_players vZ_fill vZ_patience vZ_turn vZ_made vZ_out vZ_finishers vZ_thrown vZ_row vZ_column x1 x2 Q hx hb hml (findClass_of_methodNamed B.named) (atoms_spec (ws := wsX7_cellAt) B.pre) hN hP hK hD0.self (fun q h => Or.inr h) hl (fun r o0 H locs pc ls hq hP hD hS hd => W.iret (v := r) hx hb hr (fun t ht hW => ⟨⟨r, o0, rfl, hq, by rw [ht]; exact hP, hD⟩, hS.F ht⟩) hS.2.2 hd) hw
abbrev rm_X7_campOf : Room := { frames := 2, cells := 0, slots := 0, locals := 42 }
abbrev cl_X7_campOf (ad : Nat → Nat) (cs : Nat → ClassId) (vZ_players vZ_fill vZ_patience vZ_turn vZ_made vZ_out vZ_finishers vZ_thrown : Int32) (vZ_camp : Nat → Int32) : va_W := [((ad 28), .inr (7, [.ref (ad 29), .ref (ad 30), .ref (ad 31), .ref (ad 32), .ref (ad 33), .ref (ad 34), .int vZ_players, .int vZ_fill, .int vZ_patience, .ref (ad 35), .int vZ_turn, .int vZ_made, .int vZ_out, .ref (ad 36), .int vZ_finishers, .ref (ad 37), .ref (ad 38), .ref (ad 39), .ref (ad 40), .ref (ad 41), .ref (ad 42), .ref (ad 43), .ref (ad 44), .ref (ad 45), .ref (ad 46), .ref (ad 47), .int vZ_thrown])), ((ad 31), .inl ((cs 31), 121, .inl vZ_camp))]
abbrev ty_X7_campOf (cs : Nat → ClassId) : List (ClassId × FieldType) := [((cs 31), .int)]
def wJ_X7_campOf_13 (vZ_players vZ_fill vZ_patience vZ_turn vZ_made vZ_out vZ_finishers vZ_thrown : Int32) (vZ_camp : Nat → Int32) (x1 t1 : Int32) (Q : Int32 → Int32 → Prop) : Prop :=
 wp_X7_can vZ_players vZ_fill vZ_patience vZ_turn vZ_made vZ_out vZ_finishers vZ_thrown t1 (fun r_1 vZ_thrown_2 =>
 ((r_1 = 0 → Q (0 : Int32) vZ_thrown_2) ∧
 (¬ r_1 = 0 → (vp_in x1 121 ∧
 Q (vZ_camp x1.toNatClampNeg) vZ_thrown_2))))
def wp_X7_campOf (vZ_players vZ_fill vZ_patience vZ_turn vZ_made vZ_out vZ_finishers vZ_thrown : Int32) (vZ_camp : Nat → Int32) (x1 : Int32) (Q : Int32 → Int32 → Prop) : Prop :=
 wp_X7_isCell x1 (fun r_5 =>
 ((r_5 = 0 → wJ_X7_campOf_13 vZ_players vZ_fill vZ_patience vZ_turn vZ_made vZ_out vZ_finishers vZ_thrown vZ_camp x1 (1 : Int32) Q) ∧
 (¬ r_5 = 0 → wJ_X7_campOf_13 vZ_players vZ_fill vZ_patience vZ_turn vZ_made vZ_out vZ_finishers vZ_thrown vZ_camp x1 (0 : Int32) Q)))
set_option maxHeartbeats 4000000 in
set_option maxRecDepth 100000 in
theorem b_X7_campOf {p : Program} {e : Env} {s : State} {m : MethodId} {args : Array Value} {below : List Frame} {meth : Method} {c : Code} {QQ : State → Prop} {A : Nat → Prop} {ls : Array Slot} (l : Launch) (D : va_G) (ad : Nat → Nat) (cs : Nat → ClassId) (vZ_players vZ_fill vZ_patience vZ_turn vZ_made vZ_out vZ_finishers vZ_thrown : Int32) (vZ_camp : Nat → Int32) (x1 : Int32) (Q : Int32 → Int32 → Prop) (hx : p.tables.exec = Jvm.exec) (hb : c.code = cX7_campOf) (hml : c.maxLocals = 2) (hown : s.vm.findClass RX7 = some m.cls) (hts : ∀ w ∈ wsX7_campOf, w.before args s = true) (hN : NW s) (hP : va_P D vwCl (cl_X7_campOf ad cs vZ_players vZ_fill vZ_patience vZ_turn vZ_made vZ_out vZ_finishers vZ_thrown vZ_camp) s.heap) (hK : va_K D vwCl (ty_X7_campOf cs) s) (hD : va_D A (cl_X7_campOf ad cs vZ_players vZ_fill vZ_patience vZ_turn vZ_made vZ_out vZ_finishers vZ_thrown vZ_camp)) (hA : ∀ q : Nat, s.heap.size ≤ q → A q) (hl : lv_has ls 2 [(0, .ref (ad 28)), (1, .int x1)])
  (hret : ∀ (r : Int32) (o0 : Int32) (H : Heap) (locs : List Loc) (pc : Nat) (ls : Array Slot), Q r o0 → va_P D vwCl (cl_X7_campOf ad cs vZ_players vZ_fill vZ_patience vZ_turn vZ_made vZ_out vZ_finishers o0 vZ_camp) H → va_D A (cl_X7_campOf ad cs vZ_players vZ_fill vZ_patience vZ_turn vZ_made vZ_out vZ_finishers o0 vZ_camp) → va_S A s.heap H locs → decode cX7_campOf pc = .ok (.ireturn, 1) → W p l e rm_X7_campOf s m args below meth c H locs 0 0 QQ (F0 m pc ls [.int r]))
  (hw : wp_X7_campOf vZ_players vZ_fill vZ_patience vZ_turn vZ_made vZ_out vZ_finishers vZ_thrown vZ_camp x1 Q) :
  W p l e rm_X7_campOf s m args below meth c s.heap [] 0 0 QQ (F0 m 0 ls []) := by
  have S0 : CallFix p m c cX7_campOf 2 s args wsX7_campOf RX7 := ⟨hx, hb, hml, hown, hts⟩
  have inX7 : ∀ w ∈ u_ws RX7 TX7 27, w ∈ wsX7_campOf := by decide +kernel
  have fl_16 := hts (.fieldLink RX7 16 "HopperCourtModel" "camp" "[I") (by decide +kernel)
  have hJ13 : ∀ (vZ_thrown x1 t1 : Int32), wJ_X7_campOf_13 vZ_players vZ_fill vZ_patience vZ_turn vZ_made vZ_out vZ_finishers vZ_thrown vZ_camp x1 t1 Q → ∀ (H : Heap) (locs : List Loc) (ls : Array Slot), va_P D vwCl (cl_X7_campOf ad cs vZ_players vZ_fill vZ_patience vZ_turn vZ_made vZ_out vZ_finishers vZ_thrown vZ_camp) H → va_D A (cl_X7_campOf ad cs vZ_players vZ_fill vZ_patience vZ_turn vZ_made vZ_out vZ_finishers vZ_thrown vZ_camp) → va_S A s.heap H locs → lv_has ls 2 [(0, .ref (ad 28)), (1, .int x1)] → W p l e rm_X7_campOf s m args below meth c H locs 0 0 QQ (F0 m 13 ls [.int t1, .ref (ad 28)]) := by
    intro vZ_thrown x1 t1 hw  H locs ls hP hD hS hl
    unfold wJ_X7_campOf_13 at hw
    refine pcVi (rest := []) (wr := [((ad 31), .inl ((cs 31), 121, .inl vZ_camp))]) (ci := 7) S0 (c_X7_can l D ad cs H.size vZ_players vZ_fill vZ_patience vZ_turn vZ_made vZ_out vZ_finishers vZ_thrown t1 _ hw) (cwV 1 hts gX7_campOf_X7_can rfl rfl rfl (by decide +kernel) ⟨Nat.le_of_ble_eq_true rfl, Nat.le_of_ble_eq_true rfl⟩) hN hK hP hD hS hA [0] [1] [] ⟨rfl, rfl, rfl, rfl, rfl, by decide⟩ 0 rfl rfl rfl rfl hl.1 (Nat.le_of_ble_eq_true rfl) ⟨Nat.le_of_ble_eq_true rfl, Nat.le_of_ble_eq_true rfl⟩ dX7_campOf_13 (fun r_1 u H locs hw hP hD hS => ?_)
    obtain ⟨vZ_thrown_2, rfl⟩ : ∃ z, z = u := ⟨_, rfl⟩
    have hP : va_P D vwCl (cl_X7_campOf ad cs vZ_players vZ_fill vZ_patience vZ_turn vZ_made vZ_out vZ_finishers vZ_thrown_2 vZ_camp) H := hP.sub [1, 0] rfl
    have hD : va_D A (cl_X7_campOf ad cs vZ_players vZ_fill vZ_patience vZ_turn vZ_made vZ_out vZ_finishers vZ_thrown_2 vZ_camp) := hD.sub [1, 0] (by decide) rfl
    refine lv_if_eq (tgt := 28) hx hb dX7_campOf_16 (by decide) (fun c_3 => ?_) (fun c_3 => ?_)
    · have hw := hw.1 c_3
      refine lv_iconst (v := (0 : Int32)) hx hb dX7_campOf_28 (by decide) ?_
      exact hret _ _ _ _ _ _ hw hP hD hS dX7_campOf_29
    · have hw := hw.2 c_3
      refine lv_aload_n hx hb dX7_campOf_19 rfl (lv_at hl 0 rfl) ?_
      refine va_get (D := D) (ci := 7) (v := .ref (ad 31)) (C := RX7) (T := TX7) (N := 27) hx hb hts inX7 hown hK hP 0 rfl rfl 2 (by decide) fl_16 (fun _ h9 => h9) rfl dX7_campOf_20 ?_
      refine lv_iload_n hx hb dX7_campOf_23 rfl (lv_at hl 1 rfl) ?_
      obtain ⟨h_4, hw⟩ := hw
      refine va_iald hx hb hK hP 1 0 rfl rfl h_4 dX7_campOf_24 ?_
      refine lv_goto (tgt := 29) hx hb dX7_campOf_25 (by decide) ?_
      exact hret _ _ _ _ _ _ hw hP hD hS dX7_campOf_29
  obtain ⟨H, hH⟩ : ∃ H : Heap, H = s.heap := ⟨_, rfl⟩
  have hS : va_S A s.heap H [] := by rw [hH]; exact va_S.rf
  rw [← hH] at hP ⊢
  unfold wp_X7_campOf at hw
  refine lv_aload_n hx hb dX7_campOf_0 rfl (lv_at hl 0 rfl) ?_
  refine lv_iload_n hx hb dX7_campOf_1 rfl (lv_at hl 1 rfl) ?_
  refine pcS (rest := [.ref (ad 28)]) S0 (c_X7_isCell l D ad cs H.size x1 _ hw) (va_cwS 1 hts gX7_campOf_X7_isCell rfl rfl rfl (by decide +kernel) ⟨Nat.le_of_ble_eq_true rfl, Nat.le_of_ble_eq_true rfl⟩) hN hK hP hD [] [] rfl rfl rfl rfl rfl hl.1 (Nat.le_of_ble_eq_true rfl) ⟨Nat.le_of_ble_eq_true rfl, Nat.le_of_ble_eq_true rfl⟩ dX7_campOf_2 (fun r_5 hw => ?_)
  refine lv_if_eq (tgt := 12) hx hb dX7_campOf_5 (by decide) (fun c_6 => ?_) (fun c_6 => ?_)
  · have hw := hw.1 c_6
    refine lv_iconst (v := (1 : Int32)) hx hb dX7_campOf_12 (by decide) ?_
    exact hJ13 vZ_thrown x1 (1 : Int32) hw _ _ _ hP hD hS (lv_sub hl [0, 1] rfl)
  · have hw := hw.2 c_6
    refine lv_iconst (v := (0 : Int32)) hx hb dX7_campOf_8 (by decide) ?_
    refine lv_goto (tgt := 13) hx hb dX7_campOf_9 (by decide) ?_
    exact hJ13 vZ_thrown x1 (0 : Int32) hw _ _ _ hP hD hS (lv_sub hl [0, 1] rfl)
set_option maxHeartbeats 4000000 in
set_option maxRecDepth 100000 in
theorem c_X7_campOf (l : Launch) (D : va_G) (ad : Nat → Nat) (cs : Nat → ClassId) (sz : Nat) (vZ_players vZ_fill vZ_patience vZ_turn vZ_made vZ_out vZ_finishers vZ_thrown : Int32) (vZ_camp : Nat → Int32) (x1 : Int32) (Q : Int32 → Int32 → Prop) (hw : wp_X7_campOf vZ_players vZ_fill vZ_patience vZ_turn vZ_made vZ_out vZ_finishers vZ_thrown vZ_camp x1 Q) :
  Met l yX7_campOf wsX7_campOf rm_X7_campOf (va_Pc [.ref (ad 28), .int x1] (PX D (cl_X7_campOf ad cs vZ_players vZ_fill vZ_patience vZ_turn vZ_made vZ_out vZ_finishers vZ_thrown vZ_camp) (ty_X7_campOf cs) sz)) (va_Qi (fun (r : Int32) (u : Int32) => Q r u) (fun (u : Int32) t => va_P D vwCl (cl_X7_campOf ad cs vZ_players vZ_fill vZ_patience vZ_turn vZ_made vZ_out vZ_finishers u vZ_camp) t.heap ∧ va_D (va_A (cl_X7_campOf ad cs vZ_players vZ_fill vZ_patience vZ_turn vZ_made vZ_out vZ_finishers vZ_thrown vZ_camp) sz) (cl_X7_campOf ad cs vZ_players vZ_fill vZ_patience vZ_turn vZ_made vZ_out vZ_finishers u vZ_camp)) (va_A (cl_X7_campOf ad cs vZ_players vZ_fill vZ_patience vZ_turn vZ_made vZ_out vZ_finishers vZ_thrown vZ_camp) sz)) 0 0 (va_A (cl_X7_campOf ad cs vZ_players vZ_fill vZ_patience vZ_turn vZ_made vZ_out vZ_finishers vZ_thrown vZ_camp) sz) := by
  refine Met.ofW (cc := cX7_campOf) (maxL := 2) (ret := (some .int)) (by decide) rfl ?_
  intro p e s m args below meth c s₁ B hml hv
  obtain ⟨rfl, hsz, hP, hK, hD0, hN⟩ := hv
  subst hsz
  have hl := lv_entry ([.ref (ad 28), .int x1]) (n := 2) (Nat.le_of_ble_eq_true rfl)
  rw [lg_entry_eq]
  have hx := B.exec
  have hb := B.bytes
  have hr := B.returns
  exact b_X7_campOf l D ad cs vZ_players vZ_fill vZ_patience vZ_turn vZ_made vZ_out vZ_finishers vZ_thrown vZ_camp x1 Q hx hb hml (findClass_of_methodNamed B.named) (atoms_spec (ws := wsX7_campOf) B.pre) hN hP hK hD0.self (fun q h => Or.inr h) hl (fun r o0 H locs pc ls hq hP hD hS hd => W.iret (v := r) hx hb hr (fun t ht hW => ⟨⟨r, o0, rfl, hq, by rw [ht]; exact hP, hD⟩, hS.F ht⟩) hS.2.2 hd) hw
abbrev rm_X7_areCells : Room := { frames := 2, cells := 0, slots := 0, locals := 42 }
abbrev cl_X7_areCells (ad : Nat → Nat) (cs : Nat → ClassId) (vZ_players vZ_fill vZ_patience vZ_turn vZ_made vZ_out vZ_finishers vZ_thrown : Int32) : va_W := [((ad 28), .inr (7, [.ref (ad 29), .ref (ad 30), .ref (ad 31), .ref (ad 32), .ref (ad 33), .ref (ad 34), .int vZ_players, .int vZ_fill, .int vZ_patience, .ref (ad 35), .int vZ_turn, .int vZ_made, .int vZ_out, .ref (ad 36), .int vZ_finishers, .ref (ad 37), .ref (ad 38), .ref (ad 39), .ref (ad 40), .ref (ad 41), .ref (ad 42), .ref (ad 43), .ref (ad 44), .ref (ad 45), .ref (ad 46), .ref (ad 47), .int vZ_thrown]))]
abbrev ty_X7_areCells (cs : Nat → ClassId) : List (ClassId × FieldType) := []
def wJ_X7_areCells_20 (vZ_players vZ_fill vZ_patience vZ_turn vZ_made vZ_out vZ_finishers vZ_thrown t1 : Int32) (Q : Int32 → Int32 → Prop) : Prop :=
 wp_X7_can vZ_players vZ_fill vZ_patience vZ_turn vZ_made vZ_out vZ_finishers vZ_thrown t1 (fun r_1 vZ_thrown_2 =>
 (nb r_1 ∧ Q r_1 vZ_thrown_2))
def wp_X7_areCells (vZ_players vZ_fill vZ_patience vZ_turn vZ_made vZ_out vZ_finishers vZ_thrown x1 x2 : Int32) (Q : Int32 → Int32 → Prop) : Prop :=
 wp_X7_isCell x1 (fun r_4 =>
 ((r_4 = 0 → wJ_X7_areCells_20 vZ_players vZ_fill vZ_patience vZ_turn vZ_made vZ_out vZ_finishers vZ_thrown (1 : Int32) Q) ∧
 (¬ r_4 = 0 → wp_X7_isCell x2 (fun r_6 =>
 ((r_6 = 0 → wJ_X7_areCells_20 vZ_players vZ_fill vZ_patience vZ_turn vZ_made vZ_out vZ_finishers vZ_thrown (1 : Int32) Q) ∧
 (¬ r_6 = 0 → wJ_X7_areCells_20 vZ_players vZ_fill vZ_patience vZ_turn vZ_made vZ_out vZ_finishers vZ_thrown (0 : Int32) Q))))))
set_option maxHeartbeats 4000000 in
set_option maxRecDepth 100000 in
theorem b_X7_areCells {p : Program} {e : Env} {s : State} {m : MethodId} {args : Array Value} {below : List Frame} {meth : Method} {c : Code} {QQ : State → Prop} {A : Nat → Prop} {ls : Array Slot} (l : Launch) (D : va_G) (ad : Nat → Nat) (cs : Nat → ClassId) (vZ_players vZ_fill vZ_patience vZ_turn vZ_made vZ_out vZ_finishers vZ_thrown x1 x2 : Int32) (Q : Int32 → Int32 → Prop) (hx : p.tables.exec = Jvm.exec) (hb : c.code = cX7_areCells) (hml : c.maxLocals = 3) (hown : s.vm.findClass RX7 = some m.cls) (hts : ∀ w ∈ wsX7_areCells, w.before args s = true) (hN : NW s) (hP : va_P D vwCl (cl_X7_areCells ad cs vZ_players vZ_fill vZ_patience vZ_turn vZ_made vZ_out vZ_finishers vZ_thrown) s.heap) (hK : va_K D vwCl (ty_X7_areCells cs) s) (hD : va_D A (cl_X7_areCells ad cs vZ_players vZ_fill vZ_patience vZ_turn vZ_made vZ_out vZ_finishers vZ_thrown)) (hA : ∀ q : Nat, s.heap.size ≤ q → A q) (hl : lv_has ls 3 [(0, .ref (ad 28)), (1, .int x1), (2, .int x2)])
  (hret : ∀ (r : Int32) (o0 : Int32) (H : Heap) (locs : List Loc) (pc : Nat) (ls : Array Slot), nb r → Q r o0 → va_P D vwCl (cl_X7_areCells ad cs vZ_players vZ_fill vZ_patience vZ_turn vZ_made vZ_out vZ_finishers o0) H → va_D A (cl_X7_areCells ad cs vZ_players vZ_fill vZ_patience vZ_turn vZ_made vZ_out vZ_finishers o0) → va_S A s.heap H locs → decode cX7_areCells pc = .ok (.ireturn, 1) → W p l e rm_X7_areCells s m args below meth c H locs 0 0 QQ (F0 m pc ls [.int r]))
  (hw : wp_X7_areCells vZ_players vZ_fill vZ_patience vZ_turn vZ_made vZ_out vZ_finishers vZ_thrown x1 x2 Q) :
  W p l e rm_X7_areCells s m args below meth c s.heap [] 0 0 QQ (F0 m 0 ls []) := by
  have S0 : CallFix p m c cX7_areCells 3 s args wsX7_areCells RX7 := ⟨hx, hb, hml, hown, hts⟩
  have hJ20 : ∀ (vZ_thrown t1 : Int32), wJ_X7_areCells_20 vZ_players vZ_fill vZ_patience vZ_turn vZ_made vZ_out vZ_finishers vZ_thrown t1 Q → ∀ (H : Heap) (locs : List Loc) (ls : Array Slot), va_P D vwCl (cl_X7_areCells ad cs vZ_players vZ_fill vZ_patience vZ_turn vZ_made vZ_out vZ_finishers vZ_thrown) H → va_D A (cl_X7_areCells ad cs vZ_players vZ_fill vZ_patience vZ_turn vZ_made vZ_out vZ_finishers vZ_thrown) → va_S A s.heap H locs → lv_has ls 3 [] → W p l e rm_X7_areCells s m args below meth c H locs 0 0 QQ (F0 m 20 ls [.int t1, .ref (ad 28)]) := by
    intro vZ_thrown t1 hw  H locs ls hP hD hS hl
    unfold wJ_X7_areCells_20 at hw
    refine pcVi (rest := []) (wr := []) (ci := 7) S0 (c_X7_can l D ad cs H.size vZ_players vZ_fill vZ_patience vZ_turn vZ_made vZ_out vZ_finishers vZ_thrown t1 _ hw) (cwV 1 hts gX7_areCells_X7_can rfl rfl rfl (by decide +kernel) ⟨Nat.le_of_ble_eq_true rfl, Nat.le_of_ble_eq_true rfl⟩) hN hK hP hD hS hA [0] [] [] ⟨rfl, rfl, rfl, rfl, rfl, by decide⟩ 0 rfl rfl rfl rfl hl.1 (Nat.le_of_ble_eq_true rfl) ⟨Nat.le_of_ble_eq_true rfl, Nat.le_of_ble_eq_true rfl⟩ dX7_areCells_20 (fun r_1 u H locs hw hP hD hS => ?_)
    obtain ⟨vZ_thrown_2, rfl⟩ : ∃ z, z = u := ⟨_, rfl⟩
    have hP : va_P D vwCl (cl_X7_areCells ad cs vZ_players vZ_fill vZ_patience vZ_turn vZ_made vZ_out vZ_finishers vZ_thrown_2) H := hP.sub [0] rfl
    have hD : va_D A (cl_X7_areCells ad cs vZ_players vZ_fill vZ_patience vZ_turn vZ_made vZ_out vZ_finishers vZ_thrown_2) := hD.sub [0] (by decide) rfl
    obtain ⟨h_3, hw⟩ := hw
    exact hret _ _ _ _ _ _ h_3 hw hP hD hS dX7_areCells_23
  obtain ⟨H, hH⟩ : ∃ H : Heap, H = s.heap := ⟨_, rfl⟩
  have hS : va_S A s.heap H [] := by rw [hH]; exact va_S.rf
  rw [← hH] at hP ⊢
  unfold wp_X7_areCells at hw
  refine lv_aload_n hx hb dX7_areCells_0 rfl (lv_at hl 0 rfl) ?_
  refine lv_iload_n hx hb dX7_areCells_1 rfl (lv_at hl 1 rfl) ?_
  refine pcS (rest := [.ref (ad 28)]) S0 (c_X7_isCell l D ad cs H.size x1 _ hw) (va_cwS 1 hts gX7_areCells_X7_isCell rfl rfl rfl (by decide +kernel) ⟨Nat.le_of_ble_eq_true rfl, Nat.le_of_ble_eq_true rfl⟩) hN hK hP hD [] [] rfl rfl rfl rfl rfl hl.1 (Nat.le_of_ble_eq_true rfl) ⟨Nat.le_of_ble_eq_true rfl, Nat.le_of_ble_eq_true rfl⟩ dX7_areCells_2 (fun r_4 hw => ?_)
  refine lv_if_eq (tgt := 19) hx hb dX7_areCells_5 (by decide) (fun c_5 => ?_) (fun c_5 => ?_)
  · have hw := hw.1 c_5
    refine lv_iconst (v := (1 : Int32)) hx hb dX7_areCells_19 (by decide) ?_
    exact hJ20 vZ_thrown (1 : Int32) hw _ _ _ hP hD hS (lv_sub hl [] rfl)
  · have hw := hw.2 c_5
    refine lv_iload_n hx hb dX7_areCells_8 rfl (lv_at hl 2 rfl) ?_
    refine pcS (rest := [.ref (ad 28)]) S0 (c_X7_isCell l D ad cs H.size x2 _ hw) (va_cwS 1 hts gX7_areCells_X7_isCell rfl rfl rfl (by decide +kernel) ⟨Nat.le_of_ble_eq_true rfl, Nat.le_of_ble_eq_true rfl⟩) hN hK hP hD [] [] rfl rfl rfl rfl rfl hl.1 (Nat.le_of_ble_eq_true rfl) ⟨Nat.le_of_ble_eq_true rfl, Nat.le_of_ble_eq_true rfl⟩ dX7_areCells_9 (fun r_6 hw => ?_)
    refine lv_if_eq (tgt := 19) hx hb dX7_areCells_12 (by decide) (fun c_7 => ?_) (fun c_7 => ?_)
    · have hw := hw.1 c_7
      refine lv_iconst (v := (1 : Int32)) hx hb dX7_areCells_19 (by decide) ?_
      exact hJ20 vZ_thrown (1 : Int32) hw _ _ _ hP hD hS (lv_sub hl [] rfl)
    · have hw := hw.2 c_7
      refine lv_iconst (v := (0 : Int32)) hx hb dX7_areCells_15 (by decide) ?_
      refine lv_goto (tgt := 20) hx hb dX7_areCells_16 (by decide) ?_
      exact hJ20 vZ_thrown (0 : Int32) hw _ _ _ hP hD hS (lv_sub hl [] rfl)
set_option maxHeartbeats 4000000 in
set_option maxRecDepth 100000 in
theorem c_X7_areCells (l : Launch) (D : va_G) (ad : Nat → Nat) (cs : Nat → ClassId) (sz : Nat) (vZ_players vZ_fill vZ_patience vZ_turn vZ_made vZ_out vZ_finishers vZ_thrown x1 x2 : Int32) (Q : Int32 → Int32 → Prop) (hw : wp_X7_areCells vZ_players vZ_fill vZ_patience vZ_turn vZ_made vZ_out vZ_finishers vZ_thrown x1 x2 Q) :
  Met l yX7_areCells wsX7_areCells rm_X7_areCells (va_Pc [.ref (ad 28), .int x1, .int x2] (PX D (cl_X7_areCells ad cs vZ_players vZ_fill vZ_patience vZ_turn vZ_made vZ_out vZ_finishers vZ_thrown) (ty_X7_areCells cs) sz)) (va_Qi (fun (r : Int32) (u : Int32) => Q r u) (fun (u : Int32) t => va_P D vwCl (cl_X7_areCells ad cs vZ_players vZ_fill vZ_patience vZ_turn vZ_made vZ_out vZ_finishers u) t.heap ∧ va_D (va_A (cl_X7_areCells ad cs vZ_players vZ_fill vZ_patience vZ_turn vZ_made vZ_out vZ_finishers vZ_thrown) sz) (cl_X7_areCells ad cs vZ_players vZ_fill vZ_patience vZ_turn vZ_made vZ_out vZ_finishers u)) (va_A (cl_X7_areCells ad cs vZ_players vZ_fill vZ_patience vZ_turn vZ_made vZ_out vZ_finishers vZ_thrown) sz)) 0 0 (va_A (cl_X7_areCells ad cs vZ_players vZ_fill vZ_patience vZ_turn vZ_made vZ_out vZ_finishers vZ_thrown) sz) := by
  refine Met.ofW (cc := cX7_areCells) (maxL := 3) (ret := (some .boolean)) (by decide) rfl ?_
  intro p e s m args below meth c s₁ B hml hv
  obtain ⟨rfl, hsz, hP, hK, hD0, hN⟩ := hv
  subst hsz
  have hl := lv_entry ([.ref (ad 28), .int x1, .int x2]) (n := 3) (Nat.le_of_ble_eq_true rfl)
  rw [lg_entry_eq]
  have hx := B.exec
  have hb := B.bytes
  have hr := B.returns
  exact b_X7_areCells l D ad cs vZ_players vZ_fill vZ_patience vZ_turn vZ_made vZ_out vZ_finishers vZ_thrown x1 x2 Q hx hb hml (findClass_of_methodNamed B.named) (atoms_spec (ws := wsX7_areCells) B.pre) hN hP hK hD0.self (fun q h => Or.inr h) hl (fun r o0 H locs pc ls hn hq hP hD hS hd => W.zret (v := r) hx hb hr hn (fun t ht hW => ⟨⟨r, o0, rfl, hq, by rw [ht]; exact hP, hD⟩, hS.F ht⟩) hS.2.2 hd) hw
abbrev rm_X7_distance : Room := { frames := 3, cells := 0, slots := 0, locals := 64 }
abbrev cl_X7_distance (ad : Nat → Nat) (cs : Nat → ClassId) (vZ_players vZ_fill vZ_patience vZ_turn vZ_made vZ_out vZ_finishers vZ_thrown : Int32) (vZ_far : Nat → Int32) : va_W := [((ad 28), .inr (7, [.ref (ad 29), .ref (ad 30), .ref (ad 31), .ref (ad 32), .ref (ad 33), .ref (ad 34), .int vZ_players, .int vZ_fill, .int vZ_patience, .ref (ad 35), .int vZ_turn, .int vZ_made, .int vZ_out, .ref (ad 36), .int vZ_finishers, .ref (ad 37), .ref (ad 38), .ref (ad 39), .ref (ad 40), .ref (ad 41), .ref (ad 42), .ref (ad 43), .ref (ad 44), .ref (ad 45), .ref (ad 46), .ref (ad 47), .int vZ_thrown])), ((ad 33), .inl ((cs 33), 14641, .inl vZ_far))]
abbrev ty_X7_distance (cs : Nat → ClassId) : List (ClassId × FieldType) := [((cs 33), .int)]
def wp_X7_distance (vZ_players vZ_fill vZ_patience vZ_turn vZ_made vZ_out vZ_finishers vZ_thrown : Int32) (vZ_far : Nat → Int32) (x1 x2 : Int32) (Q : Int32 → Int32 → Prop) : Prop :=
 wp_X7_areCells vZ_players vZ_fill vZ_patience vZ_turn vZ_made vZ_out vZ_finishers vZ_thrown x1 x2 (fun r_1 vZ_thrown_2 =>
 ((r_1 = 0 → Q (0 : Int32) vZ_thrown_2) ∧
 (¬ r_1 = 0 → (vp_in (((121 : Int32) * x1) + x2) 14641 ∧
 Q (vZ_far (((121 : Int32) * x1) + x2).toNatClampNeg) vZ_thrown_2))))
set_option maxHeartbeats 4000000 in
set_option maxRecDepth 100000 in
theorem b_X7_distance {p : Program} {e : Env} {s : State} {m : MethodId} {args : Array Value} {below : List Frame} {meth : Method} {c : Code} {QQ : State → Prop} {A : Nat → Prop} {ls : Array Slot} (l : Launch) (D : va_G) (ad : Nat → Nat) (cs : Nat → ClassId) (vZ_players vZ_fill vZ_patience vZ_turn vZ_made vZ_out vZ_finishers vZ_thrown : Int32) (vZ_far : Nat → Int32) (x1 x2 : Int32) (Q : Int32 → Int32 → Prop) (hx : p.tables.exec = Jvm.exec) (hb : c.code = cX7_distance) (hml : c.maxLocals = 3) (hown : s.vm.findClass RX7 = some m.cls) (hts : ∀ w ∈ wsX7_distance, w.before args s = true) (hN : NW s) (hP : va_P D vwCl (cl_X7_distance ad cs vZ_players vZ_fill vZ_patience vZ_turn vZ_made vZ_out vZ_finishers vZ_thrown vZ_far) s.heap) (hK : va_K D vwCl (ty_X7_distance cs) s) (hD : va_D A (cl_X7_distance ad cs vZ_players vZ_fill vZ_patience vZ_turn vZ_made vZ_out vZ_finishers vZ_thrown vZ_far)) (hA : ∀ q : Nat, s.heap.size ≤ q → A q) (hl : lv_has ls 3 [(0, .ref (ad 28)), (1, .int x1), (2, .int x2)])
  (hret : ∀ (r : Int32) (o0 : Int32) (H : Heap) (locs : List Loc) (pc : Nat) (ls : Array Slot), Q r o0 → va_P D vwCl (cl_X7_distance ad cs vZ_players vZ_fill vZ_patience vZ_turn vZ_made vZ_out vZ_finishers o0 vZ_far) H → va_D A (cl_X7_distance ad cs vZ_players vZ_fill vZ_patience vZ_turn vZ_made vZ_out vZ_finishers o0 vZ_far) → va_S A s.heap H locs → decode cX7_distance pc = .ok (.ireturn, 1) → W p l e rm_X7_distance s m args below meth c H locs 0 0 QQ (F0 m pc ls [.int r]))
  (hw : wp_X7_distance vZ_players vZ_fill vZ_patience vZ_turn vZ_made vZ_out vZ_finishers vZ_thrown vZ_far x1 x2 Q) :
  W p l e rm_X7_distance s m args below meth c s.heap [] 0 0 QQ (F0 m 0 ls []) := by
  have S0 : CallFix p m c cX7_distance 3 s args wsX7_distance RX7 := ⟨hx, hb, hml, hown, hts⟩
  have inX7 : ∀ w ∈ u_ws RX7 TX7 27, w ∈ wsX7_distance := by decide +kernel
  have fl_22 := hts (.fieldLink RX7 22 "HopperCourtModel" "far" "[I") (by decide +kernel)
  obtain ⟨H, hH⟩ : ∃ H : Heap, H = s.heap := ⟨_, rfl⟩
  have hS : va_S A s.heap H [] := by rw [hH]; exact va_S.rf
  rw [← hH] at hP ⊢
  unfold wp_X7_distance at hw
  refine lv_aload_n hx hb dX7_distance_0 rfl (lv_at hl 0 rfl) ?_
  refine lv_iload_n hx hb dX7_distance_1 rfl (lv_at hl 1 rfl) ?_
  refine lv_iload_n hx hb dX7_distance_2 rfl (lv_at hl 2 rfl) ?_
  refine pcVi (rest := []) (wr := [((ad 33), .inl ((cs 33), 14641, .inl vZ_far))]) (ci := 7) S0 (c_X7_areCells l D ad cs H.size vZ_players vZ_fill vZ_patience vZ_turn vZ_made vZ_out vZ_finishers vZ_thrown x1 x2 _ hw) (cwV 2 hts gX7_distance_X7_areCells rfl rfl rfl (by decide +kernel) ⟨Nat.le_of_ble_eq_true rfl, Nat.le_of_ble_eq_true rfl⟩) hN hK hP hD hS hA [0] [1] [] ⟨rfl, rfl, rfl, rfl, rfl, by decide⟩ 0 rfl rfl rfl rfl hl.1 (Nat.le_of_ble_eq_true rfl) ⟨Nat.le_of_ble_eq_true rfl, Nat.le_of_ble_eq_true rfl⟩ dX7_distance_3 (fun r_1 u H locs hw hP hD hS => ?_)
  obtain ⟨vZ_thrown_2, rfl⟩ : ∃ z, z = u := ⟨_, rfl⟩
  have hP : va_P D vwCl (cl_X7_distance ad cs vZ_players vZ_fill vZ_patience vZ_turn vZ_made vZ_out vZ_finishers vZ_thrown_2 vZ_far) H := hP.sub [1, 0] rfl
  have hD : va_D A (cl_X7_distance ad cs vZ_players vZ_fill vZ_patience vZ_turn vZ_made vZ_out vZ_finishers vZ_thrown_2 vZ_far) := hD.sub [1, 0] (by decide) rfl
  refine lv_if_eq (tgt := 23) hx hb dX7_distance_6 (by decide) (fun c_3 => ?_) (fun c_3 => ?_)
  · have hw := hw.1 c_3
    refine lv_iconst (v := (0 : Int32)) hx hb dX7_distance_23 (by decide) ?_
    exact hret _ _ _ _ _ _ hw hP hD hS dX7_distance_24
  · have hw := hw.2 c_3
    refine lv_aload_n hx hb dX7_distance_9 rfl (lv_at hl 0 rfl) ?_
    refine va_get (D := D) (ci := 7) (v := .ref (ad 33)) (C := RX7) (T := TX7) (N := 27) hx hb hts inX7 hown hK hP 0 rfl rfl 4 (by decide) fl_22 (fun _ h9 => h9) rfl dX7_distance_10 ?_
    refine lv_bipush (v := (121 : Int32)) hx hb dX7_distance_13 (by decide) ?_
    refine lv_iload_n hx hb dX7_distance_15 rfl (lv_at hl 1 rfl) ?_
    refine lv_imul hx hb dX7_distance_16 ?_
    refine lv_iload_n hx hb dX7_distance_17 rfl (lv_at hl 2 rfl) ?_
    refine lv_iadd hx hb dX7_distance_18 ?_
    obtain ⟨h_4, hw⟩ := hw
    refine va_iald hx hb hK hP 1 0 rfl rfl h_4 dX7_distance_19 ?_
    refine lv_goto (tgt := 24) hx hb dX7_distance_20 (by decide) ?_
    exact hret _ _ _ _ _ _ hw hP hD hS dX7_distance_24
set_option maxHeartbeats 4000000 in
set_option maxRecDepth 100000 in
theorem c_X7_distance (l : Launch) (D : va_G) (ad : Nat → Nat) (cs : Nat → ClassId) (sz : Nat) (vZ_players vZ_fill vZ_patience vZ_turn vZ_made vZ_out vZ_finishers vZ_thrown : Int32) (vZ_far : Nat → Int32) (x1 x2 : Int32) (Q : Int32 → Int32 → Prop) (hw : wp_X7_distance vZ_players vZ_fill vZ_patience vZ_turn vZ_made vZ_out vZ_finishers vZ_thrown vZ_far x1 x2 Q) :
  Met l yX7_distance wsX7_distance rm_X7_distance (va_Pc [.ref (ad 28), .int x1, .int x2] (PX D (cl_X7_distance ad cs vZ_players vZ_fill vZ_patience vZ_turn vZ_made vZ_out vZ_finishers vZ_thrown vZ_far) (ty_X7_distance cs) sz)) (va_Qi (fun (r : Int32) (u : Int32) => Q r u) (fun (u : Int32) t => va_P D vwCl (cl_X7_distance ad cs vZ_players vZ_fill vZ_patience vZ_turn vZ_made vZ_out vZ_finishers u vZ_far) t.heap ∧ va_D (va_A (cl_X7_distance ad cs vZ_players vZ_fill vZ_patience vZ_turn vZ_made vZ_out vZ_finishers vZ_thrown vZ_far) sz) (cl_X7_distance ad cs vZ_players vZ_fill vZ_patience vZ_turn vZ_made vZ_out vZ_finishers u vZ_far)) (va_A (cl_X7_distance ad cs vZ_players vZ_fill vZ_patience vZ_turn vZ_made vZ_out vZ_finishers vZ_thrown vZ_far) sz)) 0 0 (va_A (cl_X7_distance ad cs vZ_players vZ_fill vZ_patience vZ_turn vZ_made vZ_out vZ_finishers vZ_thrown vZ_far) sz) := by
  refine Met.ofW (cc := cX7_distance) (maxL := 3) (ret := (some .int)) (by decide) rfl ?_
  intro p e s m args below meth c s₁ B hml hv
  obtain ⟨rfl, hsz, hP, hK, hD0, hN⟩ := hv
  subst hsz
  have hl := lv_entry ([.ref (ad 28), .int x1, .int x2]) (n := 3) (Nat.le_of_ble_eq_true rfl)
  rw [lg_entry_eq]
  have hx := B.exec
  have hb := B.bytes
  have hr := B.returns
  exact b_X7_distance l D ad cs vZ_players vZ_fill vZ_patience vZ_turn vZ_made vZ_out vZ_finishers vZ_thrown vZ_far x1 x2 Q hx hb hml (findClass_of_methodNamed B.named) (atoms_spec (ws := wsX7_distance) B.pre) hN hP hK hD0.self (fun q h => Or.inr h) hl (fun r o0 H locs pc ls hq hP hD hS hd => W.iret (v := r) hx hb hr (fun t ht hW => ⟨⟨r, o0, rfl, hq, by rw [ht]; exact hP, hD⟩, hS.F ht⟩) hS.2.2 hd) hw
abbrev rm_X7_turn : Room := { frames := 0, cells := 0, slots := 0, locals := 0 }
abbrev cl_X7_turn (ad : Nat → Nat) (cs : Nat → ClassId) (vZ_players vZ_fill vZ_patience vZ_turn vZ_made vZ_out vZ_finishers vZ_thrown : Int32) : va_W := [((ad 28), .inr (7, [.ref (ad 29), .ref (ad 30), .ref (ad 31), .ref (ad 32), .ref (ad 33), .ref (ad 34), .int vZ_players, .int vZ_fill, .int vZ_patience, .ref (ad 35), .int vZ_turn, .int vZ_made, .int vZ_out, .ref (ad 36), .int vZ_finishers, .ref (ad 37), .ref (ad 38), .ref (ad 39), .ref (ad 40), .ref (ad 41), .ref (ad 42), .ref (ad 43), .ref (ad 44), .ref (ad 45), .ref (ad 46), .ref (ad 47), .int vZ_thrown]))]
abbrev ty_X7_turn (cs : Nat → ClassId) : List (ClassId × FieldType) := []
def wp_X7_turn (vZ_players vZ_fill vZ_patience vZ_turn vZ_made vZ_out vZ_finishers vZ_thrown : Int32) (Q : Int32 → Int32 → Prop) : Prop :=
 Q vZ_turn (0 : Int32)
set_option maxHeartbeats 4000000 in
set_option maxRecDepth 100000 in
theorem b_X7_turn {p : Program} {e : Env} {s : State} {m : MethodId} {args : Array Value} {below : List Frame} {meth : Method} {c : Code} {QQ : State → Prop} {A : Nat → Prop} {ls : Array Slot} (l : Launch) (D : va_G) (ad : Nat → Nat) (cs : Nat → ClassId) (vZ_players vZ_fill vZ_patience vZ_turn vZ_made vZ_out vZ_finishers vZ_thrown : Int32) (Q : Int32 → Int32 → Prop) (hx : p.tables.exec = Jvm.exec) (hb : c.code = cX7_turn) (hml : c.maxLocals = 1) (hown : s.vm.findClass RX7 = some m.cls) (hts : ∀ w ∈ wsX7_turn, w.before args s = true) (hN : NW s) (hP : va_P D vwCl (cl_X7_turn ad cs vZ_players vZ_fill vZ_patience vZ_turn vZ_made vZ_out vZ_finishers vZ_thrown) s.heap) (hK : va_K D vwCl (ty_X7_turn cs) s) (hD : va_D A (cl_X7_turn ad cs vZ_players vZ_fill vZ_patience vZ_turn vZ_made vZ_out vZ_finishers vZ_thrown)) (hA : ∀ q : Nat, s.heap.size ≤ q → A q) (hl : lv_has ls 1 [(0, .ref (ad 28))])
  (hret : ∀ (r : Int32) (o0 : Int32) (H : Heap) (locs : List Loc) (pc : Nat) (ls : Array Slot), Q r o0 → va_P D vwCl (cl_X7_turn ad cs vZ_players vZ_fill vZ_patience vZ_turn vZ_made vZ_out vZ_finishers o0) H → va_D A (cl_X7_turn ad cs vZ_players vZ_fill vZ_patience vZ_turn vZ_made vZ_out vZ_finishers o0) → va_S A s.heap H locs → decode cX7_turn pc = .ok (.ireturn, 1) → W p l e rm_X7_turn s m args below meth c H locs 0 0 QQ (F0 m pc ls [.int r]))
  (hw : wp_X7_turn vZ_players vZ_fill vZ_patience vZ_turn vZ_made vZ_out vZ_finishers vZ_thrown Q) :
  W p l e rm_X7_turn s m args below meth c s.heap [] 0 0 QQ (F0 m 0 ls []) := by
  have S0 : CallFix p m c cX7_turn 1 s args wsX7_turn RX7 := ⟨hx, hb, hml, hown, hts⟩
  have inX7 : ∀ w ∈ u_ws RX7 TX7 27, w ∈ wsX7_turn := by decide +kernel
  have fl_83 := hts (.fieldLink RX7 83 "HopperCourtModel" "turn" "I") (by decide +kernel)
  have fl_86 := hts (.fieldLink RX7 86 "HopperCourtModel" "thrown" "I") (by decide +kernel)
  obtain ⟨H, hH⟩ : ∃ H : Heap, H = s.heap := ⟨_, rfl⟩
  have hS : va_S A s.heap H [] := by rw [hH]; exact va_S.rf
  rw [← hH] at hP ⊢
  unfold wp_X7_turn at hw
  refine lv_aload_n hx hb dX7_turn_0 rfl (lv_at hl 0 rfl) ?_
  refine lv_iconst (v := (0 : Int32)) hx hb dX7_turn_1 (by decide) ?_
  refine va_put (D := D) (ci := 7) (v := .int (0 : Int32)) (ty := .int) (C := RX7) (T := TX7) (N := 27) hx hb hts inX7 tyX7 tyX7_ok nmX7 hown hK hP hD hS 0 rfl rfl 26 (by decide) fl_86 (fun _ h9 => h9) rfl (by decide +kernel) rfl rfl (Nat.le_of_ble_eq_true rfl) dX7_turn_2 (fun H locs hP hD hS => ?_)
  have hP : va_P D vwCl (cl_X7_turn ad cs vZ_players vZ_fill vZ_patience vZ_turn vZ_made vZ_out vZ_finishers (0 : Int32)) H := hP
  have hD : va_D A (cl_X7_turn ad cs vZ_players vZ_fill vZ_patience vZ_turn vZ_made vZ_out vZ_finishers (0 : Int32)) := hD
  refine lv_aload_n hx hb dX7_turn_5 rfl (lv_at hl 0 rfl) ?_
  refine va_get (D := D) (ci := 7) (v := .int vZ_turn) (C := RX7) (T := TX7) (N := 27) hx hb hts inX7 hown hK hP 0 rfl rfl 10 (by decide) fl_83 (fun _ h9 => h9) rfl dX7_turn_6 ?_
  exact hret _ _ _ _ _ _ hw hP hD hS dX7_turn_9
set_option maxHeartbeats 4000000 in
set_option maxRecDepth 100000 in
theorem c_X7_turn (l : Launch) (D : va_G) (ad : Nat → Nat) (cs : Nat → ClassId) (sz : Nat) (vZ_players vZ_fill vZ_patience vZ_turn vZ_made vZ_out vZ_finishers vZ_thrown : Int32) (Q : Int32 → Int32 → Prop) (hw : wp_X7_turn vZ_players vZ_fill vZ_patience vZ_turn vZ_made vZ_out vZ_finishers vZ_thrown Q) :
  Met l yX7_turn wsX7_turn rm_X7_turn (va_Pc [.ref (ad 28)] (PX D (cl_X7_turn ad cs vZ_players vZ_fill vZ_patience vZ_turn vZ_made vZ_out vZ_finishers vZ_thrown) (ty_X7_turn cs) sz)) (va_Qi (fun (r : Int32) (u : Int32) => Q r u) (fun (u : Int32) t => va_P D vwCl (cl_X7_turn ad cs vZ_players vZ_fill vZ_patience vZ_turn vZ_made vZ_out vZ_finishers u) t.heap ∧ va_D (va_A (cl_X7_turn ad cs vZ_players vZ_fill vZ_patience vZ_turn vZ_made vZ_out vZ_finishers vZ_thrown) sz) (cl_X7_turn ad cs vZ_players vZ_fill vZ_patience vZ_turn vZ_made vZ_out vZ_finishers u)) (va_A (cl_X7_turn ad cs vZ_players vZ_fill vZ_patience vZ_turn vZ_made vZ_out vZ_finishers vZ_thrown) sz)) 0 0 (va_A (cl_X7_turn ad cs vZ_players vZ_fill vZ_patience vZ_turn vZ_made vZ_out vZ_finishers vZ_thrown) sz) := by
  refine Met.ofW (cc := cX7_turn) (maxL := 1) (ret := (some .int)) (by decide) rfl ?_
  intro p e s m args below meth c s₁ B hml hv
  obtain ⟨rfl, hsz, hP, hK, hD0, hN⟩ := hv
  subst hsz
  have hl := lv_entry ([.ref (ad 28)]) (n := 1) (Nat.le_of_ble_eq_true rfl)
  rw [lg_entry_eq]
  have hx := B.exec
  have hb := B.bytes
  have hr := B.returns
  exact b_X7_turn l D ad cs vZ_players vZ_fill vZ_patience vZ_turn vZ_made vZ_out vZ_finishers vZ_thrown Q hx hb hml (findClass_of_methodNamed B.named) (atoms_spec (ws := wsX7_turn) B.pre) hN hP hK hD0.self (fun q h => Or.inr h) hl (fun r o0 H locs pc ls hq hP hD hS hd => W.iret (v := r) hx hb hr (fun t ht hW => ⟨⟨r, o0, rfl, hq, by rw [ht]; exact hP, hD⟩, hS.F ht⟩) hS.2.2 hd) hw
abbrev rm_X7_made : Room := { frames := 0, cells := 0, slots := 0, locals := 0 }
abbrev cl_X7_made (ad : Nat → Nat) (cs : Nat → ClassId) (vZ_players vZ_fill vZ_patience vZ_turn vZ_made vZ_out vZ_finishers vZ_thrown : Int32) : va_W := [((ad 28), .inr (7, [.ref (ad 29), .ref (ad 30), .ref (ad 31), .ref (ad 32), .ref (ad 33), .ref (ad 34), .int vZ_players, .int vZ_fill, .int vZ_patience, .ref (ad 35), .int vZ_turn, .int vZ_made, .int vZ_out, .ref (ad 36), .int vZ_finishers, .ref (ad 37), .ref (ad 38), .ref (ad 39), .ref (ad 40), .ref (ad 41), .ref (ad 42), .ref (ad 43), .ref (ad 44), .ref (ad 45), .ref (ad 46), .ref (ad 47), .int vZ_thrown]))]
abbrev ty_X7_made (cs : Nat → ClassId) : List (ClassId × FieldType) := []
def wp_X7_made (vZ_players vZ_fill vZ_patience vZ_turn vZ_made vZ_out vZ_finishers vZ_thrown : Int32) (Q : Int32 → Int32 → Prop) : Prop :=
 Q vZ_made (0 : Int32)
set_option maxHeartbeats 4000000 in
set_option maxRecDepth 100000 in
theorem b_X7_made {p : Program} {e : Env} {s : State} {m : MethodId} {args : Array Value} {below : List Frame} {meth : Method} {c : Code} {QQ : State → Prop} {A : Nat → Prop} {ls : Array Slot} (l : Launch) (D : va_G) (ad : Nat → Nat) (cs : Nat → ClassId) (vZ_players vZ_fill vZ_patience vZ_turn vZ_made vZ_out vZ_finishers vZ_thrown : Int32) (Q : Int32 → Int32 → Prop) (hx : p.tables.exec = Jvm.exec) (hb : c.code = cX7_made) (hml : c.maxLocals = 1) (hown : s.vm.findClass RX7 = some m.cls) (hts : ∀ w ∈ wsX7_made, w.before args s = true) (hN : NW s) (hP : va_P D vwCl (cl_X7_made ad cs vZ_players vZ_fill vZ_patience vZ_turn vZ_made vZ_out vZ_finishers vZ_thrown) s.heap) (hK : va_K D vwCl (ty_X7_made cs) s) (hD : va_D A (cl_X7_made ad cs vZ_players vZ_fill vZ_patience vZ_turn vZ_made vZ_out vZ_finishers vZ_thrown)) (hA : ∀ q : Nat, s.heap.size ≤ q → A q) (hl : lv_has ls 1 [(0, .ref (ad 28))])
  (hret : ∀ (r : Int32) (o0 : Int32) (H : Heap) (locs : List Loc) (pc : Nat) (ls : Array Slot), Q r o0 → va_P D vwCl (cl_X7_made ad cs vZ_players vZ_fill vZ_patience vZ_turn vZ_made vZ_out vZ_finishers o0) H → va_D A (cl_X7_made ad cs vZ_players vZ_fill vZ_patience vZ_turn vZ_made vZ_out vZ_finishers o0) → va_S A s.heap H locs → decode cX7_made pc = .ok (.ireturn, 1) → W p l e rm_X7_made s m args below meth c H locs 0 0 QQ (F0 m pc ls [.int r]))
  (hw : wp_X7_made vZ_players vZ_fill vZ_patience vZ_turn vZ_made vZ_out vZ_finishers vZ_thrown Q) :
  W p l e rm_X7_made s m args below meth c s.heap [] 0 0 QQ (F0 m 0 ls []) := by
  have S0 : CallFix p m c cX7_made 1 s args wsX7_made RX7 := ⟨hx, hb, hml, hown, hts⟩
  have inX7 : ∀ w ∈ u_ws RX7 TX7 27, w ∈ wsX7_made := by decide +kernel
  have fl_103 := hts (.fieldLink RX7 103 "HopperCourtModel" "made" "I") (by decide +kernel)
  have fl_86 := hts (.fieldLink RX7 86 "HopperCourtModel" "thrown" "I") (by decide +kernel)
  obtain ⟨H, hH⟩ : ∃ H : Heap, H = s.heap := ⟨_, rfl⟩
  have hS : va_S A s.heap H [] := by rw [hH]; exact va_S.rf
  rw [← hH] at hP ⊢
  unfold wp_X7_made at hw
  refine lv_aload_n hx hb dX7_made_0 rfl (lv_at hl 0 rfl) ?_
  refine lv_iconst (v := (0 : Int32)) hx hb dX7_made_1 (by decide) ?_
  refine va_put (D := D) (ci := 7) (v := .int (0 : Int32)) (ty := .int) (C := RX7) (T := TX7) (N := 27) hx hb hts inX7 tyX7 tyX7_ok nmX7 hown hK hP hD hS 0 rfl rfl 26 (by decide) fl_86 (fun _ h9 => h9) rfl (by decide +kernel) rfl rfl (Nat.le_of_ble_eq_true rfl) dX7_made_2 (fun H locs hP hD hS => ?_)
  have hP : va_P D vwCl (cl_X7_made ad cs vZ_players vZ_fill vZ_patience vZ_turn vZ_made vZ_out vZ_finishers (0 : Int32)) H := hP
  have hD : va_D A (cl_X7_made ad cs vZ_players vZ_fill vZ_patience vZ_turn vZ_made vZ_out vZ_finishers (0 : Int32)) := hD
  refine lv_aload_n hx hb dX7_made_5 rfl (lv_at hl 0 rfl) ?_
  refine va_get (D := D) (ci := 7) (v := .int vZ_made) (C := RX7) (T := TX7) (N := 27) hx hb hts inX7 hown hK hP 0 rfl rfl 11 (by decide) fl_103 (fun _ h9 => h9) rfl dX7_made_6 ?_
  exact hret _ _ _ _ _ _ hw hP hD hS dX7_made_9
set_option maxHeartbeats 4000000 in
set_option maxRecDepth 100000 in
theorem c_X7_made (l : Launch) (D : va_G) (ad : Nat → Nat) (cs : Nat → ClassId) (sz : Nat) (vZ_players vZ_fill vZ_patience vZ_turn vZ_made vZ_out vZ_finishers vZ_thrown : Int32) (Q : Int32 → Int32 → Prop) (hw : wp_X7_made vZ_players vZ_fill vZ_patience vZ_turn vZ_made vZ_out vZ_finishers vZ_thrown Q) :
  Met l yX7_made wsX7_made rm_X7_made (va_Pc [.ref (ad 28)] (PX D (cl_X7_made ad cs vZ_players vZ_fill vZ_patience vZ_turn vZ_made vZ_out vZ_finishers vZ_thrown) (ty_X7_made cs) sz)) (va_Qi (fun (r : Int32) (u : Int32) => Q r u) (fun (u : Int32) t => va_P D vwCl (cl_X7_made ad cs vZ_players vZ_fill vZ_patience vZ_turn vZ_made vZ_out vZ_finishers u) t.heap ∧ va_D (va_A (cl_X7_made ad cs vZ_players vZ_fill vZ_patience vZ_turn vZ_made vZ_out vZ_finishers vZ_thrown) sz) (cl_X7_made ad cs vZ_players vZ_fill vZ_patience vZ_turn vZ_made vZ_out vZ_finishers u)) (va_A (cl_X7_made ad cs vZ_players vZ_fill vZ_patience vZ_turn vZ_made vZ_out vZ_finishers vZ_thrown) sz)) 0 0 (va_A (cl_X7_made ad cs vZ_players vZ_fill vZ_patience vZ_turn vZ_made vZ_out vZ_finishers vZ_thrown) sz) := by
  refine Met.ofW (cc := cX7_made) (maxL := 1) (ret := (some .int)) (by decide) rfl ?_
  intro p e s m args below meth c s₁ B hml hv
  obtain ⟨rfl, hsz, hP, hK, hD0, hN⟩ := hv
  subst hsz
  have hl := lv_entry ([.ref (ad 28)]) (n := 1) (Nat.le_of_ble_eq_true rfl)
  rw [lg_entry_eq]
  have hx := B.exec
  have hb := B.bytes
  have hr := B.returns
  exact b_X7_made l D ad cs vZ_players vZ_fill vZ_patience vZ_turn vZ_made vZ_out vZ_finishers vZ_thrown Q hx hb hml (findClass_of_methodNamed B.named) (atoms_spec (ws := wsX7_made) B.pre) hN hP hK hD0.self (fun q h => Or.inr h) hl (fun r o0 H locs pc ls hq hP hD hS hd => W.iret (v := r) hx hb hr (fun t ht hW => ⟨⟨r, o0, rfl, hq, by rw [ht]; exact hP, hD⟩, hS.F ht⟩) hS.2.2 hd) hw
abbrev rm_X7_ends : Room := { frames := 3, cells := 0, slots := 0, locals := 76 }
abbrev cl_X7_ends (ad : Nat → Nat) (cs : Nat → ClassId) (vZ_players vZ_fill vZ_patience vZ_turn vZ_made vZ_out vZ_finishers vZ_thrown : Int32) (vZ_camp vZ_next vZ_far vZ_board vZ_level vZ_queue vZ_isEnd : Nat → Int32) : va_W := [((ad 28), .inr (7, [.ref (ad 29), .ref (ad 30), .ref (ad 31), .ref (ad 32), .ref (ad 33), .ref (ad 34), .int vZ_players, .int vZ_fill, .int vZ_patience, .ref (ad 35), .int vZ_turn, .int vZ_made, .int vZ_out, .ref (ad 36), .int vZ_finishers, .ref (ad 37), .ref (ad 38), .ref (ad 39), .ref (ad 40), .ref (ad 41), .ref (ad 42), .ref (ad 43), .ref (ad 44), .ref (ad 45), .ref (ad 46), .ref (ad 47), .int vZ_thrown])), ((ad 31), .inl ((cs 31), 121, .inl vZ_camp)), ((ad 32), .inl ((cs 32), 726, .inl vZ_next)), ((ad 33), .inl ((cs 33), 14641, .inl vZ_far)), ((ad 35), .inl ((cs 35), 121, .inl vZ_board)), ((ad 43), .inl ((cs 43), 121, .inl vZ_level)), ((ad 44), .inl ((cs 44), 121, .inl vZ_queue)), ((ad 45), .inl ((cs 45), 121, .inl vZ_isEnd))]
abbrev ty_X7_ends (cs : Nat → ClassId) : List (ClassId × FieldType) := [((cs 31), .int), ((cs 32), .int), ((cs 33), .int), ((cs 35), .int), ((cs 43), .int), ((cs 44), .int), ((cs 45), .boolean)]
def wJ_X7_ends_13 (vZ_players vZ_fill vZ_patience vZ_turn vZ_made vZ_out vZ_finishers vZ_thrown : Int32) (vZ_camp vZ_next vZ_far vZ_board vZ_level vZ_queue vZ_isEnd : Nat → Int32) (x1 t1 : Int32) (Q : Int32 → Int32 → (Nat → Int32) → (Nat → Int32) → (Nat → Int32) → Prop) : Prop :=
 wp_X7_can vZ_players vZ_fill vZ_patience vZ_turn vZ_made vZ_out vZ_finishers vZ_thrown t1 (fun r_1 vZ_thrown_2 =>
 ((r_1 = 0 → Q (0 : Int32) vZ_thrown_2 vZ_level vZ_queue vZ_isEnd) ∧
 (¬ r_1 = 0 → wp_X7_endsOf vZ_players vZ_fill vZ_patience vZ_turn vZ_made vZ_out vZ_finishers vZ_thrown_2 vZ_camp vZ_next vZ_far vZ_board vZ_level vZ_queue vZ_isEnd x1 (fun r_4 vZ_level_5 vZ_queue_6 vZ_isEnd_7 =>
 Q r_4 vZ_thrown_2 vZ_level_5 vZ_queue_6 vZ_isEnd_7))))
def wp_X7_ends (vZ_players vZ_fill vZ_patience vZ_turn vZ_made vZ_out vZ_finishers vZ_thrown : Int32) (vZ_camp vZ_next vZ_far vZ_board vZ_level vZ_queue vZ_isEnd : Nat → Int32) (x1 : Int32) (Q : Int32 → Int32 → (Nat → Int32) → (Nat → Int32) → (Nat → Int32) → Prop) : Prop :=
 wp_X7_isCell x1 (fun r_8 =>
 ((r_8 = 0 → wJ_X7_ends_13 vZ_players vZ_fill vZ_patience vZ_turn vZ_made vZ_out vZ_finishers vZ_thrown vZ_camp vZ_next vZ_far vZ_board vZ_level vZ_queue vZ_isEnd x1 (1 : Int32) Q) ∧
 (¬ r_8 = 0 → wJ_X7_ends_13 vZ_players vZ_fill vZ_patience vZ_turn vZ_made vZ_out vZ_finishers vZ_thrown vZ_camp vZ_next vZ_far vZ_board vZ_level vZ_queue vZ_isEnd x1 (0 : Int32) Q)))
set_option maxHeartbeats 4000000 in
set_option maxRecDepth 100000 in
theorem b_X7_ends {p : Program} {e : Env} {s : State} {m : MethodId} {args : Array Value} {below : List Frame} {meth : Method} {c : Code} {QQ : State → Prop} {A : Nat → Prop} {ls : Array Slot} (l : Launch) (D : va_G) (ad : Nat → Nat) (cs : Nat → ClassId) (vZ_players vZ_fill vZ_patience vZ_turn vZ_made vZ_out vZ_finishers vZ_thrown : Int32) (vZ_camp vZ_next vZ_far vZ_board vZ_level vZ_queue vZ_isEnd : Nat → Int32) (x1 : Int32) (Q : Int32 → Int32 → (Nat → Int32) → (Nat → Int32) → (Nat → Int32) → Prop) (hx : p.tables.exec = Jvm.exec) (hb : c.code = cX7_ends) (hml : c.maxLocals = 2) (hown : s.vm.findClass RX7 = some m.cls) (hts : ∀ w ∈ wsX7_ends, w.before args s = true) (hN : NW s) (hP : va_P D vwCl (cl_X7_ends ad cs vZ_players vZ_fill vZ_patience vZ_turn vZ_made vZ_out vZ_finishers vZ_thrown vZ_camp vZ_next vZ_far vZ_board vZ_level vZ_queue vZ_isEnd) s.heap) (hK : va_K D vwCl (ty_X7_ends cs) s) (hD : va_D A (cl_X7_ends ad cs vZ_players vZ_fill vZ_patience vZ_turn vZ_made vZ_out vZ_finishers vZ_thrown vZ_camp vZ_next vZ_far vZ_board vZ_level vZ_queue vZ_isEnd)) (hA : ∀ q : Nat, s.heap.size ≤ q → A q) (hl : lv_has ls 2 [(0, .ref (ad 28)), (1, .int x1)])
  (hret : ∀ (r : Int32) (o0 : Int32) (o1 : Nat → Int32) (o2 : Nat → Int32) (o3 : Nat → Int32) (H : Heap) (locs : List Loc) (pc : Nat) (ls : Array Slot), Q r o0 o1 o2 o3 → va_P D vwCl (cl_X7_ends ad cs vZ_players vZ_fill vZ_patience vZ_turn vZ_made vZ_out vZ_finishers o0 vZ_camp vZ_next vZ_far vZ_board o1 o2 o3) H → va_D A (cl_X7_ends ad cs vZ_players vZ_fill vZ_patience vZ_turn vZ_made vZ_out vZ_finishers o0 vZ_camp vZ_next vZ_far vZ_board o1 o2 o3) → va_S A s.heap H locs → decode cX7_ends pc = .ok (.ireturn, 1) → W p l e rm_X7_ends s m args below meth c H locs 0 0 QQ (F0 m pc ls [.int r]))
  (hw : wp_X7_ends vZ_players vZ_fill vZ_patience vZ_turn vZ_made vZ_out vZ_finishers vZ_thrown vZ_camp vZ_next vZ_far vZ_board vZ_level vZ_queue vZ_isEnd x1 Q) :
  W p l e rm_X7_ends s m args below meth c s.heap [] 0 0 QQ (F0 m 0 ls []) := by
  have S0 : CallFix p m c cX7_ends 2 s args wsX7_ends RX7 := ⟨hx, hb, hml, hown, hts⟩
  have hJ13 : ∀ (vZ_thrown : Int32) (vZ_level vZ_queue vZ_isEnd : Nat → Int32) (x1 t1 : Int32), wJ_X7_ends_13 vZ_players vZ_fill vZ_patience vZ_turn vZ_made vZ_out vZ_finishers vZ_thrown vZ_camp vZ_next vZ_far vZ_board vZ_level vZ_queue vZ_isEnd x1 t1 Q → ∀ (H : Heap) (locs : List Loc) (ls : Array Slot), va_P D vwCl (cl_X7_ends ad cs vZ_players vZ_fill vZ_patience vZ_turn vZ_made vZ_out vZ_finishers vZ_thrown vZ_camp vZ_next vZ_far vZ_board vZ_level vZ_queue vZ_isEnd) H → va_D A (cl_X7_ends ad cs vZ_players vZ_fill vZ_patience vZ_turn vZ_made vZ_out vZ_finishers vZ_thrown vZ_camp vZ_next vZ_far vZ_board vZ_level vZ_queue vZ_isEnd) → va_S A s.heap H locs → lv_has ls 2 [(0, .ref (ad 28)), (1, .int x1)] → W p l e rm_X7_ends s m args below meth c H locs 0 0 QQ (F0 m 13 ls [.int t1, .ref (ad 28)]) := by
    intro vZ_thrown vZ_level vZ_queue vZ_isEnd x1 t1 hw  H locs ls hP hD hS hl
    unfold wJ_X7_ends_13 at hw
    refine pcVi (rest := []) (wr := [((ad 31), .inl ((cs 31), 121, .inl vZ_camp)), ((ad 32), .inl ((cs 32), 726, .inl vZ_next)), ((ad 33), .inl ((cs 33), 14641, .inl vZ_far)), ((ad 35), .inl ((cs 35), 121, .inl vZ_board)), ((ad 43), .inl ((cs 43), 121, .inl vZ_level)), ((ad 44), .inl ((cs 44), 121, .inl vZ_queue)), ((ad 45), .inl ((cs 45), 121, .inl vZ_isEnd))]) (ci := 7) S0 (c_X7_can l D ad cs H.size vZ_players vZ_fill vZ_patience vZ_turn vZ_made vZ_out vZ_finishers vZ_thrown t1 _ hw) (cwV 1 hts gX7_ends_X7_can rfl rfl rfl (by decide +kernel) ⟨Nat.le_of_ble_eq_true rfl, Nat.le_of_ble_eq_true rfl⟩) hN hK hP hD hS hA [0] [1, 2, 3, 4, 5, 6, 7] [] ⟨rfl, rfl, rfl, rfl, rfl, by decide⟩ 0 rfl rfl rfl rfl hl.1 (Nat.le_of_ble_eq_true rfl) ⟨Nat.le_of_ble_eq_true rfl, Nat.le_of_ble_eq_true rfl⟩ dX7_ends_13 (fun r_1 u H locs hw hP hD hS => ?_)
    obtain ⟨vZ_thrown_2, rfl⟩ : ∃ z, z = u := ⟨_, rfl⟩
    have hP : va_P D vwCl (cl_X7_ends ad cs vZ_players vZ_fill vZ_patience vZ_turn vZ_made vZ_out vZ_finishers vZ_thrown_2 vZ_camp vZ_next vZ_far vZ_board vZ_level vZ_queue vZ_isEnd) H := hP.sub [7, 0, 1, 2, 3, 4, 5, 6] rfl
    have hD : va_D A (cl_X7_ends ad cs vZ_players vZ_fill vZ_patience vZ_turn vZ_made vZ_out vZ_finishers vZ_thrown_2 vZ_camp vZ_next vZ_far vZ_board vZ_level vZ_queue vZ_isEnd) := hD.sub [7, 0, 1, 2, 3, 4, 5, 6] (by decide) rfl
    refine lv_if_eq (tgt := 27) hx hb dX7_ends_16 (by decide) (fun c_3 => ?_) (fun c_3 => ?_)
    · have hw := hw.1 c_3
      refine lv_iconst (v := (0 : Int32)) hx hb dX7_ends_27 (by decide) ?_
      exact hret _ _ _ _ _ _ _ _ _ hw hP hD hS dX7_ends_28
    · have hw := hw.2 c_3
      refine lv_aload_n hx hb dX7_ends_19 rfl (lv_at hl 0 rfl) ?_
      refine lv_iload_n hx hb dX7_ends_20 rfl (lv_at hl 1 rfl) ?_
      refine pcVi (rest := []) (wr := []) (ci := 7) S0 (c_X7_endsOf l D ad cs H.size vZ_players vZ_fill vZ_patience vZ_turn vZ_made vZ_out vZ_finishers vZ_thrown_2 vZ_camp vZ_next vZ_far vZ_board vZ_level vZ_queue vZ_isEnd x1 _ hw) (cwV 1 hts gX7_ends_X7_endsOf rfl rfl rfl (by decide +kernel) ⟨Nat.le_of_ble_eq_true rfl, Nat.le_of_ble_eq_true rfl⟩) hN hK hP hD hS hA [0, 1, 2, 3, 4, 5, 6, 7] [] [0, 1, 2, 3, 4, 5, 6] ⟨rfl, rfl, rfl, rfl, rfl, by decide⟩ 0 rfl rfl rfl rfl hl.1 (Nat.le_of_ble_eq_true rfl) ⟨Nat.le_of_ble_eq_true rfl, Nat.le_of_ble_eq_true rfl⟩ dX7_ends_21 (fun r_4 u H locs hw hP hD hS => ?_)
      obtain ⟨vZ_level_5, vZ_queue_6, vZ_isEnd_7⟩ := u
      dsimp only at hw
      have hP : va_P D vwCl (cl_X7_ends ad cs vZ_players vZ_fill vZ_patience vZ_turn vZ_made vZ_out vZ_finishers vZ_thrown_2 vZ_camp vZ_next vZ_far vZ_board vZ_level_5 vZ_queue_6 vZ_isEnd_7) H := hP.sub [0, 1, 2, 3, 4, 5, 6, 7] rfl
      have hD : va_D A (cl_X7_ends ad cs vZ_players vZ_fill vZ_patience vZ_turn vZ_made vZ_out vZ_finishers vZ_thrown_2 vZ_camp vZ_next vZ_far vZ_board vZ_level_5 vZ_queue_6 vZ_isEnd_7) := hD.sub [0, 1, 2, 3, 4, 5, 6, 7] (by decide) rfl
      refine lv_goto (tgt := 28) hx hb dX7_ends_24 (by decide) ?_
      exact hret _ _ _ _ _ _ _ _ _ hw hP hD hS dX7_ends_28
  obtain ⟨H, hH⟩ : ∃ H : Heap, H = s.heap := ⟨_, rfl⟩
  have hS : va_S A s.heap H [] := by rw [hH]; exact va_S.rf
  rw [← hH] at hP ⊢
  unfold wp_X7_ends at hw
  refine lv_aload_n hx hb dX7_ends_0 rfl (lv_at hl 0 rfl) ?_
  refine lv_iload_n hx hb dX7_ends_1 rfl (lv_at hl 1 rfl) ?_
  refine pcS (rest := [.ref (ad 28)]) S0 (c_X7_isCell l D ad cs H.size x1 _ hw) (va_cwS 1 hts gX7_ends_X7_isCell rfl rfl rfl (by decide +kernel) ⟨Nat.le_of_ble_eq_true rfl, Nat.le_of_ble_eq_true rfl⟩) hN hK hP hD [] [] rfl rfl rfl rfl rfl hl.1 (Nat.le_of_ble_eq_true rfl) ⟨Nat.le_of_ble_eq_true rfl, Nat.le_of_ble_eq_true rfl⟩ dX7_ends_2 (fun r_8 hw => ?_)
  refine lv_if_eq (tgt := 12) hx hb dX7_ends_5 (by decide) (fun c_9 => ?_) (fun c_9 => ?_)
  · have hw := hw.1 c_9
    refine lv_iconst (v := (1 : Int32)) hx hb dX7_ends_12 (by decide) ?_
    exact hJ13 vZ_thrown vZ_level vZ_queue vZ_isEnd x1 (1 : Int32) hw _ _ _ hP hD hS (lv_sub hl [0, 1] rfl)
  · have hw := hw.2 c_9
    refine lv_iconst (v := (0 : Int32)) hx hb dX7_ends_8 (by decide) ?_
    refine lv_goto (tgt := 13) hx hb dX7_ends_9 (by decide) ?_
    exact hJ13 vZ_thrown vZ_level vZ_queue vZ_isEnd x1 (0 : Int32) hw _ _ _ hP hD hS (lv_sub hl [0, 1] rfl)
set_option maxHeartbeats 4000000 in
set_option maxRecDepth 100000 in
theorem c_X7_ends (l : Launch) (D : va_G) (ad : Nat → Nat) (cs : Nat → ClassId) (sz : Nat) (vZ_players vZ_fill vZ_patience vZ_turn vZ_made vZ_out vZ_finishers vZ_thrown : Int32) (vZ_camp vZ_next vZ_far vZ_board vZ_level vZ_queue vZ_isEnd : Nat → Int32) (x1 : Int32) (Q : Int32 → Int32 → (Nat → Int32) → (Nat → Int32) → (Nat → Int32) → Prop) (hw : wp_X7_ends vZ_players vZ_fill vZ_patience vZ_turn vZ_made vZ_out vZ_finishers vZ_thrown vZ_camp vZ_next vZ_far vZ_board vZ_level vZ_queue vZ_isEnd x1 Q) :
  Met l yX7_ends wsX7_ends rm_X7_ends (va_Pc [.ref (ad 28), .int x1] (PX D (cl_X7_ends ad cs vZ_players vZ_fill vZ_patience vZ_turn vZ_made vZ_out vZ_finishers vZ_thrown vZ_camp vZ_next vZ_far vZ_board vZ_level vZ_queue vZ_isEnd) (ty_X7_ends cs) sz)) (va_Qi (fun (r : Int32) (u : Int32 × (Nat → Int32) × (Nat → Int32) × (Nat → Int32)) => Q r u.1 u.2.1 u.2.2.1 u.2.2.2) (fun (u : Int32 × (Nat → Int32) × (Nat → Int32) × (Nat → Int32)) t => va_P D vwCl (cl_X7_ends ad cs vZ_players vZ_fill vZ_patience vZ_turn vZ_made vZ_out vZ_finishers u.1 vZ_camp vZ_next vZ_far vZ_board u.2.1 u.2.2.1 u.2.2.2) t.heap ∧ va_D (va_A (cl_X7_ends ad cs vZ_players vZ_fill vZ_patience vZ_turn vZ_made vZ_out vZ_finishers vZ_thrown vZ_camp vZ_next vZ_far vZ_board vZ_level vZ_queue vZ_isEnd) sz) (cl_X7_ends ad cs vZ_players vZ_fill vZ_patience vZ_turn vZ_made vZ_out vZ_finishers u.1 vZ_camp vZ_next vZ_far vZ_board u.2.1 u.2.2.1 u.2.2.2)) (va_A (cl_X7_ends ad cs vZ_players vZ_fill vZ_patience vZ_turn vZ_made vZ_out vZ_finishers vZ_thrown vZ_camp vZ_next vZ_far vZ_board vZ_level vZ_queue vZ_isEnd) sz)) 0 0 (va_A (cl_X7_ends ad cs vZ_players vZ_fill vZ_patience vZ_turn vZ_made vZ_out vZ_finishers vZ_thrown vZ_camp vZ_next vZ_far vZ_board vZ_level vZ_queue vZ_isEnd) sz) := by
  refine Met.ofW (cc := cX7_ends) (maxL := 2) (ret := (some .int)) (by decide) rfl ?_
  intro p e s m args below meth c s₁ B hml hv
  obtain ⟨rfl, hsz, hP, hK, hD0, hN⟩ := hv
  subst hsz
  have hl := lv_entry ([.ref (ad 28), .int x1]) (n := 2) (Nat.le_of_ble_eq_true rfl)
  rw [lg_entry_eq]
  have hx := B.exec
  have hb := B.bytes
  have hr := B.returns
  exact b_X7_ends l D ad cs vZ_players vZ_fill vZ_patience vZ_turn vZ_made vZ_out vZ_finishers vZ_thrown vZ_camp vZ_next vZ_far vZ_board vZ_level vZ_queue vZ_isEnd x1 Q hx hb hml (findClass_of_methodNamed B.named) (atoms_spec (ws := wsX7_ends) B.pre) hN hP hK hD0.self (fun q h => Or.inr h) hl (fun r o0 o1 o2 o3 H locs pc ls hq hP hD hS hd => W.iret (v := r) hx hb hr (fun t ht hW => ⟨⟨r, (o0, o1, o2, o3), rfl, hq, by rw [ht]; exact hP, hD⟩, hS.F ht⟩) hS.2.2 hd) hw
abbrev rm_X7_endAt : Room := { frames := 3, cells := 0, slots := 0, locals := 76 }
abbrev cl_X7_endAt (ad : Nat → Nat) (cs : Nat → ClassId) (vZ_players vZ_fill vZ_patience vZ_turn vZ_made vZ_out vZ_finishers vZ_thrown : Int32) (vZ_camp vZ_next vZ_far vZ_board vZ_level vZ_queue vZ_isEnd : Nat → Int32) : va_W := [((ad 28), .inr (7, [.ref (ad 29), .ref (ad 30), .ref (ad 31), .ref (ad 32), .ref (ad 33), .ref (ad 34), .int vZ_players, .int vZ_fill, .int vZ_patience, .ref (ad 35), .int vZ_turn, .int vZ_made, .int vZ_out, .ref (ad 36), .int vZ_finishers, .ref (ad 37), .ref (ad 38), .ref (ad 39), .ref (ad 40), .ref (ad 41), .ref (ad 42), .ref (ad 43), .ref (ad 44), .ref (ad 45), .ref (ad 46), .ref (ad 47), .int vZ_thrown])), ((ad 31), .inl ((cs 31), 121, .inl vZ_camp)), ((ad 32), .inl ((cs 32), 726, .inl vZ_next)), ((ad 33), .inl ((cs 33), 14641, .inl vZ_far)), ((ad 35), .inl ((cs 35), 121, .inl vZ_board)), ((ad 43), .inl ((cs 43), 121, .inl vZ_level)), ((ad 44), .inl ((cs 44), 121, .inl vZ_queue)), ((ad 45), .inl ((cs 45), 121, .inl vZ_isEnd))]
abbrev ty_X7_endAt (cs : Nat → ClassId) : List (ClassId × FieldType) := [((cs 31), .int), ((cs 32), .int), ((cs 33), .int), ((cs 35), .int), ((cs 43), .int), ((cs 44), .int), ((cs 45), .boolean)]
def wJ_X7_endAt_85 (vZ_isEnd : Nat → Int32) (x4 x6 t0 : Int32) (P51 : Int32 → Int32 → Int32 → Prop) : Prop :=
 (vp_in x6 121 ∧
 (((vZ_isEnd x6.toNatClampNeg) = 0 → P51 (x4 - (0 : Int32)) t0 (x6 + (1 : Int32))) ∧
 (¬ (vZ_isEnd x6.toNatClampNeg) = 0 → P51 (x4 - (1 : Int32)) t0 (x6 + (1 : Int32)))))
def wb_X7_endAt_51 (vZ_isEnd : Nat → Int32) (K51 : Int32 → Prop) (P51 : Int32 → Int32 → Int32 → Prop) (x4 x5 x6 : Int32) : Prop :=
 (((121 : Int32) ≤ x6 → K51 x5) ∧
 (¬ (121 : Int32) ≤ x6 → ((¬ x5 = (-1 : Int32) → K51 x5) ∧
 (x5 = (-1 : Int32) → (vp_in x6 121 ∧
 (((vZ_isEnd x6.toNatClampNeg) = 0 → wJ_X7_endAt_85 vZ_isEnd x4 x6 (-1 : Int32) P51) ∧
 (¬ (vZ_isEnd x6.toNatClampNeg) = 0 → ((¬ x4 = 0 → wJ_X7_endAt_85 vZ_isEnd x4 x6 (-1 : Int32) P51) ∧
 (x4 = 0 → wJ_X7_endAt_85 vZ_isEnd x4 x6 x6 P51)))))))))
def wl_X7_endAt_51 (vZ_isEnd : Nat → Int32) (K51 : Int32 → Prop) (x4 x5 x6 : Int32) : Prop := ∀ P51 : Int32 → Int32 → Int32 → Prop, (∀ (x4 x5 x6 : Int32), wb_X7_endAt_51 vZ_isEnd K51 P51 x4 x5 x6 → P51 x4 x5 x6) → P51 x4 x5 x6
def wJ_X7_endAt_34 (vZ_players vZ_fill vZ_patience vZ_turn vZ_made vZ_out vZ_finishers vZ_thrown : Int32) (vZ_level vZ_queue vZ_isEnd : Nat → Int32) (x2 t1 : Int32) (Q : Int32 → Int32 → (Nat → Int32) → (Nat → Int32) → (Nat → Int32) → Prop) : Prop :=
 wp_X7_can vZ_players vZ_fill vZ_patience vZ_turn vZ_made vZ_out vZ_finishers vZ_thrown t1 (fun r_8 vZ_thrown_9 =>
 ((¬ r_8 = 0 → wl_X7_endAt_51 vZ_isEnd (fun x5_11 => Q x5_11 vZ_thrown_9 vZ_level vZ_queue vZ_isEnd) x2 (-1 : Int32) (0 : Int32)) ∧
 (r_8 = 0 → Q (0 : Int32) vZ_thrown_9 vZ_level vZ_queue vZ_isEnd)))
def wJ_X7_endAt_16 (vZ_players vZ_fill vZ_patience vZ_turn vZ_made vZ_out vZ_finishers vZ_thrown : Int32) (vZ_level vZ_queue vZ_isEnd : Nat → Int32) (x2 t0 : Int32) (Q : Int32 → Int32 → (Nat → Int32) → (Nat → Int32) → (Nat → Int32) → Prop) : Prop :=
 wp_X7_isIn x2 (0 : Int32) (t0 - (1 : Int32)) (fun r_12 =>
 ((r_12 = 0 → wJ_X7_endAt_34 vZ_players vZ_fill vZ_patience vZ_turn vZ_made vZ_out vZ_finishers vZ_thrown vZ_level vZ_queue vZ_isEnd x2 (1 : Int32) Q) ∧
 (¬ r_12 = 0 → wJ_X7_endAt_34 vZ_players vZ_fill vZ_patience vZ_turn vZ_made vZ_out vZ_finishers vZ_thrown vZ_level vZ_queue vZ_isEnd x2 (0 : Int32) Q)))
def wp_X7_endAt (vZ_players vZ_fill vZ_patience vZ_turn vZ_made vZ_out vZ_finishers vZ_thrown : Int32) (vZ_camp vZ_next vZ_far vZ_board vZ_level vZ_queue vZ_isEnd : Nat → Int32) (x1 x2 : Int32) (Q : Int32 → Int32 → (Nat → Int32) → (Nat → Int32) → (Nat → Int32) → Prop) : Prop :=
 wp_X7_isCell x1 (fun r_14 =>
 ((r_14 = 0 → wJ_X7_endAt_16 vZ_players vZ_fill vZ_patience vZ_turn vZ_made vZ_out vZ_finishers vZ_thrown vZ_level vZ_queue vZ_isEnd x2 (0 : Int32) Q) ∧
 (¬ r_14 = 0 → wp_X7_endsOf vZ_players vZ_fill vZ_patience vZ_turn vZ_made vZ_out vZ_finishers vZ_thrown vZ_camp vZ_next vZ_far vZ_board vZ_level vZ_queue vZ_isEnd x1 (fun r_16 vZ_level_17 vZ_queue_18 vZ_isEnd_19 =>
 wJ_X7_endAt_16 vZ_players vZ_fill vZ_patience vZ_turn vZ_made vZ_out vZ_finishers vZ_thrown vZ_level_17 vZ_queue_18 vZ_isEnd_19 x2 r_16 Q))))
set_option maxHeartbeats 4000000 in
set_option maxRecDepth 100000 in
theorem b_X7_endAt {p : Program} {e : Env} {s : State} {m : MethodId} {args : Array Value} {below : List Frame} {meth : Method} {c : Code} {QQ : State → Prop} {A : Nat → Prop} {ls : Array Slot} (l : Launch) (D : va_G) (ad : Nat → Nat) (cs : Nat → ClassId) (vZ_players vZ_fill vZ_patience vZ_turn vZ_made vZ_out vZ_finishers vZ_thrown : Int32) (vZ_camp vZ_next vZ_far vZ_board vZ_level vZ_queue vZ_isEnd : Nat → Int32) (x1 x2 : Int32) (Q : Int32 → Int32 → (Nat → Int32) → (Nat → Int32) → (Nat → Int32) → Prop) (hx : p.tables.exec = Jvm.exec) (hb : c.code = cX7_endAt) (hml : c.maxLocals = 7) (hown : s.vm.findClass RX7 = some m.cls) (hts : ∀ w ∈ wsX7_endAt, w.before args s = true) (hN : NW s) (hP : va_P D vwCl (cl_X7_endAt ad cs vZ_players vZ_fill vZ_patience vZ_turn vZ_made vZ_out vZ_finishers vZ_thrown vZ_camp vZ_next vZ_far vZ_board vZ_level vZ_queue vZ_isEnd) s.heap) (hK : va_K D vwCl (ty_X7_endAt cs) s) (hD : va_D A (cl_X7_endAt ad cs vZ_players vZ_fill vZ_patience vZ_turn vZ_made vZ_out vZ_finishers vZ_thrown vZ_camp vZ_next vZ_far vZ_board vZ_level vZ_queue vZ_isEnd)) (hA : ∀ q : Nat, s.heap.size ≤ q → A q) (hl : lv_has ls 7 [(0, .ref (ad 28)), (1, .int x1), (2, .int x2)])
  (hret : ∀ (r : Int32) (o0 : Int32) (o1 : Nat → Int32) (o2 : Nat → Int32) (o3 : Nat → Int32) (H : Heap) (locs : List Loc) (pc : Nat) (ls : Array Slot), Q r o0 o1 o2 o3 → va_P D vwCl (cl_X7_endAt ad cs vZ_players vZ_fill vZ_patience vZ_turn vZ_made vZ_out vZ_finishers o0 vZ_camp vZ_next vZ_far vZ_board o1 o2 o3) H → va_D A (cl_X7_endAt ad cs vZ_players vZ_fill vZ_patience vZ_turn vZ_made vZ_out vZ_finishers o0 vZ_camp vZ_next vZ_far vZ_board o1 o2 o3) → va_S A s.heap H locs → decode cX7_endAt pc = .ok (.ireturn, 1) → W p l e rm_X7_endAt s m args below meth c H locs 0 0 QQ (F0 m pc ls [.int r]))
  (hw : wp_X7_endAt vZ_players vZ_fill vZ_patience vZ_turn vZ_made vZ_out vZ_finishers vZ_thrown vZ_camp vZ_next vZ_far vZ_board vZ_level vZ_queue vZ_isEnd x1 x2 Q) :
  W p l e rm_X7_endAt s m args below meth c s.heap [] 0 0 QQ (F0 m 0 ls []) := by
  have S0 : CallFix p m c cX7_endAt 7 s args wsX7_endAt RX7 := ⟨hx, hb, hml, hown, hts⟩
  have inX7 : ∀ w ∈ u_ws RX7 TX7 27, w ∈ wsX7_endAt := by decide +kernel
  have fl_62 := hts (.fieldLink RX7 62 "HopperCourtModel" "isEnd" "[Z") (by decide +kernel)
  have hJ85 : ∀ (vZ_isEnd : Nat → Int32) (x4 x6 t0 : Int32) (P51 : Int32 → Int32 → Int32 → Prop) (vZ_thrown : Int32) (vZ_level vZ_queue : Nat → Int32), wJ_X7_endAt_85 vZ_isEnd x4 x6 t0 P51 → (∀ (x4 x5 x6 : Int32), P51 x4 x5 x6 → ∀ (H : Heap) (locs : List Loc) (ls : Array Slot), va_P D vwCl (cl_X7_endAt ad cs vZ_players vZ_fill vZ_patience vZ_turn vZ_made vZ_out vZ_finishers vZ_thrown vZ_camp vZ_next vZ_far vZ_board vZ_level vZ_queue vZ_isEnd) H → va_D A (cl_X7_endAt ad cs vZ_players vZ_fill vZ_patience vZ_turn vZ_made vZ_out vZ_finishers vZ_thrown vZ_camp vZ_next vZ_far vZ_board vZ_level vZ_queue vZ_isEnd) → va_S A s.heap H locs → lv_has ls 7 [(0, .ref (ad 28)), (4, .int x4), (5, .int x5), (6, .int x6)] → W p l e rm_X7_endAt s m args below meth c H locs 0 0 QQ (F0 m 51 ls [])) → ∀ (H : Heap) (locs : List Loc) (ls : Array Slot), va_P D vwCl (cl_X7_endAt ad cs vZ_players vZ_fill vZ_patience vZ_turn vZ_made vZ_out vZ_finishers vZ_thrown vZ_camp vZ_next vZ_far vZ_board vZ_level vZ_queue vZ_isEnd) H → va_D A (cl_X7_endAt ad cs vZ_players vZ_fill vZ_patience vZ_turn vZ_made vZ_out vZ_finishers vZ_thrown vZ_camp vZ_next vZ_far vZ_board vZ_level vZ_queue vZ_isEnd) → va_S A s.heap H locs → lv_has ls 7 [(0, .ref (ad 28)), (4, .int x4), (6, .int x6)] → W p l e rm_X7_endAt s m args below meth c H locs 0 0 QQ (F0 m 85 ls [.int t0]) := by
    intro vZ_isEnd x4 x6 t0 P51 vZ_thrown vZ_level vZ_queue hw hB51 H locs ls hP hD hS hl
    unfold wJ_X7_endAt_85 at hw
    refine lv_istore (lv' := [(5, .int t0), (0, .ref (ad 28)), (4, .int x4), (6, .int x6)]) hx hb dX7_endAt_85 hl (by decide) rfl (fun ls hl => ?_)
    refine lv_iload hx hb dX7_endAt_87 (lv_at hl 2 rfl) ?_
    refine lv_aload_n hx hb dX7_endAt_89 rfl (lv_at hl 1 rfl) ?_
    refine va_get (D := D) (ci := 7) (v := .ref (ad 45)) (C := RX7) (T := TX7) (N := 27) hx hb hts inX7 hown hK hP 0 rfl rfl 23 (by decide) fl_62 (fun _ h9 => h9) rfl dX7_endAt_90 ?_
    refine lv_iload hx hb dX7_endAt_93 (lv_at hl 3 rfl) ?_
    obtain ⟨h_1, hw⟩ := hw
    refine va_zald hx hb hK hP 7 6 rfl rfl h_1 dX7_endAt_95 ?_
    refine lv_if_eq (tgt := 103) hx hb dX7_endAt_96 (by decide) (fun c_2 => ?_) (fun c_2 => ?_)
    · have hw := hw.1 c_2
      refine lv_iconst (v := (0 : Int32)) hx hb dX7_endAt_103 (by decide) ?_
      refine lv_isub hx hb dX7_endAt_104 ?_
      refine lv_istore (lv' := [(4, .int (x4 - (0 : Int32))), (5, .int t0), (0, .ref (ad 28)), (6, .int x6)]) hx hb dX7_endAt_105 hl (by decide) rfl (fun ls hl => ?_)
      refine lv_iinc (v := (x6 + (1 : Int32))) (lv' := [(6, .int (x6 + (1 : Int32))), (4, .int (x4 - (0 : Int32))), (5, .int t0), (0, .ref (ad 28))]) hx hb dX7_endAt_107 hl (k := 3) rfl rfl (by decide) rfl (fun ls hl => ?_)
      refine lv_goto (tgt := 51) hx hb dX7_endAt_110 (by decide) ?_
      exact hB51 (x4 - (0 : Int32)) t0 (x6 + (1 : Int32)) hw _ _ _ hP hD hS (lv_sub hl [3, 1, 2, 0] rfl)
    · have hw := hw.2 c_2
      refine lv_iconst (v := (1 : Int32)) hx hb dX7_endAt_99 (by decide) ?_
      refine lv_goto (tgt := 104) hx hb dX7_endAt_100 (by decide) ?_
      refine lv_isub hx hb dX7_endAt_104 ?_
      refine lv_istore (lv' := [(4, .int (x4 - (1 : Int32))), (5, .int t0), (0, .ref (ad 28)), (6, .int x6)]) hx hb dX7_endAt_105 hl (by decide) rfl (fun ls hl => ?_)
      refine lv_iinc (v := (x6 + (1 : Int32))) (lv' := [(6, .int (x6 + (1 : Int32))), (4, .int (x4 - (1 : Int32))), (5, .int t0), (0, .ref (ad 28))]) hx hb dX7_endAt_107 hl (k := 3) rfl rfl (by decide) rfl (fun ls hl => ?_)
      refine lv_goto (tgt := 51) hx hb dX7_endAt_110 (by decide) ?_
      exact hB51 (x4 - (1 : Int32)) t0 (x6 + (1 : Int32)) hw _ _ _ hP hD hS (lv_sub hl [3, 1, 2, 0] rfl)
  have hL51 : ∀ (vZ_isEnd : Nat → Int32) (K51 : Int32 → Prop) (x4 x5 x6 vZ_thrown : Int32) (vZ_level vZ_queue : Nat → Int32), wl_X7_endAt_51 vZ_isEnd K51 x4 x5 x6 → (∀ (x5 : Int32), K51 x5 → ∀ (H : Heap) (locs : List Loc) (ls : Array Slot), va_P D vwCl (cl_X7_endAt ad cs vZ_players vZ_fill vZ_patience vZ_turn vZ_made vZ_out vZ_finishers vZ_thrown vZ_camp vZ_next vZ_far vZ_board vZ_level vZ_queue vZ_isEnd) H → va_D A (cl_X7_endAt ad cs vZ_players vZ_fill vZ_patience vZ_turn vZ_made vZ_out vZ_finishers vZ_thrown vZ_camp vZ_next vZ_far vZ_board vZ_level vZ_queue vZ_isEnd) → va_S A s.heap H locs → lv_has ls 7 [(5, .int x5)] → W p l e rm_X7_endAt s m args below meth c H locs 0 0 QQ (F0 m 113 ls [])) → ∀ (H : Heap) (locs : List Loc) (ls : Array Slot), va_P D vwCl (cl_X7_endAt ad cs vZ_players vZ_fill vZ_patience vZ_turn vZ_made vZ_out vZ_finishers vZ_thrown vZ_camp vZ_next vZ_far vZ_board vZ_level vZ_queue vZ_isEnd) H → va_D A (cl_X7_endAt ad cs vZ_players vZ_fill vZ_patience vZ_turn vZ_made vZ_out vZ_finishers vZ_thrown vZ_camp vZ_next vZ_far vZ_board vZ_level vZ_queue vZ_isEnd) → va_S A s.heap H locs → lv_has ls 7 [(0, .ref (ad 28)), (4, .int x4), (5, .int x5), (6, .int x6)] → W p l e rm_X7_endAt s m args below meth c H locs 0 0 QQ (F0 m 51 ls []) := by
    intro vZ_isEnd K51 x4 x5 x6 vZ_thrown vZ_level vZ_queue hw hK51
    unfold wl_X7_endAt_51 at hw
    refine hw (fun (x4 x5 x6 : Int32) => ∀ (H : Heap) (locs : List Loc) (ls : Array Slot), va_P D vwCl (cl_X7_endAt ad cs vZ_players vZ_fill vZ_patience vZ_turn vZ_made vZ_out vZ_finishers vZ_thrown vZ_camp vZ_next vZ_far vZ_board vZ_level vZ_queue vZ_isEnd) H → va_D A (cl_X7_endAt ad cs vZ_players vZ_fill vZ_patience vZ_turn vZ_made vZ_out vZ_finishers vZ_thrown vZ_camp vZ_next vZ_far vZ_board vZ_level vZ_queue vZ_isEnd) → va_S A s.heap H locs → lv_has ls 7 [(0, .ref (ad 28)), (4, .int x4), (5, .int x5), (6, .int x6)] → W p l e rm_X7_endAt s m args below meth c H locs 0 0 QQ (F0 m 51 ls [])) ?_
    intro x4 x5 x6 hw H locs ls hP hD hS hl
    unfold wb_X7_endAt_51 at hw
    refine lv_iload hx hb dX7_endAt_51 (lv_at hl 3 rfl) ?_
    refine lv_bipush (v := (121 : Int32)) hx hb dX7_endAt_53 (by decide) ?_
    refine lv_icmp_ge (tgt := 113) hx hb dX7_endAt_55 (by decide) (fun c_3 => ?_) (fun c_3 => ?_)
    · have hw := hw.1 c_3
      exact hK51 x5 hw _ _ _ hP hD hS (lv_sub hl [2] rfl)
    · have hw := hw.2 c_3
      refine lv_iload hx hb dX7_endAt_58 (lv_at hl 2 rfl) ?_
      refine lv_iconst (v := (-1 : Int32)) hx hb dX7_endAt_60 (by decide) ?_
      refine lv_icmp_ne (tgt := 113) hx hb dX7_endAt_61 (by decide) (fun c_4 => ?_) (fun c_4 => ?_)
      · have hw := hw.1 c_4
        exact hK51 x5 hw _ _ _ hP hD hS (lv_sub hl [2] rfl)
      · have hw := hw.2 c_4
        refine lv_aload_n hx hb dX7_endAt_64 rfl (lv_at hl 0 rfl) ?_
        refine va_get (D := D) (ci := 7) (v := .ref (ad 45)) (C := RX7) (T := TX7) (N := 27) hx hb hts inX7 hown hK hP 0 rfl rfl 23 (by decide) fl_62 (fun _ h9 => h9) rfl dX7_endAt_65 ?_
        refine lv_iload hx hb dX7_endAt_68 (lv_at hl 3 rfl) ?_
        obtain ⟨h_5, hw⟩ := hw
        refine va_zald hx hb hK hP 7 6 rfl rfl h_5 dX7_endAt_70 ?_
        refine lv_if_eq (tgt := 84) hx hb dX7_endAt_71 (by decide) (fun c_6 => ?_) (fun c_6 => ?_)
        · have hw := hw.1 c_6
          refine lv_iconst (v := (-1 : Int32)) hx hb dX7_endAt_84 (by decide) ?_
          exact hJ85 vZ_isEnd x4 x6 (-1 : Int32) _ _ _ _ hw (fun _ _ _ h => h) _ _ _ hP hD hS (lv_sub hl [0, 1, 3] rfl)
        · have hw := hw.2 c_6
          refine lv_iload hx hb dX7_endAt_74 (lv_at hl 1 rfl) ?_
          refine lv_if_ne (tgt := 84) hx hb dX7_endAt_76 (by decide) (fun c_7 => ?_) (fun c_7 => ?_)
          · have hw := hw.1 c_7
            refine lv_iconst (v := (-1 : Int32)) hx hb dX7_endAt_84 (by decide) ?_
            exact hJ85 vZ_isEnd x4 x6 (-1 : Int32) _ _ _ _ hw (fun _ _ _ h => h) _ _ _ hP hD hS (lv_sub hl [0, 1, 3] rfl)
          · have hw := hw.2 c_7
            refine lv_iload hx hb dX7_endAt_79 (lv_at hl 3 rfl) ?_
            refine lv_goto (tgt := 85) hx hb dX7_endAt_81 (by decide) ?_
            exact hJ85 vZ_isEnd x4 x6 x6 _ _ _ _ hw (fun _ _ _ h => h) _ _ _ hP hD hS (lv_sub hl [0, 1, 3] rfl)
  have hJ34 : ∀ (vZ_thrown : Int32) (vZ_level vZ_queue vZ_isEnd : Nat → Int32) (x2 t1 : Int32), wJ_X7_endAt_34 vZ_players vZ_fill vZ_patience vZ_turn vZ_made vZ_out vZ_finishers vZ_thrown vZ_level vZ_queue vZ_isEnd x2 t1 Q → ∀ (H : Heap) (locs : List Loc) (ls : Array Slot), va_P D vwCl (cl_X7_endAt ad cs vZ_players vZ_fill vZ_patience vZ_turn vZ_made vZ_out vZ_finishers vZ_thrown vZ_camp vZ_next vZ_far vZ_board vZ_level vZ_queue vZ_isEnd) H → va_D A (cl_X7_endAt ad cs vZ_players vZ_fill vZ_patience vZ_turn vZ_made vZ_out vZ_finishers vZ_thrown vZ_camp vZ_next vZ_far vZ_board vZ_level vZ_queue vZ_isEnd) → va_S A s.heap H locs → lv_has ls 7 [(0, .ref (ad 28)), (2, .int x2)] → W p l e rm_X7_endAt s m args below meth c H locs 0 0 QQ (F0 m 34 ls [.int t1, .ref (ad 28)]) := by
    intro vZ_thrown vZ_level vZ_queue vZ_isEnd x2 t1 hw  H locs ls hP hD hS hl
    unfold wJ_X7_endAt_34 at hw
    refine pcVi (rest := []) (wr := [((ad 31), .inl ((cs 31), 121, .inl vZ_camp)), ((ad 32), .inl ((cs 32), 726, .inl vZ_next)), ((ad 33), .inl ((cs 33), 14641, .inl vZ_far)), ((ad 35), .inl ((cs 35), 121, .inl vZ_board)), ((ad 43), .inl ((cs 43), 121, .inl vZ_level)), ((ad 44), .inl ((cs 44), 121, .inl vZ_queue)), ((ad 45), .inl ((cs 45), 121, .inl vZ_isEnd))]) (ci := 7) S0 (c_X7_can l D ad cs H.size vZ_players vZ_fill vZ_patience vZ_turn vZ_made vZ_out vZ_finishers vZ_thrown t1 _ hw) (cwV 1 hts gX7_endAt_X7_can rfl rfl rfl (by decide +kernel) ⟨Nat.le_of_ble_eq_true rfl, Nat.le_of_ble_eq_true rfl⟩) hN hK hP hD hS hA [0] [1, 2, 3, 4, 5, 6, 7] [] ⟨rfl, rfl, rfl, rfl, rfl, by decide⟩ 0 rfl rfl rfl rfl hl.1 (Nat.le_of_ble_eq_true rfl) ⟨Nat.le_of_ble_eq_true rfl, Nat.le_of_ble_eq_true rfl⟩ dX7_endAt_34 (fun r_8 u H locs hw hP hD hS => ?_)
    obtain ⟨vZ_thrown_9, rfl⟩ : ∃ z, z = u := ⟨_, rfl⟩
    have hP : va_P D vwCl (cl_X7_endAt ad cs vZ_players vZ_fill vZ_patience vZ_turn vZ_made vZ_out vZ_finishers vZ_thrown_9 vZ_camp vZ_next vZ_far vZ_board vZ_level vZ_queue vZ_isEnd) H := hP.sub [7, 0, 1, 2, 3, 4, 5, 6] rfl
    have hD : va_D A (cl_X7_endAt ad cs vZ_players vZ_fill vZ_patience vZ_turn vZ_made vZ_out vZ_finishers vZ_thrown_9 vZ_camp vZ_next vZ_far vZ_board vZ_level vZ_queue vZ_isEnd) := hD.sub [7, 0, 1, 2, 3, 4, 5, 6] (by decide) rfl
    refine lv_if_ne (tgt := 42) hx hb dX7_endAt_37 (by decide) (fun c_10 => ?_) (fun c_10 => ?_)
    · have hw := hw.1 c_10
      refine lv_iload_n hx hb dX7_endAt_42 rfl (lv_at hl 1 rfl) ?_
      refine lv_istore (lv' := [(4, .int x2), (0, .ref (ad 28)), (2, .int x2)]) hx hb dX7_endAt_43 hl (by decide) rfl (fun ls hl => ?_)
      refine lv_iconst (v := (-1 : Int32)) hx hb dX7_endAt_45 (by decide) ?_
      refine lv_istore (lv' := [(5, .int (-1 : Int32)), (4, .int x2), (0, .ref (ad 28)), (2, .int x2)]) hx hb dX7_endAt_46 hl (by decide) rfl (fun ls hl => ?_)
      refine lv_iconst (v := (0 : Int32)) hx hb dX7_endAt_48 (by decide) ?_
      refine lv_istore (lv' := [(6, .int (0 : Int32)), (5, .int (-1 : Int32)), (4, .int x2), (0, .ref (ad 28)), (2, .int x2)]) hx hb dX7_endAt_49 hl (by decide) rfl (fun ls hl => ?_)
      refine hL51 vZ_isEnd _ x2 (-1 : Int32) (0 : Int32) _ _ _ hw ?_ _ _ _ hP hD hS (lv_sub hl [3, 2, 1, 0] rfl)
      intro x5_11 hw H locs ls hP hD hS hl
      refine lv_iload hx hb dX7_endAt_113 (lv_at hl 0 rfl) ?_
      exact hret _ _ _ _ _ _ _ _ _ hw hP hD hS dX7_endAt_115
    · have hw := hw.2 c_10
      refine lv_iconst (v := (0 : Int32)) hx hb dX7_endAt_40 (by decide) ?_
      exact hret _ _ _ _ _ _ _ _ _ hw hP hD hS dX7_endAt_41
  have hJ16 : ∀ (vZ_thrown : Int32) (vZ_level vZ_queue vZ_isEnd : Nat → Int32) (x2 t0 : Int32), wJ_X7_endAt_16 vZ_players vZ_fill vZ_patience vZ_turn vZ_made vZ_out vZ_finishers vZ_thrown vZ_level vZ_queue vZ_isEnd x2 t0 Q → ∀ (H : Heap) (locs : List Loc) (ls : Array Slot), va_P D vwCl (cl_X7_endAt ad cs vZ_players vZ_fill vZ_patience vZ_turn vZ_made vZ_out vZ_finishers vZ_thrown vZ_camp vZ_next vZ_far vZ_board vZ_level vZ_queue vZ_isEnd) H → va_D A (cl_X7_endAt ad cs vZ_players vZ_fill vZ_patience vZ_turn vZ_made vZ_out vZ_finishers vZ_thrown vZ_camp vZ_next vZ_far vZ_board vZ_level vZ_queue vZ_isEnd) → va_S A s.heap H locs → lv_has ls 7 [(0, .ref (ad 28)), (2, .int x2)] → W p l e rm_X7_endAt s m args below meth c H locs 0 0 QQ (F0 m 16 ls [.int t0]) := by
    intro vZ_thrown vZ_level vZ_queue vZ_isEnd x2 t0 hw  H locs ls hP hD hS hl
    unfold wJ_X7_endAt_16 at hw
    refine lv_istore_n (lv' := [(3, .int t0), (0, .ref (ad 28)), (2, .int x2)]) hx hb dX7_endAt_16 rfl hl (by decide) rfl (fun ls hl => ?_)
    refine lv_aload_n hx hb dX7_endAt_17 rfl (lv_at hl 1 rfl) ?_
    refine lv_iload_n hx hb dX7_endAt_18 rfl (lv_at hl 2 rfl) ?_
    refine lv_iconst (v := (0 : Int32)) hx hb dX7_endAt_19 (by decide) ?_
    refine lv_iload_n hx hb dX7_endAt_20 rfl (lv_at hl 0 rfl) ?_
    refine lv_iconst (v := (1 : Int32)) hx hb dX7_endAt_21 (by decide) ?_
    refine lv_isub hx hb dX7_endAt_22 ?_
    refine pcS (rest := [.ref (ad 28)]) S0 (c_X7_isIn l D ad cs H.size x2 (0 : Int32) (t0 - (1 : Int32)) _ hw) (va_cwS 3 hts gX7_endAt_X7_isIn rfl rfl rfl (by decide +kernel) ⟨Nat.le_of_ble_eq_true rfl, Nat.le_of_ble_eq_true rfl⟩) hN hK hP hD [] [] rfl rfl rfl rfl rfl hl.1 (Nat.le_of_ble_eq_true rfl) ⟨Nat.le_of_ble_eq_true rfl, Nat.le_of_ble_eq_true rfl⟩ dX7_endAt_23 (fun r_12 hw => ?_)
    refine lv_if_eq (tgt := 33) hx hb dX7_endAt_26 (by decide) (fun c_13 => ?_) (fun c_13 => ?_)
    · have hw := hw.1 c_13
      refine lv_iconst (v := (1 : Int32)) hx hb dX7_endAt_33 (by decide) ?_
      exact hJ34 vZ_thrown vZ_level vZ_queue vZ_isEnd x2 (1 : Int32) hw _ _ _ hP hD hS (lv_sub hl [1, 2] rfl)
    · have hw := hw.2 c_13
      refine lv_iconst (v := (0 : Int32)) hx hb dX7_endAt_29 (by decide) ?_
      refine lv_goto (tgt := 34) hx hb dX7_endAt_30 (by decide) ?_
      exact hJ34 vZ_thrown vZ_level vZ_queue vZ_isEnd x2 (0 : Int32) hw _ _ _ hP hD hS (lv_sub hl [1, 2] rfl)
  obtain ⟨H, hH⟩ : ∃ H : Heap, H = s.heap := ⟨_, rfl⟩
  have hS : va_S A s.heap H [] := by rw [hH]; exact va_S.rf
  rw [← hH] at hP ⊢
  unfold wp_X7_endAt at hw
  refine lv_iload_n hx hb dX7_endAt_0 rfl (lv_at hl 1 rfl) ?_
  refine pcS (rest := []) S0 (c_X7_isCell l D ad cs H.size x1 _ hw) (va_cwS 1 hts gX7_endAt_X7_isCell rfl rfl rfl (by decide +kernel) ⟨Nat.le_of_ble_eq_true rfl, Nat.le_of_ble_eq_true rfl⟩) hN hK hP hD [] [] rfl rfl rfl rfl rfl hl.1 (Nat.le_of_ble_eq_true rfl) ⟨Nat.le_of_ble_eq_true rfl, Nat.le_of_ble_eq_true rfl⟩ dX7_endAt_1 (fun r_14 hw => ?_)
  refine lv_if_eq (tgt := 15) hx hb dX7_endAt_4 (by decide) (fun c_15 => ?_) (fun c_15 => ?_)
  · have hw := hw.1 c_15
    refine lv_iconst (v := (0 : Int32)) hx hb dX7_endAt_15 (by decide) ?_
    exact hJ16 vZ_thrown vZ_level vZ_queue vZ_isEnd x2 (0 : Int32) hw _ _ _ hP hD hS (lv_sub hl [0, 2] rfl)
  · have hw := hw.2 c_15
    refine lv_aload_n hx hb dX7_endAt_7 rfl (lv_at hl 0 rfl) ?_
    refine lv_iload_n hx hb dX7_endAt_8 rfl (lv_at hl 1 rfl) ?_
    refine pcVi (rest := []) (wr := []) (ci := 7) S0 (c_X7_endsOf l D ad cs H.size vZ_players vZ_fill vZ_patience vZ_turn vZ_made vZ_out vZ_finishers vZ_thrown vZ_camp vZ_next vZ_far vZ_board vZ_level vZ_queue vZ_isEnd x1 _ hw) (cwV 1 hts gX7_endAt_X7_endsOf rfl rfl rfl (by decide +kernel) ⟨Nat.le_of_ble_eq_true rfl, Nat.le_of_ble_eq_true rfl⟩) hN hK hP hD hS hA [0, 1, 2, 3, 4, 5, 6, 7] [] [0, 1, 2, 3, 4, 5, 6] ⟨rfl, rfl, rfl, rfl, rfl, by decide⟩ 0 rfl rfl rfl rfl hl.1 (Nat.le_of_ble_eq_true rfl) ⟨Nat.le_of_ble_eq_true rfl, Nat.le_of_ble_eq_true rfl⟩ dX7_endAt_9 (fun r_16 u H locs hw hP hD hS => ?_)
    obtain ⟨vZ_level_17, vZ_queue_18, vZ_isEnd_19⟩ := u
    dsimp only at hw
    have hP : va_P D vwCl (cl_X7_endAt ad cs vZ_players vZ_fill vZ_patience vZ_turn vZ_made vZ_out vZ_finishers vZ_thrown vZ_camp vZ_next vZ_far vZ_board vZ_level_17 vZ_queue_18 vZ_isEnd_19) H := hP.sub [0, 1, 2, 3, 4, 5, 6, 7] rfl
    have hD : va_D A (cl_X7_endAt ad cs vZ_players vZ_fill vZ_patience vZ_turn vZ_made vZ_out vZ_finishers vZ_thrown vZ_camp vZ_next vZ_far vZ_board vZ_level_17 vZ_queue_18 vZ_isEnd_19) := hD.sub [0, 1, 2, 3, 4, 5, 6, 7] (by decide) rfl
    refine lv_goto (tgt := 16) hx hb dX7_endAt_12 (by decide) ?_
    exact hJ16 vZ_thrown vZ_level_17 vZ_queue_18 vZ_isEnd_19 x2 r_16 hw _ _ _ hP hD hS (lv_sub hl [0, 2] rfl)
set_option maxHeartbeats 4000000 in
set_option maxRecDepth 100000 in
theorem c_X7_endAt (l : Launch) (D : va_G) (ad : Nat → Nat) (cs : Nat → ClassId) (sz : Nat) (vZ_players vZ_fill vZ_patience vZ_turn vZ_made vZ_out vZ_finishers vZ_thrown : Int32) (vZ_camp vZ_next vZ_far vZ_board vZ_level vZ_queue vZ_isEnd : Nat → Int32) (x1 x2 : Int32) (Q : Int32 → Int32 → (Nat → Int32) → (Nat → Int32) → (Nat → Int32) → Prop) (hw : wp_X7_endAt vZ_players vZ_fill vZ_patience vZ_turn vZ_made vZ_out vZ_finishers vZ_thrown vZ_camp vZ_next vZ_far vZ_board vZ_level vZ_queue vZ_isEnd x1 x2 Q) :
  Met l yX7_endAt wsX7_endAt rm_X7_endAt (va_Pc [.ref (ad 28), .int x1, .int x2] (PX D (cl_X7_endAt ad cs vZ_players vZ_fill vZ_patience vZ_turn vZ_made vZ_out vZ_finishers vZ_thrown vZ_camp vZ_next vZ_far vZ_board vZ_level vZ_queue vZ_isEnd) (ty_X7_endAt cs) sz)) (va_Qi (fun (r : Int32) (u : Int32 × (Nat → Int32) × (Nat → Int32) × (Nat → Int32)) => Q r u.1 u.2.1 u.2.2.1 u.2.2.2) (fun (u : Int32 × (Nat → Int32) × (Nat → Int32) × (Nat → Int32)) t => va_P D vwCl (cl_X7_endAt ad cs vZ_players vZ_fill vZ_patience vZ_turn vZ_made vZ_out vZ_finishers u.1 vZ_camp vZ_next vZ_far vZ_board u.2.1 u.2.2.1 u.2.2.2) t.heap ∧ va_D (va_A (cl_X7_endAt ad cs vZ_players vZ_fill vZ_patience vZ_turn vZ_made vZ_out vZ_finishers vZ_thrown vZ_camp vZ_next vZ_far vZ_board vZ_level vZ_queue vZ_isEnd) sz) (cl_X7_endAt ad cs vZ_players vZ_fill vZ_patience vZ_turn vZ_made vZ_out vZ_finishers u.1 vZ_camp vZ_next vZ_far vZ_board u.2.1 u.2.2.1 u.2.2.2)) (va_A (cl_X7_endAt ad cs vZ_players vZ_fill vZ_patience vZ_turn vZ_made vZ_out vZ_finishers vZ_thrown vZ_camp vZ_next vZ_far vZ_board vZ_level vZ_queue vZ_isEnd) sz)) 0 0 (va_A (cl_X7_endAt ad cs vZ_players vZ_fill vZ_patience vZ_turn vZ_made vZ_out vZ_finishers vZ_thrown vZ_camp vZ_next vZ_far vZ_board vZ_level vZ_queue vZ_isEnd) sz) := by
  refine Met.ofW (cc := cX7_endAt) (maxL := 7) (ret := (some .int)) (by decide) rfl ?_
  intro p e s m args below meth c s₁ B hml hv
  obtain ⟨rfl, hsz, hP, hK, hD0, hN⟩ := hv
  subst hsz
  have hl := lv_entry ([.ref (ad 28), .int x1, .int x2]) (n := 7) (Nat.le_of_ble_eq_true rfl)
  rw [lg_entry_eq]
  have hx := B.exec
  have hb := B.bytes
  have hr := B.returns
  exact b_X7_endAt l D ad cs vZ_players vZ_fill vZ_patience vZ_turn vZ_made vZ_out vZ_finishers vZ_thrown vZ_camp vZ_next vZ_far vZ_board vZ_level vZ_queue vZ_isEnd x1 x2 Q hx hb hml (findClass_of_methodNamed B.named) (atoms_spec (ws := wsX7_endAt) B.pre) hN hP hK hD0.self (fun q h => Or.inr h) hl (fun r o0 o1 o2 o3 H locs pc ls hq hP hD hS hd => W.iret (v := r) hx hb hr (fun t ht hW => ⟨⟨r, (o0, o1, o2, o3), rfl, hq, by rw [ht]; exact hP, hD⟩, hS.F ht⟩) hS.2.2 hd) hw
abbrev rm_X7_moves : Room := { frames := 4, cells := 0, slots := 0, locals := 98 }
abbrev cl_X7_moves (ad : Nat → Nat) (cs : Nat → ClassId) (vZ_players vZ_fill vZ_patience vZ_turn vZ_made vZ_out vZ_finishers vZ_thrown : Int32) (vZ_camp vZ_next vZ_far vZ_board vZ_level vZ_queue vZ_isEnd : Nat → Int32) : va_W := [((ad 28), .inr (7, [.ref (ad 29), .ref (ad 30), .ref (ad 31), .ref (ad 32), .ref (ad 33), .ref (ad 34), .int vZ_players, .int vZ_fill, .int vZ_patience, .ref (ad 35), .int vZ_turn, .int vZ_made, .int vZ_out, .ref (ad 36), .int vZ_finishers, .ref (ad 37), .ref (ad 38), .ref (ad 39), .ref (ad 40), .ref (ad 41), .ref (ad 42), .ref (ad 43), .ref (ad 44), .ref (ad 45), .ref (ad 46), .ref (ad 47), .int vZ_thrown])), ((ad 31), .inl ((cs 31), 121, .inl vZ_camp)), ((ad 32), .inl ((cs 32), 726, .inl vZ_next)), ((ad 33), .inl ((cs 33), 14641, .inl vZ_far)), ((ad 35), .inl ((cs 35), 121, .inl vZ_board)), ((ad 43), .inl ((cs 43), 121, .inl vZ_level)), ((ad 44), .inl ((cs 44), 121, .inl vZ_queue)), ((ad 45), .inl ((cs 45), 121, .inl vZ_isEnd))]
abbrev ty_X7_moves (cs : Nat → ClassId) : List (ClassId × FieldType) := [((cs 31), .int), ((cs 32), .int), ((cs 33), .int), ((cs 35), .int), ((cs 43), .int), ((cs 44), .int), ((cs 45), .boolean)]
def wp_X7_moves (vZ_players vZ_fill vZ_patience vZ_turn vZ_made vZ_out vZ_finishers vZ_thrown : Int32) (vZ_camp vZ_next vZ_far vZ_board vZ_level vZ_queue vZ_isEnd : Nat → Int32) (Q : Int32 → Int32 → (Nat → Int32) → (Nat → Int32) → (Nat → Int32) → Prop) : Prop :=
 wp_X7_allMoves vZ_players vZ_fill vZ_patience vZ_turn vZ_made vZ_out vZ_finishers (0 : Int32) vZ_camp vZ_next vZ_far vZ_board vZ_level vZ_queue vZ_isEnd (fun r_1 vZ_level_2 vZ_queue_3 vZ_isEnd_4 =>
 Q r_1 (0 : Int32) vZ_level_2 vZ_queue_3 vZ_isEnd_4)
set_option maxHeartbeats 4000000 in
set_option maxRecDepth 100000 in
theorem b_X7_moves {p : Program} {e : Env} {s : State} {m : MethodId} {args : Array Value} {below : List Frame} {meth : Method} {c : Code} {QQ : State → Prop} {A : Nat → Prop} {ls : Array Slot} (l : Launch) (D : va_G) (ad : Nat → Nat) (cs : Nat → ClassId) (vZ_players vZ_fill vZ_patience vZ_turn vZ_made vZ_out vZ_finishers vZ_thrown : Int32) (vZ_camp vZ_next vZ_far vZ_board vZ_level vZ_queue vZ_isEnd : Nat → Int32) (Q : Int32 → Int32 → (Nat → Int32) → (Nat → Int32) → (Nat → Int32) → Prop) (hx : p.tables.exec = Jvm.exec) (hb : c.code = cX7_moves) (hml : c.maxLocals = 1) (hown : s.vm.findClass RX7 = some m.cls) (hts : ∀ w ∈ wsX7_moves, w.before args s = true) (hN : NW s) (hP : va_P D vwCl (cl_X7_moves ad cs vZ_players vZ_fill vZ_patience vZ_turn vZ_made vZ_out vZ_finishers vZ_thrown vZ_camp vZ_next vZ_far vZ_board vZ_level vZ_queue vZ_isEnd) s.heap) (hK : va_K D vwCl (ty_X7_moves cs) s) (hD : va_D A (cl_X7_moves ad cs vZ_players vZ_fill vZ_patience vZ_turn vZ_made vZ_out vZ_finishers vZ_thrown vZ_camp vZ_next vZ_far vZ_board vZ_level vZ_queue vZ_isEnd)) (hA : ∀ q : Nat, s.heap.size ≤ q → A q) (hl : lv_has ls 1 [(0, .ref (ad 28))])
  (hret : ∀ (r : Int32) (o0 : Int32) (o1 : Nat → Int32) (o2 : Nat → Int32) (o3 : Nat → Int32) (H : Heap) (locs : List Loc) (pc : Nat) (ls : Array Slot), Q r o0 o1 o2 o3 → va_P D vwCl (cl_X7_moves ad cs vZ_players vZ_fill vZ_patience vZ_turn vZ_made vZ_out vZ_finishers o0 vZ_camp vZ_next vZ_far vZ_board o1 o2 o3) H → va_D A (cl_X7_moves ad cs vZ_players vZ_fill vZ_patience vZ_turn vZ_made vZ_out vZ_finishers o0 vZ_camp vZ_next vZ_far vZ_board o1 o2 o3) → va_S A s.heap H locs → decode cX7_moves pc = .ok (.ireturn, 1) → W p l e rm_X7_moves s m args below meth c H locs 0 0 QQ (F0 m pc ls [.int r]))
  (hw : wp_X7_moves vZ_players vZ_fill vZ_patience vZ_turn vZ_made vZ_out vZ_finishers vZ_thrown vZ_camp vZ_next vZ_far vZ_board vZ_level vZ_queue vZ_isEnd Q) :
  W p l e rm_X7_moves s m args below meth c s.heap [] 0 0 QQ (F0 m 0 ls []) := by
  have S0 : CallFix p m c cX7_moves 1 s args wsX7_moves RX7 := ⟨hx, hb, hml, hown, hts⟩
  have inX7 : ∀ w ∈ u_ws RX7 TX7 27, w ∈ wsX7_moves := by decide +kernel
  have fl_86 := hts (.fieldLink RX7 86 "HopperCourtModel" "thrown" "I") (by decide +kernel)
  obtain ⟨H, hH⟩ : ∃ H : Heap, H = s.heap := ⟨_, rfl⟩
  have hS : va_S A s.heap H [] := by rw [hH]; exact va_S.rf
  rw [← hH] at hP ⊢
  unfold wp_X7_moves at hw
  refine lv_aload_n hx hb dX7_moves_0 rfl (lv_at hl 0 rfl) ?_
  refine lv_iconst (v := (0 : Int32)) hx hb dX7_moves_1 (by decide) ?_
  refine va_put (D := D) (ci := 7) (v := .int (0 : Int32)) (ty := .int) (C := RX7) (T := TX7) (N := 27) hx hb hts inX7 tyX7 tyX7_ok nmX7 hown hK hP hD hS 0 rfl rfl 26 (by decide) fl_86 (fun _ h9 => h9) rfl (by decide +kernel) rfl rfl (Nat.le_of_ble_eq_true rfl) dX7_moves_2 (fun H locs hP hD hS => ?_)
  have hP : va_P D vwCl (cl_X7_moves ad cs vZ_players vZ_fill vZ_patience vZ_turn vZ_made vZ_out vZ_finishers (0 : Int32) vZ_camp vZ_next vZ_far vZ_board vZ_level vZ_queue vZ_isEnd) H := hP
  have hD : va_D A (cl_X7_moves ad cs vZ_players vZ_fill vZ_patience vZ_turn vZ_made vZ_out vZ_finishers (0 : Int32) vZ_camp vZ_next vZ_far vZ_board vZ_level vZ_queue vZ_isEnd) := hD
  refine lv_aload_n hx hb dX7_moves_5 rfl (lv_at hl 0 rfl) ?_
  refine pcVi (rest := []) (wr := []) (ci := 7) S0 (c_X7_allMoves l D ad cs H.size vZ_players vZ_fill vZ_patience vZ_turn vZ_made vZ_out vZ_finishers (0 : Int32) vZ_camp vZ_next vZ_far vZ_board vZ_level vZ_queue vZ_isEnd _ hw) (cwV 0 hts gX7_moves_X7_allMoves rfl rfl rfl (by decide +kernel) ⟨Nat.le_of_ble_eq_true rfl, Nat.le_of_ble_eq_true rfl⟩) hN hK hP hD hS hA [0, 1, 2, 3, 4, 5, 6, 7] [] [0, 1, 2, 3, 4, 5, 6] ⟨rfl, rfl, rfl, rfl, rfl, by decide⟩ 0 rfl rfl rfl rfl hl.1 (Nat.le_of_ble_eq_true rfl) ⟨Nat.le_of_ble_eq_true rfl, Nat.le_of_ble_eq_true rfl⟩ dX7_moves_6 (fun r_1 u H locs hw hP hD hS => ?_)
  obtain ⟨vZ_level_2, vZ_queue_3, vZ_isEnd_4⟩ := u
  dsimp only at hw
  have hP : va_P D vwCl (cl_X7_moves ad cs vZ_players vZ_fill vZ_patience vZ_turn vZ_made vZ_out vZ_finishers (0 : Int32) vZ_camp vZ_next vZ_far vZ_board vZ_level_2 vZ_queue_3 vZ_isEnd_4) H := hP.sub [0, 1, 2, 3, 4, 5, 6, 7] rfl
  have hD : va_D A (cl_X7_moves ad cs vZ_players vZ_fill vZ_patience vZ_turn vZ_made vZ_out vZ_finishers (0 : Int32) vZ_camp vZ_next vZ_far vZ_board vZ_level_2 vZ_queue_3 vZ_isEnd_4) := hD.sub [0, 1, 2, 3, 4, 5, 6, 7] (by decide) rfl
  exact hret _ _ _ _ _ _ _ _ _ hw hP hD hS dX7_moves_9
set_option maxHeartbeats 4000000 in
set_option maxRecDepth 100000 in
theorem c_X7_moves (l : Launch) (D : va_G) (ad : Nat → Nat) (cs : Nat → ClassId) (sz : Nat) (vZ_players vZ_fill vZ_patience vZ_turn vZ_made vZ_out vZ_finishers vZ_thrown : Int32) (vZ_camp vZ_next vZ_far vZ_board vZ_level vZ_queue vZ_isEnd : Nat → Int32) (Q : Int32 → Int32 → (Nat → Int32) → (Nat → Int32) → (Nat → Int32) → Prop) (hw : wp_X7_moves vZ_players vZ_fill vZ_patience vZ_turn vZ_made vZ_out vZ_finishers vZ_thrown vZ_camp vZ_next vZ_far vZ_board vZ_level vZ_queue vZ_isEnd Q) :
  Met l yX7_moves wsX7_moves rm_X7_moves (va_Pc [.ref (ad 28)] (PX D (cl_X7_moves ad cs vZ_players vZ_fill vZ_patience vZ_turn vZ_made vZ_out vZ_finishers vZ_thrown vZ_camp vZ_next vZ_far vZ_board vZ_level vZ_queue vZ_isEnd) (ty_X7_moves cs) sz)) (va_Qi (fun (r : Int32) (u : Int32 × (Nat → Int32) × (Nat → Int32) × (Nat → Int32)) => Q r u.1 u.2.1 u.2.2.1 u.2.2.2) (fun (u : Int32 × (Nat → Int32) × (Nat → Int32) × (Nat → Int32)) t => va_P D vwCl (cl_X7_moves ad cs vZ_players vZ_fill vZ_patience vZ_turn vZ_made vZ_out vZ_finishers u.1 vZ_camp vZ_next vZ_far vZ_board u.2.1 u.2.2.1 u.2.2.2) t.heap ∧ va_D (va_A (cl_X7_moves ad cs vZ_players vZ_fill vZ_patience vZ_turn vZ_made vZ_out vZ_finishers vZ_thrown vZ_camp vZ_next vZ_far vZ_board vZ_level vZ_queue vZ_isEnd) sz) (cl_X7_moves ad cs vZ_players vZ_fill vZ_patience vZ_turn vZ_made vZ_out vZ_finishers u.1 vZ_camp vZ_next vZ_far vZ_board u.2.1 u.2.2.1 u.2.2.2)) (va_A (cl_X7_moves ad cs vZ_players vZ_fill vZ_patience vZ_turn vZ_made vZ_out vZ_finishers vZ_thrown vZ_camp vZ_next vZ_far vZ_board vZ_level vZ_queue vZ_isEnd) sz)) 0 0 (va_A (cl_X7_moves ad cs vZ_players vZ_fill vZ_patience vZ_turn vZ_made vZ_out vZ_finishers vZ_thrown vZ_camp vZ_next vZ_far vZ_board vZ_level vZ_queue vZ_isEnd) sz) := by
  refine Met.ofW (cc := cX7_moves) (maxL := 1) (ret := (some .int)) (by decide) rfl ?_
  intro p e s m args below meth c s₁ B hml hv
  obtain ⟨rfl, hsz, hP, hK, hD0, hN⟩ := hv
  subst hsz
  have hl := lv_entry ([.ref (ad 28)]) (n := 1) (Nat.le_of_ble_eq_true rfl)
  rw [lg_entry_eq]
  have hx := B.exec
  have hb := B.bytes
  have hr := B.returns
  exact b_X7_moves l D ad cs vZ_players vZ_fill vZ_patience vZ_turn vZ_made vZ_out vZ_finishers vZ_thrown vZ_camp vZ_next vZ_far vZ_board vZ_level vZ_queue vZ_isEnd Q hx hb hml (findClass_of_methodNamed B.named) (atoms_spec (ws := wsX7_moves) B.pre) hN hP hK hD0.self (fun q h => Or.inr h) hl (fun r o0 o1 o2 o3 H locs pc ls hq hP hD hS hd => W.iret (v := r) hx hb hr (fun t ht hW => ⟨⟨r, (o0, o1, o2, o3), rfl, hq, by rw [ht]; exact hP, hD⟩, hS.F ht⟩) hS.2.2 hd) hw
abbrev rm_X7_chainAt : Room := { frames := 4, cells := 0, slots := 0, locals := 98 }
abbrev cl_X7_chainAt (ad : Nat → Nat) (cs : Nat → ClassId) (vZ_players vZ_fill vZ_patience vZ_turn vZ_made vZ_out vZ_finishers vZ_thrown : Int32) (vZ_camp vZ_next vZ_far vZ_board vZ_level vZ_queue vZ_isEnd : Nat → Int32) : va_W := [((ad 28), .inr (7, [.ref (ad 29), .ref (ad 30), .ref (ad 31), .ref (ad 32), .ref (ad 33), .ref (ad 34), .int vZ_players, .int vZ_fill, .int vZ_patience, .ref (ad 35), .int vZ_turn, .int vZ_made, .int vZ_out, .ref (ad 36), .int vZ_finishers, .ref (ad 37), .ref (ad 38), .ref (ad 39), .ref (ad 40), .ref (ad 41), .ref (ad 42), .ref (ad 43), .ref (ad 44), .ref (ad 45), .ref (ad 46), .ref (ad 47), .int vZ_thrown])), ((ad 31), .inl ((cs 31), 121, .inl vZ_camp)), ((ad 32), .inl ((cs 32), 726, .inl vZ_next)), ((ad 33), .inl ((cs 33), 14641, .inl vZ_far)), ((ad 35), .inl ((cs 35), 121, .inl vZ_board)), ((ad 43), .inl ((cs 43), 121, .inl vZ_level)), ((ad 44), .inl ((cs 44), 121, .inl vZ_queue)), ((ad 45), .inl ((cs 45), 121, .inl vZ_isEnd))]
abbrev ty_X7_chainAt (cs : Nat → ClassId) : List (ClassId × FieldType) := [((cs 31), .int), ((cs 32), .int), ((cs 33), .int), ((cs 35), .int), ((cs 43), .int), ((cs 44), .int), ((cs 45), .boolean)]
def wb_X7_chainAt_78 (vZ_players vZ_fill vZ_patience vZ_turn vZ_made vZ_out vZ_finishers vZ_thrown : Int32) (vZ_next vZ_board vZ_level : Nat → Int32) (x1 x4 x5 x6 : Int32) (K78 : Int32 → Prop) (P78 : Int32 → Int32 → Prop) (x7 x8 : Int32) : Prop :=
 (((6 : Int32) ≤ x8 → K78 x7) ∧
 (¬ (6 : Int32) ≤ x8 → wp_X7_behind vZ_players vZ_fill vZ_patience vZ_turn vZ_made vZ_out vZ_finishers vZ_thrown vZ_next vZ_board x5 x8 x1 (fun r_2 =>
 ((r_2 = (-1 : Int32) → P78 x7 (x8 + (1 : Int32))) ∧
 (¬ r_2 = (-1 : Int32) → (vp_in r_2 121 ∧
 ((¬ (vZ_level r_2.toNatClampNeg) = ((x4 - (1 : Int32)) - x6) → P78 x7 (x8 + (1 : Int32))) ∧
 ((vZ_level r_2.toNatClampNeg) = ((x4 - (1 : Int32)) - x6) → ((x7 = (-1 : Int32) → P78 r_2 (x8 + (1 : Int32))) ∧
 (¬ x7 = (-1 : Int32) → ((x7 ≤ r_2 → P78 x7 (x8 + (1 : Int32))) ∧
 (¬ x7 ≤ r_2 → P78 r_2 (x8 + (1 : Int32))))))))))))))
def wl_X7_chainAt_78 (vZ_players vZ_fill vZ_patience vZ_turn vZ_made vZ_out vZ_finishers vZ_thrown : Int32) (vZ_next vZ_board vZ_level : Nat → Int32) (x1 x4 x5 x6 : Int32) (K78 : Int32 → Prop) (x7 x8 : Int32) : Prop := ∀ P78 : Int32 → Int32 → Prop, (∀ (x7 x8 : Int32), wb_X7_chainAt_78 vZ_players vZ_fill vZ_patience vZ_turn vZ_made vZ_out vZ_finishers vZ_thrown vZ_next vZ_board vZ_level x1 x4 x5 x6 K78 P78 x7 x8 → P78 x7 x8) → P78 x7 x8
def wb_X7_chainAt_66 (vZ_players vZ_fill vZ_patience vZ_turn vZ_made vZ_out vZ_finishers vZ_thrown : Int32) (vZ_next vZ_board vZ_level : Nat → Int32) (x1 x3 x4 : Int32) (K66 : Int32 → Prop) (P66 : Int32 → Int32 → Prop) (x5 x6 : Int32) : Prop :=
 ((x3 < x6 → K66 x5) ∧
 (¬ x3 < x6 → wl_X7_chainAt_78 vZ_players vZ_fill vZ_patience vZ_turn vZ_made vZ_out vZ_finishers vZ_thrown vZ_next vZ_board vZ_level x1 x4 x5 x6 (fun x7_9 => P66 x7_9 (x6 + (1 : Int32))) (-1 : Int32) (0 : Int32)))
def wl_X7_chainAt_66 (vZ_players vZ_fill vZ_patience vZ_turn vZ_made vZ_out vZ_finishers vZ_thrown : Int32) (vZ_next vZ_board vZ_level : Nat → Int32) (x1 x3 x4 : Int32) (K66 : Int32 → Prop) (x5 x6 : Int32) : Prop := ∀ P66 : Int32 → Int32 → Prop, (∀ (x5 x6 : Int32), wb_X7_chainAt_66 vZ_players vZ_fill vZ_patience vZ_turn vZ_made vZ_out vZ_finishers vZ_thrown vZ_next vZ_board vZ_level x1 x3 x4 K66 P66 x5 x6 → P66 x5 x6) → P66 x5 x6
def wJ_X7_chainAt_24 (vZ_players vZ_fill vZ_patience vZ_turn vZ_made vZ_out vZ_finishers vZ_thrown : Int32) (vZ_camp vZ_next vZ_far vZ_board vZ_level vZ_queue vZ_isEnd : Nat → Int32) (x1 x2 x3 t1 : Int32) (Q : Int32 → Int32 → (Nat → Int32) → (Nat → Int32) → (Nat → Int32) → Prop) : Prop :=
 wp_X7_can vZ_players vZ_fill vZ_patience vZ_turn vZ_made vZ_out vZ_finishers vZ_thrown t1 (fun r_10 vZ_thrown_11 =>
 ((¬ r_10 = 0 → wp_X7_hopsOf vZ_players vZ_fill vZ_patience vZ_turn vZ_made vZ_out vZ_finishers vZ_thrown_11 vZ_camp vZ_next vZ_far vZ_board vZ_level vZ_queue vZ_isEnd x1 x2 (fun r_13 vZ_level_14 vZ_queue_15 vZ_isEnd_16 =>
 ((r_13 = (-1 : Int32) → Q (-1 : Int32) vZ_thrown_11 vZ_level_14 vZ_queue_15 vZ_isEnd_16) ∧
 (¬ r_13 = (-1 : Int32) → ((x3 < r_13 → wp_X7_hopsFrom vZ_players vZ_fill vZ_patience vZ_turn vZ_made vZ_out vZ_finishers vZ_thrown_11 vZ_next vZ_board vZ_level_14 vZ_queue_15 x2 x1 (fun vZ_level_19 vZ_queue_20 =>
 wl_X7_chainAt_66 vZ_players vZ_fill vZ_patience vZ_turn vZ_made vZ_out vZ_finishers vZ_thrown_11 vZ_next vZ_board vZ_level_19 x1 x3 r_13 (fun x5_21 => Q x5_21 vZ_thrown_11 vZ_level_19 vZ_queue_20 vZ_isEnd_16) x1 (0 : Int32))) ∧
 (¬ x3 < r_13 → Q (-1 : Int32) vZ_thrown_11 vZ_level_14 vZ_queue_15 vZ_isEnd_16)))))) ∧
 (r_10 = 0 → Q (0 : Int32) vZ_thrown_11 vZ_level vZ_queue vZ_isEnd)))
def wp_X7_chainAt (vZ_players vZ_fill vZ_patience vZ_turn vZ_made vZ_out vZ_finishers vZ_thrown : Int32) (vZ_camp vZ_next vZ_far vZ_board vZ_level vZ_queue vZ_isEnd : Nat → Int32) (x1 x2 x3 : Int32) (Q : Int32 → Int32 → (Nat → Int32) → (Nat → Int32) → (Nat → Int32) → Prop) : Prop :=
 wp_X7_isCell x1 (fun r_22 =>
 ((r_22 = 0 → wJ_X7_chainAt_24 vZ_players vZ_fill vZ_patience vZ_turn vZ_made vZ_out vZ_finishers vZ_thrown vZ_camp vZ_next vZ_far vZ_board vZ_level vZ_queue vZ_isEnd x1 x2 x3 (1 : Int32) Q) ∧
 (¬ r_22 = 0 → wp_X7_isCell x2 (fun r_24 =>
 ((r_24 = 0 → wJ_X7_chainAt_24 vZ_players vZ_fill vZ_patience vZ_turn vZ_made vZ_out vZ_finishers vZ_thrown vZ_camp vZ_next vZ_far vZ_board vZ_level vZ_queue vZ_isEnd x1 x2 x3 (1 : Int32) Q) ∧
 (¬ r_24 = 0 → ((0 ≤ x3 → wJ_X7_chainAt_24 vZ_players vZ_fill vZ_patience vZ_turn vZ_made vZ_out vZ_finishers vZ_thrown vZ_camp vZ_next vZ_far vZ_board vZ_level vZ_queue vZ_isEnd x1 x2 x3 (0 : Int32) Q) ∧
 (¬ 0 ≤ x3 → wJ_X7_chainAt_24 vZ_players vZ_fill vZ_patience vZ_turn vZ_made vZ_out vZ_finishers vZ_thrown vZ_camp vZ_next vZ_far vZ_board vZ_level vZ_queue vZ_isEnd x1 x2 x3 (1 : Int32) Q))))))))
set_option maxHeartbeats 4000000 in
set_option maxRecDepth 100000 in
theorem b_X7_chainAt {p : Program} {e : Env} {s : State} {m : MethodId} {args : Array Value} {below : List Frame} {meth : Method} {c : Code} {QQ : State → Prop} {A : Nat → Prop} {ls : Array Slot} (l : Launch) (D : va_G) (ad : Nat → Nat) (cs : Nat → ClassId) (vZ_players vZ_fill vZ_patience vZ_turn vZ_made vZ_out vZ_finishers vZ_thrown : Int32) (vZ_camp vZ_next vZ_far vZ_board vZ_level vZ_queue vZ_isEnd : Nat → Int32) (x1 x2 x3 : Int32) (Q : Int32 → Int32 → (Nat → Int32) → (Nat → Int32) → (Nat → Int32) → Prop) (hx : p.tables.exec = Jvm.exec) (hb : c.code = cX7_chainAt) (hml : c.maxLocals = 10) (hown : s.vm.findClass RX7 = some m.cls) (hts : ∀ w ∈ wsX7_chainAt, w.before args s = true) (hN : NW s) (hP : va_P D vwCl (cl_X7_chainAt ad cs vZ_players vZ_fill vZ_patience vZ_turn vZ_made vZ_out vZ_finishers vZ_thrown vZ_camp vZ_next vZ_far vZ_board vZ_level vZ_queue vZ_isEnd) s.heap) (hK : va_K D vwCl (ty_X7_chainAt cs) s) (hD : va_D A (cl_X7_chainAt ad cs vZ_players vZ_fill vZ_patience vZ_turn vZ_made vZ_out vZ_finishers vZ_thrown vZ_camp vZ_next vZ_far vZ_board vZ_level vZ_queue vZ_isEnd)) (hA : ∀ q : Nat, s.heap.size ≤ q → A q) (hl : lv_has ls 10 [(0, .ref (ad 28)), (1, .int x1), (2, .int x2), (3, .int x3)])
  (hret : ∀ (r : Int32) (o0 : Int32) (o1 : Nat → Int32) (o2 : Nat → Int32) (o3 : Nat → Int32) (H : Heap) (locs : List Loc) (pc : Nat) (ls : Array Slot), Q r o0 o1 o2 o3 → va_P D vwCl (cl_X7_chainAt ad cs vZ_players vZ_fill vZ_patience vZ_turn vZ_made vZ_out vZ_finishers o0 vZ_camp vZ_next vZ_far vZ_board o1 o2 o3) H → va_D A (cl_X7_chainAt ad cs vZ_players vZ_fill vZ_patience vZ_turn vZ_made vZ_out vZ_finishers o0 vZ_camp vZ_next vZ_far vZ_board o1 o2 o3) → va_S A s.heap H locs → decode cX7_chainAt pc = .ok (.ireturn, 1) → W p l e rm_X7_chainAt s m args below meth c H locs 0 0 QQ (F0 m pc ls [.int r]))
  (hw : wp_X7_chainAt vZ_players vZ_fill vZ_patience vZ_turn vZ_made vZ_out vZ_finishers vZ_thrown vZ_camp vZ_next vZ_far vZ_board vZ_level vZ_queue vZ_isEnd x1 x2 x3 Q) :
  W p l e rm_X7_chainAt s m args below meth c s.heap [] 0 0 QQ (F0 m 0 ls []) := by
  have S0 : CallFix p m c cX7_chainAt 10 s args wsX7_chainAt RX7 := ⟨hx, hb, hml, hown, hts⟩
  have inX7 : ∀ w ∈ u_ws RX7 TX7 27, w ∈ wsX7_chainAt := by decide +kernel
  have fl_56 := hts (.fieldLink RX7 56 "HopperCourtModel" "level" "[I") (by decide +kernel)
  have hL78 : ∀ (vZ_thrown : Int32) (vZ_level : Nat → Int32) (x1 x4 x5 x6 : Int32) (K78 : Int32 → Prop) (x7 x8 : Int32) (vZ_queue vZ_isEnd : Nat → Int32) (x3 : Int32), wl_X7_chainAt_78 vZ_players vZ_fill vZ_patience vZ_turn vZ_made vZ_out vZ_finishers vZ_thrown vZ_next vZ_board vZ_level x1 x4 x5 x6 K78 x7 x8 → (∀ (x7 : Int32), K78 x7 → ∀ (H : Heap) (locs : List Loc) (ls : Array Slot), va_P D vwCl (cl_X7_chainAt ad cs vZ_players vZ_fill vZ_patience vZ_turn vZ_made vZ_out vZ_finishers vZ_thrown vZ_camp vZ_next vZ_far vZ_board vZ_level vZ_queue vZ_isEnd) H → va_D A (cl_X7_chainAt ad cs vZ_players vZ_fill vZ_patience vZ_turn vZ_made vZ_out vZ_finishers vZ_thrown vZ_camp vZ_next vZ_far vZ_board vZ_level vZ_queue vZ_isEnd) → va_S A s.heap H locs → lv_has ls 10 [(0, .ref (ad 28)), (1, .int x1), (3, .int x3), (4, .int x4), (6, .int x6), (7, .int x7)] → W p l e rm_X7_chainAt s m args below meth c H locs 0 0 QQ (F0 m 147 ls [])) → ∀ (H : Heap) (locs : List Loc) (ls : Array Slot), va_P D vwCl (cl_X7_chainAt ad cs vZ_players vZ_fill vZ_patience vZ_turn vZ_made vZ_out vZ_finishers vZ_thrown vZ_camp vZ_next vZ_far vZ_board vZ_level vZ_queue vZ_isEnd) H → va_D A (cl_X7_chainAt ad cs vZ_players vZ_fill vZ_patience vZ_turn vZ_made vZ_out vZ_finishers vZ_thrown vZ_camp vZ_next vZ_far vZ_board vZ_level vZ_queue vZ_isEnd) → va_S A s.heap H locs → lv_has ls 10 [(0, .ref (ad 28)), (1, .int x1), (3, .int x3), (4, .int x4), (5, .int x5), (6, .int x6), (7, .int x7), (8, .int x8)] → W p l e rm_X7_chainAt s m args below meth c H locs 0 0 QQ (F0 m 78 ls []) := by
    intro vZ_thrown vZ_level x1 x4 x5 x6 K78 x7 x8 vZ_queue vZ_isEnd x3 hw hK78
    unfold wl_X7_chainAt_78 at hw
    refine hw (fun (x7 x8 : Int32) => ∀ (H : Heap) (locs : List Loc) (ls : Array Slot), va_P D vwCl (cl_X7_chainAt ad cs vZ_players vZ_fill vZ_patience vZ_turn vZ_made vZ_out vZ_finishers vZ_thrown vZ_camp vZ_next vZ_far vZ_board vZ_level vZ_queue vZ_isEnd) H → va_D A (cl_X7_chainAt ad cs vZ_players vZ_fill vZ_patience vZ_turn vZ_made vZ_out vZ_finishers vZ_thrown vZ_camp vZ_next vZ_far vZ_board vZ_level vZ_queue vZ_isEnd) → va_S A s.heap H locs → lv_has ls 10 [(0, .ref (ad 28)), (1, .int x1), (3, .int x3), (4, .int x4), (5, .int x5), (6, .int x6), (7, .int x7), (8, .int x8)] → W p l e rm_X7_chainAt s m args below meth c H locs 0 0 QQ (F0 m 78 ls [])) ?_
    intro x7 x8 hw H locs ls hP hD hS hl
    unfold wb_X7_chainAt_78 at hw
    refine lv_iload hx hb dX7_chainAt_78 (lv_at hl 7 rfl) ?_
    refine lv_bipush (v := (6 : Int32)) hx hb dX7_chainAt_80 (by decide) ?_
    refine lv_icmp_ge (tgt := 147) hx hb dX7_chainAt_82 (by decide) (fun c_1 => ?_) (fun c_1 => ?_)
    · have hw := hw.1 c_1
      exact hK78 x7 hw _ _ _ hP hD hS (lv_sub hl [0, 1, 2, 3, 5, 6] rfl)
    · have hw := hw.2 c_1
      refine lv_aload_n hx hb dX7_chainAt_85 rfl (lv_at hl 0 rfl) ?_
      refine lv_iload hx hb dX7_chainAt_86 (lv_at hl 4 rfl) ?_
      refine lv_iload hx hb dX7_chainAt_88 (lv_at hl 7 rfl) ?_
      refine lv_iload_n hx hb dX7_chainAt_90 rfl (lv_at hl 1 rfl) ?_
      refine pcV (rest := []) (ci := 7) S0 (c_X7_behind l D ad cs H.size vZ_players vZ_fill vZ_patience vZ_turn vZ_made vZ_out vZ_finishers vZ_thrown vZ_next vZ_board x5 x8 x1 _ hw) (cwV 3 hts gX7_chainAt_X7_behind rfl rfl rfl (by decide +kernel) ⟨Nat.le_of_ble_eq_true rfl, Nat.le_of_ble_eq_true rfl⟩) hN hK hP hD [0, 2, 4] [1, 3] rfl rfl rfl 0 rfl rfl rfl rfl hl.1 (Nat.le_of_ble_eq_true rfl) ⟨Nat.le_of_ble_eq_true rfl, Nat.le_of_ble_eq_true rfl⟩ dX7_chainAt_91 (fun r_2 hw => ?_)
      refine lv_istore (lv' := [(9, .int r_2), (0, .ref (ad 28)), (1, .int x1), (3, .int x3), (4, .int x4), (5, .int x5), (6, .int x6), (7, .int x7), (8, .int x8)]) hx hb dX7_chainAt_94 hl (by decide) rfl (fun ls hl => ?_)
      refine lv_iload hx hb dX7_chainAt_96 (lv_at hl 0 rfl) ?_
      refine lv_iconst (v := (-1 : Int32)) hx hb dX7_chainAt_98 (by decide) ?_
      refine lv_icmp_eq (tgt := 137) hx hb dX7_chainAt_99 (by decide) (fun c_3 => ?_) (fun c_3 => ?_)
      · have hw := hw.1 c_3
        refine lv_iload hx hb dX7_chainAt_137 (lv_at hl 7 rfl) ?_
        refine lv_istore (lv' := [(7, .int x7), (9, .int r_2), (0, .ref (ad 28)), (1, .int x1), (3, .int x3), (4, .int x4), (5, .int x5), (6, .int x6), (8, .int x8)]) hx hb dX7_chainAt_139 hl (by decide) rfl (fun ls hl => ?_)
        refine lv_iinc (v := (x8 + (1 : Int32))) (lv' := [(8, .int (x8 + (1 : Int32))), (7, .int x7), (9, .int r_2), (0, .ref (ad 28)), (1, .int x1), (3, .int x3), (4, .int x4), (5, .int x5), (6, .int x6)]) hx hb dX7_chainAt_141 hl (k := 8) rfl rfl (by decide) rfl (fun ls hl => ?_)
        refine lv_goto (tgt := 78) hx hb dX7_chainAt_144 (by decide) ?_
        exact hw _ _ _ hP hD hS (lv_sub hl [3, 4, 5, 6, 7, 8, 1, 0] rfl)
      · have hw := hw.2 c_3
        refine lv_aload_n hx hb dX7_chainAt_102 rfl (lv_at hl 1 rfl) ?_
        refine va_get (D := D) (ci := 7) (v := .ref (ad 43)) (C := RX7) (T := TX7) (N := 27) hx hb hts inX7 hown hK hP 0 rfl rfl 21 (by decide) fl_56 (fun _ h9 => h9) rfl dX7_chainAt_103 ?_
        refine lv_iload hx hb dX7_chainAt_106 (lv_at hl 0 rfl) ?_
        obtain ⟨h_4, hw⟩ := hw
        refine va_iald hx hb hK hP 5 4 rfl rfl h_4 dX7_chainAt_108 ?_
        refine lv_iload hx hb dX7_chainAt_109 (lv_at hl 4 rfl) ?_
        refine lv_iconst (v := (1 : Int32)) hx hb dX7_chainAt_111 (by decide) ?_
        refine lv_isub hx hb dX7_chainAt_112 ?_
        refine lv_iload hx hb dX7_chainAt_113 (lv_at hl 6 rfl) ?_
        refine lv_isub hx hb dX7_chainAt_115 ?_
        refine lv_icmp_ne (tgt := 137) hx hb dX7_chainAt_116 (by decide) (fun c_5 => ?_) (fun c_5 => ?_)
        · have hw := hw.1 c_5
          refine lv_iload hx hb dX7_chainAt_137 (lv_at hl 7 rfl) ?_
          refine lv_istore (lv' := [(7, .int x7), (9, .int r_2), (0, .ref (ad 28)), (1, .int x1), (3, .int x3), (4, .int x4), (5, .int x5), (6, .int x6), (8, .int x8)]) hx hb dX7_chainAt_139 hl (by decide) rfl (fun ls hl => ?_)
          refine lv_iinc (v := (x8 + (1 : Int32))) (lv' := [(8, .int (x8 + (1 : Int32))), (7, .int x7), (9, .int r_2), (0, .ref (ad 28)), (1, .int x1), (3, .int x3), (4, .int x4), (5, .int x5), (6, .int x6)]) hx hb dX7_chainAt_141 hl (k := 8) rfl rfl (by decide) rfl (fun ls hl => ?_)
          refine lv_goto (tgt := 78) hx hb dX7_chainAt_144 (by decide) ?_
          exact hw _ _ _ hP hD hS (lv_sub hl [3, 4, 5, 6, 7, 8, 1, 0] rfl)
        · have hw := hw.2 c_5
          refine lv_iload hx hb dX7_chainAt_119 (lv_at hl 7 rfl) ?_
          refine lv_iconst (v := (-1 : Int32)) hx hb dX7_chainAt_121 (by decide) ?_
          refine lv_icmp_eq (tgt := 132) hx hb dX7_chainAt_122 (by decide) (fun c_6 => ?_) (fun c_6 => ?_)
          · have hw := hw.1 c_6
            refine lv_iload hx hb dX7_chainAt_132 (lv_at hl 0 rfl) ?_
            refine lv_goto (tgt := 139) hx hb dX7_chainAt_134 (by decide) ?_
            refine lv_istore (lv' := [(7, .int r_2), (9, .int r_2), (0, .ref (ad 28)), (1, .int x1), (3, .int x3), (4, .int x4), (5, .int x5), (6, .int x6), (8, .int x8)]) hx hb dX7_chainAt_139 hl (by decide) rfl (fun ls hl => ?_)
            refine lv_iinc (v := (x8 + (1 : Int32))) (lv' := [(8, .int (x8 + (1 : Int32))), (7, .int r_2), (9, .int r_2), (0, .ref (ad 28)), (1, .int x1), (3, .int x3), (4, .int x4), (5, .int x5), (6, .int x6)]) hx hb dX7_chainAt_141 hl (k := 8) rfl rfl (by decide) rfl (fun ls hl => ?_)
            refine lv_goto (tgt := 78) hx hb dX7_chainAt_144 (by decide) ?_
            exact hw _ _ _ hP hD hS (lv_sub hl [3, 4, 5, 6, 7, 8, 1, 0] rfl)
          · have hw := hw.2 c_6
            refine lv_iload hx hb dX7_chainAt_125 (lv_at hl 0 rfl) ?_
            refine lv_iload hx hb dX7_chainAt_127 (lv_at hl 7 rfl) ?_
            refine lv_icmp_ge (tgt := 137) hx hb dX7_chainAt_129 (by decide) (fun c_7 => ?_) (fun c_7 => ?_)
            · have hw := hw.1 c_7
              refine lv_iload hx hb dX7_chainAt_137 (lv_at hl 7 rfl) ?_
              refine lv_istore (lv' := [(7, .int x7), (9, .int r_2), (0, .ref (ad 28)), (1, .int x1), (3, .int x3), (4, .int x4), (5, .int x5), (6, .int x6), (8, .int x8)]) hx hb dX7_chainAt_139 hl (by decide) rfl (fun ls hl => ?_)
              refine lv_iinc (v := (x8 + (1 : Int32))) (lv' := [(8, .int (x8 + (1 : Int32))), (7, .int x7), (9, .int r_2), (0, .ref (ad 28)), (1, .int x1), (3, .int x3), (4, .int x4), (5, .int x5), (6, .int x6)]) hx hb dX7_chainAt_141 hl (k := 8) rfl rfl (by decide) rfl (fun ls hl => ?_)
              refine lv_goto (tgt := 78) hx hb dX7_chainAt_144 (by decide) ?_
              exact hw _ _ _ hP hD hS (lv_sub hl [3, 4, 5, 6, 7, 8, 1, 0] rfl)
            · have hw := hw.2 c_7
              refine lv_iload hx hb dX7_chainAt_132 (lv_at hl 0 rfl) ?_
              refine lv_goto (tgt := 139) hx hb dX7_chainAt_134 (by decide) ?_
              refine lv_istore (lv' := [(7, .int r_2), (9, .int r_2), (0, .ref (ad 28)), (1, .int x1), (3, .int x3), (4, .int x4), (5, .int x5), (6, .int x6), (8, .int x8)]) hx hb dX7_chainAt_139 hl (by decide) rfl (fun ls hl => ?_)
              refine lv_iinc (v := (x8 + (1 : Int32))) (lv' := [(8, .int (x8 + (1 : Int32))), (7, .int r_2), (9, .int r_2), (0, .ref (ad 28)), (1, .int x1), (3, .int x3), (4, .int x4), (5, .int x5), (6, .int x6)]) hx hb dX7_chainAt_141 hl (k := 8) rfl rfl (by decide) rfl (fun ls hl => ?_)
              refine lv_goto (tgt := 78) hx hb dX7_chainAt_144 (by decide) ?_
              exact hw _ _ _ hP hD hS (lv_sub hl [3, 4, 5, 6, 7, 8, 1, 0] rfl)
  have hL66 : ∀ (vZ_thrown : Int32) (vZ_level : Nat → Int32) (x1 x3 x4 : Int32) (K66 : Int32 → Prop) (x5 x6 : Int32) (vZ_queue vZ_isEnd : Nat → Int32), wl_X7_chainAt_66 vZ_players vZ_fill vZ_patience vZ_turn vZ_made vZ_out vZ_finishers vZ_thrown vZ_next vZ_board vZ_level x1 x3 x4 K66 x5 x6 → (∀ (x5 : Int32), K66 x5 → ∀ (H : Heap) (locs : List Loc) (ls : Array Slot), va_P D vwCl (cl_X7_chainAt ad cs vZ_players vZ_fill vZ_patience vZ_turn vZ_made vZ_out vZ_finishers vZ_thrown vZ_camp vZ_next vZ_far vZ_board vZ_level vZ_queue vZ_isEnd) H → va_D A (cl_X7_chainAt ad cs vZ_players vZ_fill vZ_patience vZ_turn vZ_made vZ_out vZ_finishers vZ_thrown vZ_camp vZ_next vZ_far vZ_board vZ_level vZ_queue vZ_isEnd) → va_S A s.heap H locs → lv_has ls 10 [(5, .int x5)] → W p l e rm_X7_chainAt s m args below meth c H locs 0 0 QQ (F0 m 157 ls [])) → ∀ (H : Heap) (locs : List Loc) (ls : Array Slot), va_P D vwCl (cl_X7_chainAt ad cs vZ_players vZ_fill vZ_patience vZ_turn vZ_made vZ_out vZ_finishers vZ_thrown vZ_camp vZ_next vZ_far vZ_board vZ_level vZ_queue vZ_isEnd) H → va_D A (cl_X7_chainAt ad cs vZ_players vZ_fill vZ_patience vZ_turn vZ_made vZ_out vZ_finishers vZ_thrown vZ_camp vZ_next vZ_far vZ_board vZ_level vZ_queue vZ_isEnd) → va_S A s.heap H locs → lv_has ls 10 [(0, .ref (ad 28)), (1, .int x1), (3, .int x3), (4, .int x4), (5, .int x5), (6, .int x6)] → W p l e rm_X7_chainAt s m args below meth c H locs 0 0 QQ (F0 m 66 ls []) := by
    intro vZ_thrown vZ_level x1 x3 x4 K66 x5 x6 vZ_queue vZ_isEnd hw hK66
    unfold wl_X7_chainAt_66 at hw
    refine hw (fun (x5 x6 : Int32) => ∀ (H : Heap) (locs : List Loc) (ls : Array Slot), va_P D vwCl (cl_X7_chainAt ad cs vZ_players vZ_fill vZ_patience vZ_turn vZ_made vZ_out vZ_finishers vZ_thrown vZ_camp vZ_next vZ_far vZ_board vZ_level vZ_queue vZ_isEnd) H → va_D A (cl_X7_chainAt ad cs vZ_players vZ_fill vZ_patience vZ_turn vZ_made vZ_out vZ_finishers vZ_thrown vZ_camp vZ_next vZ_far vZ_board vZ_level vZ_queue vZ_isEnd) → va_S A s.heap H locs → lv_has ls 10 [(0, .ref (ad 28)), (1, .int x1), (3, .int x3), (4, .int x4), (5, .int x5), (6, .int x6)] → W p l e rm_X7_chainAt s m args below meth c H locs 0 0 QQ (F0 m 66 ls [])) ?_
    intro x5 x6 hw H locs ls hP hD hS hl
    unfold wb_X7_chainAt_66 at hw
    refine lv_iload hx hb dX7_chainAt_66 (lv_at hl 5 rfl) ?_
    refine lv_iload_n hx hb dX7_chainAt_68 rfl (lv_at hl 2 rfl) ?_
    refine lv_icmp_gt (tgt := 157) hx hb dX7_chainAt_69 (by decide) (fun c_8 => ?_) (fun c_8 => ?_)
    · have hw := hw.1 c_8
      exact hK66 x5 hw _ _ _ hP hD hS (lv_sub hl [4] rfl)
    · have hw := hw.2 c_8
      refine lv_iconst (v := (-1 : Int32)) hx hb dX7_chainAt_72 (by decide) ?_
      refine lv_istore (lv' := [(7, .int (-1 : Int32)), (0, .ref (ad 28)), (1, .int x1), (3, .int x3), (4, .int x4), (5, .int x5), (6, .int x6)]) hx hb dX7_chainAt_73 hl (by decide) rfl (fun ls hl => ?_)
      refine lv_iconst (v := (0 : Int32)) hx hb dX7_chainAt_75 (by decide) ?_
      refine lv_istore (lv' := [(8, .int (0 : Int32)), (7, .int (-1 : Int32)), (0, .ref (ad 28)), (1, .int x1), (3, .int x3), (4, .int x4), (5, .int x5), (6, .int x6)]) hx hb dX7_chainAt_76 hl (by decide) rfl (fun ls hl => ?_)
      refine hL78 vZ_thrown vZ_level x1 x4 x5 x6 _ (-1 : Int32) (0 : Int32) _ _ _ hw ?_ _ _ _ hP hD hS (lv_sub hl [2, 3, 4, 5, 6, 7, 1, 0] rfl)
      intro x7_9 hw H locs ls hP hD hS hl
      refine lv_iload hx hb dX7_chainAt_147 (lv_at hl 5 rfl) ?_
      refine lv_istore (lv' := [(5, .int x7_9), (0, .ref (ad 28)), (1, .int x1), (3, .int x3), (4, .int x4), (6, .int x6), (7, .int x7_9)]) hx hb dX7_chainAt_149 hl (by decide) rfl (fun ls hl => ?_)
      refine lv_iinc (v := (x6 + (1 : Int32))) (lv' := [(6, .int (x6 + (1 : Int32))), (5, .int x7_9), (0, .ref (ad 28)), (1, .int x1), (3, .int x3), (4, .int x4), (7, .int x7_9)]) hx hb dX7_chainAt_151 hl (k := 5) rfl rfl (by decide) rfl (fun ls hl => ?_)
      refine lv_goto (tgt := 66) hx hb dX7_chainAt_154 (by decide) ?_
      exact hw _ _ _ hP hD hS (lv_sub hl [2, 3, 4, 5, 1, 0] rfl)
  have hJ24 : ∀ (vZ_thrown : Int32) (vZ_level vZ_queue vZ_isEnd : Nat → Int32) (x1 x2 x3 t1 : Int32), wJ_X7_chainAt_24 vZ_players vZ_fill vZ_patience vZ_turn vZ_made vZ_out vZ_finishers vZ_thrown vZ_camp vZ_next vZ_far vZ_board vZ_level vZ_queue vZ_isEnd x1 x2 x3 t1 Q → ∀ (H : Heap) (locs : List Loc) (ls : Array Slot), va_P D vwCl (cl_X7_chainAt ad cs vZ_players vZ_fill vZ_patience vZ_turn vZ_made vZ_out vZ_finishers vZ_thrown vZ_camp vZ_next vZ_far vZ_board vZ_level vZ_queue vZ_isEnd) H → va_D A (cl_X7_chainAt ad cs vZ_players vZ_fill vZ_patience vZ_turn vZ_made vZ_out vZ_finishers vZ_thrown vZ_camp vZ_next vZ_far vZ_board vZ_level vZ_queue vZ_isEnd) → va_S A s.heap H locs → lv_has ls 10 [(0, .ref (ad 28)), (1, .int x1), (2, .int x2), (3, .int x3)] → W p l e rm_X7_chainAt s m args below meth c H locs 0 0 QQ (F0 m 24 ls [.int t1, .ref (ad 28)]) := by
    intro vZ_thrown vZ_level vZ_queue vZ_isEnd x1 x2 x3 t1 hw  H locs ls hP hD hS hl
    unfold wJ_X7_chainAt_24 at hw
    refine pcVi (rest := []) (wr := [((ad 31), .inl ((cs 31), 121, .inl vZ_camp)), ((ad 32), .inl ((cs 32), 726, .inl vZ_next)), ((ad 33), .inl ((cs 33), 14641, .inl vZ_far)), ((ad 35), .inl ((cs 35), 121, .inl vZ_board)), ((ad 43), .inl ((cs 43), 121, .inl vZ_level)), ((ad 44), .inl ((cs 44), 121, .inl vZ_queue)), ((ad 45), .inl ((cs 45), 121, .inl vZ_isEnd))]) (ci := 7) S0 (c_X7_can l D ad cs H.size vZ_players vZ_fill vZ_patience vZ_turn vZ_made vZ_out vZ_finishers vZ_thrown t1 _ hw) (cwV 1 hts gX7_chainAt_X7_can rfl rfl rfl (by decide +kernel) ⟨Nat.le_of_ble_eq_true rfl, Nat.le_of_ble_eq_true rfl⟩) hN hK hP hD hS hA [0] [1, 2, 3, 4, 5, 6, 7] [] ⟨rfl, rfl, rfl, rfl, rfl, by decide⟩ 0 rfl rfl rfl rfl hl.1 (Nat.le_of_ble_eq_true rfl) ⟨Nat.le_of_ble_eq_true rfl, Nat.le_of_ble_eq_true rfl⟩ dX7_chainAt_24 (fun r_10 u H locs hw hP hD hS => ?_)
    obtain ⟨vZ_thrown_11, rfl⟩ : ∃ z, z = u := ⟨_, rfl⟩
    have hP : va_P D vwCl (cl_X7_chainAt ad cs vZ_players vZ_fill vZ_patience vZ_turn vZ_made vZ_out vZ_finishers vZ_thrown_11 vZ_camp vZ_next vZ_far vZ_board vZ_level vZ_queue vZ_isEnd) H := hP.sub [7, 0, 1, 2, 3, 4, 5, 6] rfl
    have hD : va_D A (cl_X7_chainAt ad cs vZ_players vZ_fill vZ_patience vZ_turn vZ_made vZ_out vZ_finishers vZ_thrown_11 vZ_camp vZ_next vZ_far vZ_board vZ_level vZ_queue vZ_isEnd) := hD.sub [7, 0, 1, 2, 3, 4, 5, 6] (by decide) rfl
    refine lv_if_ne (tgt := 32) hx hb dX7_chainAt_27 (by decide) (fun c_12 => ?_) (fun c_12 => ?_)
    · have hw := hw.1 c_12
      refine lv_aload_n hx hb dX7_chainAt_32 rfl (lv_at hl 0 rfl) ?_
      refine lv_iload_n hx hb dX7_chainAt_33 rfl (lv_at hl 1 rfl) ?_
      refine lv_iload_n hx hb dX7_chainAt_34 rfl (lv_at hl 2 rfl) ?_
      refine pcVi (rest := []) (wr := []) (ci := 7) S0 (c_X7_hopsOf l D ad cs H.size vZ_players vZ_fill vZ_patience vZ_turn vZ_made vZ_out vZ_finishers vZ_thrown_11 vZ_camp vZ_next vZ_far vZ_board vZ_level vZ_queue vZ_isEnd x1 x2 _ hw) (cwV 2 hts gX7_chainAt_X7_hopsOf rfl rfl rfl (by decide +kernel) ⟨Nat.le_of_ble_eq_true rfl, Nat.le_of_ble_eq_true rfl⟩) hN hK hP hD hS hA [0, 1, 2, 3, 4, 5, 6, 7] [] [0, 1, 2, 3, 4, 5, 6] ⟨rfl, rfl, rfl, rfl, rfl, by decide⟩ 0 rfl rfl rfl rfl hl.1 (Nat.le_of_ble_eq_true rfl) ⟨Nat.le_of_ble_eq_true rfl, Nat.le_of_ble_eq_true rfl⟩ dX7_chainAt_35 (fun r_13 u H locs hw hP hD hS => ?_)
      obtain ⟨vZ_level_14, vZ_queue_15, vZ_isEnd_16⟩ := u
      dsimp only at hw
      have hP : va_P D vwCl (cl_X7_chainAt ad cs vZ_players vZ_fill vZ_patience vZ_turn vZ_made vZ_out vZ_finishers vZ_thrown_11 vZ_camp vZ_next vZ_far vZ_board vZ_level_14 vZ_queue_15 vZ_isEnd_16) H := hP.sub [0, 1, 2, 3, 4, 5, 6, 7] rfl
      have hD : va_D A (cl_X7_chainAt ad cs vZ_players vZ_fill vZ_patience vZ_turn vZ_made vZ_out vZ_finishers vZ_thrown_11 vZ_camp vZ_next vZ_far vZ_board vZ_level_14 vZ_queue_15 vZ_isEnd_16) := hD.sub [0, 1, 2, 3, 4, 5, 6, 7] (by decide) rfl
      refine lv_istore (lv' := [(4, .int r_13), (0, .ref (ad 28)), (1, .int x1), (2, .int x2), (3, .int x3)]) hx hb dX7_chainAt_38 hl (by decide) rfl (fun ls hl => ?_)
      refine lv_iload hx hb dX7_chainAt_40 (lv_at hl 0 rfl) ?_
      refine lv_iconst (v := (-1 : Int32)) hx hb dX7_chainAt_42 (by decide) ?_
      refine lv_icmp_eq (tgt := 52) hx hb dX7_chainAt_43 (by decide) (fun c_17 => ?_) (fun c_17 => ?_)
      · have hw := hw.1 c_17
        refine lv_iconst (v := (-1 : Int32)) hx hb dX7_chainAt_52 (by decide) ?_
        exact hret _ _ _ _ _ _ _ _ _ hw hP hD hS dX7_chainAt_53
      · have hw := hw.2 c_17
        refine lv_iload_n hx hb dX7_chainAt_46 rfl (lv_at hl 4 rfl) ?_
        refine lv_iload hx hb dX7_chainAt_47 (lv_at hl 0 rfl) ?_
        refine lv_icmp_lt (tgt := 54) hx hb dX7_chainAt_49 (by decide) (fun c_18 => ?_) (fun c_18 => ?_)
        · have hw := hw.1 c_18
          refine lv_aload_n hx hb dX7_chainAt_54 rfl (lv_at hl 1 rfl) ?_
          refine lv_iload_n hx hb dX7_chainAt_55 rfl (lv_at hl 3 rfl) ?_
          refine lv_iload_n hx hb dX7_chainAt_56 rfl (lv_at hl 2 rfl) ?_
          refine pcVv (rest := []) (wr := [((ad 31), .inl ((cs 31), 121, .inl vZ_camp)), ((ad 33), .inl ((cs 33), 14641, .inl vZ_far)), ((ad 45), .inl ((cs 45), 121, .inl vZ_isEnd_16))]) (ci := 7) S0 (c_X7_hopsFrom l D ad cs H.size vZ_players vZ_fill vZ_patience vZ_turn vZ_made vZ_out vZ_finishers vZ_thrown_11 vZ_next vZ_board vZ_level_14 vZ_queue_15 x2 x1 _ hw) (cwV 2 hts gX7_chainAt_X7_hopsFrom rfl rfl rfl (by decide +kernel) ⟨Nat.le_of_ble_eq_true rfl, Nat.le_of_ble_eq_true rfl⟩) hN hK hP hD hS hA [0, 2, 4, 5, 6] [1, 3, 7] [1, 3, 4, 5] ⟨rfl, rfl, rfl, rfl, rfl, by decide⟩ 0 rfl rfl rfl rfl hl.1 (Nat.le_of_ble_eq_true rfl) ⟨Nat.le_of_ble_eq_true rfl, Nat.le_of_ble_eq_true rfl⟩ dX7_chainAt_57 (fun u H locs hw hP hD hS => ?_)
          obtain ⟨vZ_level_19, vZ_queue_20⟩ := u
          dsimp only at hw
          have hP : va_P D vwCl (cl_X7_chainAt ad cs vZ_players vZ_fill vZ_patience vZ_turn vZ_made vZ_out vZ_finishers vZ_thrown_11 vZ_camp vZ_next vZ_far vZ_board vZ_level_19 vZ_queue_20 vZ_isEnd_16) H := hP.sub [3, 0, 4, 1, 5, 6, 7, 2] rfl
          have hD : va_D A (cl_X7_chainAt ad cs vZ_players vZ_fill vZ_patience vZ_turn vZ_made vZ_out vZ_finishers vZ_thrown_11 vZ_camp vZ_next vZ_far vZ_board vZ_level_19 vZ_queue_20 vZ_isEnd_16) := hD.sub [3, 0, 4, 1, 5, 6, 7, 2] (by decide) rfl
          refine lv_iload_n hx hb dX7_chainAt_60 rfl (lv_at hl 2 rfl) ?_
          refine lv_istore (lv' := [(5, .int x1), (4, .int r_13), (0, .ref (ad 28)), (1, .int x1), (2, .int x2), (3, .int x3)]) hx hb dX7_chainAt_61 hl (by decide) rfl (fun ls hl => ?_)
          refine lv_iconst (v := (0 : Int32)) hx hb dX7_chainAt_63 (by decide) ?_
          refine lv_istore (lv' := [(6, .int (0 : Int32)), (5, .int x1), (4, .int r_13), (0, .ref (ad 28)), (1, .int x1), (2, .int x2), (3, .int x3)]) hx hb dX7_chainAt_64 hl (by decide) rfl (fun ls hl => ?_)
          refine hL66 vZ_thrown_11 vZ_level_19 x1 x3 r_13 _ x1 (0 : Int32) _ _ hw ?_ _ _ _ hP hD hS (lv_sub hl [3, 4, 6, 2, 1, 0] rfl)
          intro x5_21 hw H locs ls hP hD hS hl
          refine lv_iload hx hb dX7_chainAt_157 (lv_at hl 0 rfl) ?_
          exact hret _ _ _ _ _ _ _ _ _ hw hP hD hS dX7_chainAt_159
        · have hw := hw.2 c_18
          refine lv_iconst (v := (-1 : Int32)) hx hb dX7_chainAt_52 (by decide) ?_
          exact hret _ _ _ _ _ _ _ _ _ hw hP hD hS dX7_chainAt_53
    · have hw := hw.2 c_12
      refine lv_iconst (v := (0 : Int32)) hx hb dX7_chainAt_30 (by decide) ?_
      exact hret _ _ _ _ _ _ _ _ _ hw hP hD hS dX7_chainAt_31
  obtain ⟨H, hH⟩ : ∃ H : Heap, H = s.heap := ⟨_, rfl⟩
  have hS : va_S A s.heap H [] := by rw [hH]; exact va_S.rf
  rw [← hH] at hP ⊢
  unfold wp_X7_chainAt at hw
  refine lv_aload_n hx hb dX7_chainAt_0 rfl (lv_at hl 0 rfl) ?_
  refine lv_iload_n hx hb dX7_chainAt_1 rfl (lv_at hl 1 rfl) ?_
  refine pcS (rest := [.ref (ad 28)]) S0 (c_X7_isCell l D ad cs H.size x1 _ hw) (va_cwS 1 hts gX7_chainAt_X7_isCell rfl rfl rfl (by decide +kernel) ⟨Nat.le_of_ble_eq_true rfl, Nat.le_of_ble_eq_true rfl⟩) hN hK hP hD [] [] rfl rfl rfl rfl rfl hl.1 (Nat.le_of_ble_eq_true rfl) ⟨Nat.le_of_ble_eq_true rfl, Nat.le_of_ble_eq_true rfl⟩ dX7_chainAt_2 (fun r_22 hw => ?_)
  refine lv_if_eq (tgt := 19) hx hb dX7_chainAt_5 (by decide) (fun c_23 => ?_) (fun c_23 => ?_)
  · have hw := hw.1 c_23
    refine lv_iconst (v := (1 : Int32)) hx hb dX7_chainAt_19 (by decide) ?_
    refine lv_goto (tgt := 24) hx hb dX7_chainAt_20 (by decide) ?_
    exact hJ24 vZ_thrown vZ_level vZ_queue vZ_isEnd x1 x2 x3 (1 : Int32) hw _ _ _ hP hD hS (lv_sub hl [0, 1, 2, 3] rfl)
  · have hw := hw.2 c_23
    refine lv_iload_n hx hb dX7_chainAt_8 rfl (lv_at hl 2 rfl) ?_
    refine pcS (rest := [.ref (ad 28)]) S0 (c_X7_isCell l D ad cs H.size x2 _ hw) (va_cwS 1 hts gX7_chainAt_X7_isCell rfl rfl rfl (by decide +kernel) ⟨Nat.le_of_ble_eq_true rfl, Nat.le_of_ble_eq_true rfl⟩) hN hK hP hD [] [] rfl rfl rfl rfl rfl hl.1 (Nat.le_of_ble_eq_true rfl) ⟨Nat.le_of_ble_eq_true rfl, Nat.le_of_ble_eq_true rfl⟩ dX7_chainAt_9 (fun r_24 hw => ?_)
    refine lv_if_eq (tgt := 19) hx hb dX7_chainAt_12 (by decide) (fun c_25 => ?_) (fun c_25 => ?_)
    · have hw := hw.1 c_25
      refine lv_iconst (v := (1 : Int32)) hx hb dX7_chainAt_19 (by decide) ?_
      refine lv_goto (tgt := 24) hx hb dX7_chainAt_20 (by decide) ?_
      exact hJ24 vZ_thrown vZ_level vZ_queue vZ_isEnd x1 x2 x3 (1 : Int32) hw _ _ _ hP hD hS (lv_sub hl [0, 1, 2, 3] rfl)
    · have hw := hw.2 c_25
      refine lv_iload_n hx hb dX7_chainAt_15 rfl (lv_at hl 3 rfl) ?_
      refine lv_if_ge (tgt := 23) hx hb dX7_chainAt_16 (by decide) (fun c_26 => ?_) (fun c_26 => ?_)
      · have hw := hw.1 c_26
        refine lv_iconst (v := (0 : Int32)) hx hb dX7_chainAt_23 (by decide) ?_
        exact hJ24 vZ_thrown vZ_level vZ_queue vZ_isEnd x1 x2 x3 (0 : Int32) hw _ _ _ hP hD hS (lv_sub hl [0, 1, 2, 3] rfl)
      · have hw := hw.2 c_26
        refine lv_iconst (v := (1 : Int32)) hx hb dX7_chainAt_19 (by decide) ?_
        refine lv_goto (tgt := 24) hx hb dX7_chainAt_20 (by decide) ?_
        exact hJ24 vZ_thrown vZ_level vZ_queue vZ_isEnd x1 x2 x3 (1 : Int32) hw _ _ _ hP hD hS (lv_sub hl [0, 1, 2, 3] rfl)
set_option maxHeartbeats 4000000 in
set_option maxRecDepth 100000 in
theorem c_X7_chainAt (l : Launch) (D : va_G) (ad : Nat → Nat) (cs : Nat → ClassId) (sz : Nat) (vZ_players vZ_fill vZ_patience vZ_turn vZ_made vZ_out vZ_finishers vZ_thrown : Int32) (vZ_camp vZ_next vZ_far vZ_board vZ_level vZ_queue vZ_isEnd : Nat → Int32) (x1 x2 x3 : Int32) (Q : Int32 → Int32 → (Nat → Int32) → (Nat → Int32) → (Nat → Int32) → Prop) (hw : wp_X7_chainAt vZ_players vZ_fill vZ_patience vZ_turn vZ_made vZ_out vZ_finishers vZ_thrown vZ_camp vZ_next vZ_far vZ_board vZ_level vZ_queue vZ_isEnd x1 x2 x3 Q) :
  Met l yX7_chainAt wsX7_chainAt rm_X7_chainAt (va_Pc [.ref (ad 28), .int x1, .int x2, .int x3] (PX D (cl_X7_chainAt ad cs vZ_players vZ_fill vZ_patience vZ_turn vZ_made vZ_out vZ_finishers vZ_thrown vZ_camp vZ_next vZ_far vZ_board vZ_level vZ_queue vZ_isEnd) (ty_X7_chainAt cs) sz)) (va_Qi (fun (r : Int32) (u : Int32 × (Nat → Int32) × (Nat → Int32) × (Nat → Int32)) => Q r u.1 u.2.1 u.2.2.1 u.2.2.2) (fun (u : Int32 × (Nat → Int32) × (Nat → Int32) × (Nat → Int32)) t => va_P D vwCl (cl_X7_chainAt ad cs vZ_players vZ_fill vZ_patience vZ_turn vZ_made vZ_out vZ_finishers u.1 vZ_camp vZ_next vZ_far vZ_board u.2.1 u.2.2.1 u.2.2.2) t.heap ∧ va_D (va_A (cl_X7_chainAt ad cs vZ_players vZ_fill vZ_patience vZ_turn vZ_made vZ_out vZ_finishers vZ_thrown vZ_camp vZ_next vZ_far vZ_board vZ_level vZ_queue vZ_isEnd) sz) (cl_X7_chainAt ad cs vZ_players vZ_fill vZ_patience vZ_turn vZ_made vZ_out vZ_finishers u.1 vZ_camp vZ_next vZ_far vZ_board u.2.1 u.2.2.1 u.2.2.2)) (va_A (cl_X7_chainAt ad cs vZ_players vZ_fill vZ_patience vZ_turn vZ_made vZ_out vZ_finishers vZ_thrown vZ_camp vZ_next vZ_far vZ_board vZ_level vZ_queue vZ_isEnd) sz)) 0 0 (va_A (cl_X7_chainAt ad cs vZ_players vZ_fill vZ_patience vZ_turn vZ_made vZ_out vZ_finishers vZ_thrown vZ_camp vZ_next vZ_far vZ_board vZ_level vZ_queue vZ_isEnd) sz) := by
  refine Met.ofW (cc := cX7_chainAt) (maxL := 10) (ret := (some .int)) (by decide) rfl ?_
  intro p e s m args below meth c s₁ B hml hv
  obtain ⟨rfl, hsz, hP, hK, hD0, hN⟩ := hv
  subst hsz
  have hl := lv_entry ([.ref (ad 28), .int x1, .int x2, .int x3]) (n := 10) (Nat.le_of_ble_eq_true rfl)
  rw [lg_entry_eq]
  have hx := B.exec
  have hb := B.bytes
  have hr := B.returns
  exact b_X7_chainAt l D ad cs vZ_players vZ_fill vZ_patience vZ_turn vZ_made vZ_out vZ_finishers vZ_thrown vZ_camp vZ_next vZ_far vZ_board vZ_level vZ_queue vZ_isEnd x1 x2 x3 Q hx hb hml (findClass_of_methodNamed B.named) (atoms_spec (ws := wsX7_chainAt) B.pre) hN hP hK hD0.self (fun q h => Or.inr h) hl (fun r o0 o1 o2 o3 H locs pc ls hq hP hD hS hd => W.iret (v := r) hx hb hr (fun t ht hW => ⟨⟨r, (o0, o1, o2, o3), rfl, hq, by rw [ht]; exact hP, hD⟩, hS.F ht⟩) hS.2.2 hd) hw
abbrev rm_X7_hops : Room := { frames := 4, cells := 0, slots := 0, locals := 98 }
abbrev cl_X7_hops (ad : Nat → Nat) (cs : Nat → ClassId) (vZ_players vZ_fill vZ_patience vZ_turn vZ_made vZ_out vZ_finishers vZ_thrown : Int32) (vZ_camp vZ_next vZ_far vZ_board vZ_level vZ_queue vZ_isEnd : Nat → Int32) : va_W := [((ad 28), .inr (7, [.ref (ad 29), .ref (ad 30), .ref (ad 31), .ref (ad 32), .ref (ad 33), .ref (ad 34), .int vZ_players, .int vZ_fill, .int vZ_patience, .ref (ad 35), .int vZ_turn, .int vZ_made, .int vZ_out, .ref (ad 36), .int vZ_finishers, .ref (ad 37), .ref (ad 38), .ref (ad 39), .ref (ad 40), .ref (ad 41), .ref (ad 42), .ref (ad 43), .ref (ad 44), .ref (ad 45), .ref (ad 46), .ref (ad 47), .int vZ_thrown])), ((ad 31), .inl ((cs 31), 121, .inl vZ_camp)), ((ad 32), .inl ((cs 32), 726, .inl vZ_next)), ((ad 33), .inl ((cs 33), 14641, .inl vZ_far)), ((ad 35), .inl ((cs 35), 121, .inl vZ_board)), ((ad 43), .inl ((cs 43), 121, .inl vZ_level)), ((ad 44), .inl ((cs 44), 121, .inl vZ_queue)), ((ad 45), .inl ((cs 45), 121, .inl vZ_isEnd))]
abbrev ty_X7_hops (cs : Nat → ClassId) : List (ClassId × FieldType) := [((cs 31), .int), ((cs 32), .int), ((cs 33), .int), ((cs 35), .int), ((cs 43), .int), ((cs 44), .int), ((cs 45), .boolean)]
def wp_X7_hops (vZ_players vZ_fill vZ_patience vZ_turn vZ_made vZ_out vZ_finishers vZ_thrown : Int32) (vZ_camp vZ_next vZ_far vZ_board vZ_level vZ_queue vZ_isEnd : Nat → Int32) (x1 x2 : Int32) (Q : Int32 → Int32 → (Nat → Int32) → (Nat → Int32) → (Nat → Int32) → Prop) : Prop :=
 wp_X7_areCells vZ_players vZ_fill vZ_patience vZ_turn vZ_made vZ_out vZ_finishers vZ_thrown x1 x2 (fun r_1 vZ_thrown_2 =>
 ((r_1 = 0 → Q (0 : Int32) vZ_thrown_2 vZ_level vZ_queue vZ_isEnd) ∧
 (¬ r_1 = 0 → wp_X7_hopsOf vZ_players vZ_fill vZ_patience vZ_turn vZ_made vZ_out vZ_finishers vZ_thrown_2 vZ_camp vZ_next vZ_far vZ_board vZ_level vZ_queue vZ_isEnd x1 x2 (fun r_4 vZ_level_5 vZ_queue_6 vZ_isEnd_7 =>
 Q r_4 vZ_thrown_2 vZ_level_5 vZ_queue_6 vZ_isEnd_7))))
set_option maxHeartbeats 4000000 in
set_option maxRecDepth 100000 in
theorem b_X7_hops {p : Program} {e : Env} {s : State} {m : MethodId} {args : Array Value} {below : List Frame} {meth : Method} {c : Code} {QQ : State → Prop} {A : Nat → Prop} {ls : Array Slot} (l : Launch) (D : va_G) (ad : Nat → Nat) (cs : Nat → ClassId) (vZ_players vZ_fill vZ_patience vZ_turn vZ_made vZ_out vZ_finishers vZ_thrown : Int32) (vZ_camp vZ_next vZ_far vZ_board vZ_level vZ_queue vZ_isEnd : Nat → Int32) (x1 x2 : Int32) (Q : Int32 → Int32 → (Nat → Int32) → (Nat → Int32) → (Nat → Int32) → Prop) (hx : p.tables.exec = Jvm.exec) (hb : c.code = cX7_hops) (hml : c.maxLocals = 3) (hown : s.vm.findClass RX7 = some m.cls) (hts : ∀ w ∈ wsX7_hops, w.before args s = true) (hN : NW s) (hP : va_P D vwCl (cl_X7_hops ad cs vZ_players vZ_fill vZ_patience vZ_turn vZ_made vZ_out vZ_finishers vZ_thrown vZ_camp vZ_next vZ_far vZ_board vZ_level vZ_queue vZ_isEnd) s.heap) (hK : va_K D vwCl (ty_X7_hops cs) s) (hD : va_D A (cl_X7_hops ad cs vZ_players vZ_fill vZ_patience vZ_turn vZ_made vZ_out vZ_finishers vZ_thrown vZ_camp vZ_next vZ_far vZ_board vZ_level vZ_queue vZ_isEnd)) (hA : ∀ q : Nat, s.heap.size ≤ q → A q) (hl : lv_has ls 3 [(0, .ref (ad 28)), (1, .int x1), (2, .int x2)])
  (hret : ∀ (r : Int32) (o0 : Int32) (o1 : Nat → Int32) (o2 : Nat → Int32) (o3 : Nat → Int32) (H : Heap) (locs : List Loc) (pc : Nat) (ls : Array Slot), Q r o0 o1 o2 o3 → va_P D vwCl (cl_X7_hops ad cs vZ_players vZ_fill vZ_patience vZ_turn vZ_made vZ_out vZ_finishers o0 vZ_camp vZ_next vZ_far vZ_board o1 o2 o3) H → va_D A (cl_X7_hops ad cs vZ_players vZ_fill vZ_patience vZ_turn vZ_made vZ_out vZ_finishers o0 vZ_camp vZ_next vZ_far vZ_board o1 o2 o3) → va_S A s.heap H locs → decode cX7_hops pc = .ok (.ireturn, 1) → W p l e rm_X7_hops s m args below meth c H locs 0 0 QQ (F0 m pc ls [.int r]))
  (hw : wp_X7_hops vZ_players vZ_fill vZ_patience vZ_turn vZ_made vZ_out vZ_finishers vZ_thrown vZ_camp vZ_next vZ_far vZ_board vZ_level vZ_queue vZ_isEnd x1 x2 Q) :
  W p l e rm_X7_hops s m args below meth c s.heap [] 0 0 QQ (F0 m 0 ls []) := by
  have S0 : CallFix p m c cX7_hops 3 s args wsX7_hops RX7 := ⟨hx, hb, hml, hown, hts⟩
  obtain ⟨H, hH⟩ : ∃ H : Heap, H = s.heap := ⟨_, rfl⟩
  have hS : va_S A s.heap H [] := by rw [hH]; exact va_S.rf
  rw [← hH] at hP ⊢
  unfold wp_X7_hops at hw
  refine lv_aload_n hx hb dX7_hops_0 rfl (lv_at hl 0 rfl) ?_
  refine lv_iload_n hx hb dX7_hops_1 rfl (lv_at hl 1 rfl) ?_
  refine lv_iload_n hx hb dX7_hops_2 rfl (lv_at hl 2 rfl) ?_
  refine pcVi (rest := []) (wr := [((ad 31), .inl ((cs 31), 121, .inl vZ_camp)), ((ad 32), .inl ((cs 32), 726, .inl vZ_next)), ((ad 33), .inl ((cs 33), 14641, .inl vZ_far)), ((ad 35), .inl ((cs 35), 121, .inl vZ_board)), ((ad 43), .inl ((cs 43), 121, .inl vZ_level)), ((ad 44), .inl ((cs 44), 121, .inl vZ_queue)), ((ad 45), .inl ((cs 45), 121, .inl vZ_isEnd))]) (ci := 7) S0 (c_X7_areCells l D ad cs H.size vZ_players vZ_fill vZ_patience vZ_turn vZ_made vZ_out vZ_finishers vZ_thrown x1 x2 _ hw) (cwV 2 hts gX7_hops_X7_areCells rfl rfl rfl (by decide +kernel) ⟨Nat.le_of_ble_eq_true rfl, Nat.le_of_ble_eq_true rfl⟩) hN hK hP hD hS hA [0] [1, 2, 3, 4, 5, 6, 7] [] ⟨rfl, rfl, rfl, rfl, rfl, by decide⟩ 0 rfl rfl rfl rfl hl.1 (Nat.le_of_ble_eq_true rfl) ⟨Nat.le_of_ble_eq_true rfl, Nat.le_of_ble_eq_true rfl⟩ dX7_hops_3 (fun r_1 u H locs hw hP hD hS => ?_)
  obtain ⟨vZ_thrown_2, rfl⟩ : ∃ z, z = u := ⟨_, rfl⟩
  have hP : va_P D vwCl (cl_X7_hops ad cs vZ_players vZ_fill vZ_patience vZ_turn vZ_made vZ_out vZ_finishers vZ_thrown_2 vZ_camp vZ_next vZ_far vZ_board vZ_level vZ_queue vZ_isEnd) H := hP.sub [7, 0, 1, 2, 3, 4, 5, 6] rfl
  have hD : va_D A (cl_X7_hops ad cs vZ_players vZ_fill vZ_patience vZ_turn vZ_made vZ_out vZ_finishers vZ_thrown_2 vZ_camp vZ_next vZ_far vZ_board vZ_level vZ_queue vZ_isEnd) := hD.sub [7, 0, 1, 2, 3, 4, 5, 6] (by decide) rfl
  refine lv_if_eq (tgt := 18) hx hb dX7_hops_6 (by decide) (fun c_3 => ?_) (fun c_3 => ?_)
  · have hw := hw.1 c_3
    refine lv_iconst (v := (0 : Int32)) hx hb dX7_hops_18 (by decide) ?_
    exact hret _ _ _ _ _ _ _ _ _ hw hP hD hS dX7_hops_19
  · have hw := hw.2 c_3
    refine lv_aload_n hx hb dX7_hops_9 rfl (lv_at hl 0 rfl) ?_
    refine lv_iload_n hx hb dX7_hops_10 rfl (lv_at hl 1 rfl) ?_
    refine lv_iload_n hx hb dX7_hops_11 rfl (lv_at hl 2 rfl) ?_
    refine pcVi (rest := []) (wr := []) (ci := 7) S0 (c_X7_hopsOf l D ad cs H.size vZ_players vZ_fill vZ_patience vZ_turn vZ_made vZ_out vZ_finishers vZ_thrown_2 vZ_camp vZ_next vZ_far vZ_board vZ_level vZ_queue vZ_isEnd x1 x2 _ hw) (cwV 2 hts gX7_hops_X7_hopsOf rfl rfl rfl (by decide +kernel) ⟨Nat.le_of_ble_eq_true rfl, Nat.le_of_ble_eq_true rfl⟩) hN hK hP hD hS hA [0, 1, 2, 3, 4, 5, 6, 7] [] [0, 1, 2, 3, 4, 5, 6] ⟨rfl, rfl, rfl, rfl, rfl, by decide⟩ 0 rfl rfl rfl rfl hl.1 (Nat.le_of_ble_eq_true rfl) ⟨Nat.le_of_ble_eq_true rfl, Nat.le_of_ble_eq_true rfl⟩ dX7_hops_12 (fun r_4 u H locs hw hP hD hS => ?_)
    obtain ⟨vZ_level_5, vZ_queue_6, vZ_isEnd_7⟩ := u
    dsimp only at hw
    have hP : va_P D vwCl (cl_X7_hops ad cs vZ_players vZ_fill vZ_patience vZ_turn vZ_made vZ_out vZ_finishers vZ_thrown_2 vZ_camp vZ_next vZ_far vZ_board vZ_level_5 vZ_queue_6 vZ_isEnd_7) H := hP.sub [0, 1, 2, 3, 4, 5, 6, 7] rfl
    have hD : va_D A (cl_X7_hops ad cs vZ_players vZ_fill vZ_patience vZ_turn vZ_made vZ_out vZ_finishers vZ_thrown_2 vZ_camp vZ_next vZ_far vZ_board vZ_level_5 vZ_queue_6 vZ_isEnd_7) := hD.sub [0, 1, 2, 3, 4, 5, 6, 7] (by decide) rfl
    refine lv_goto (tgt := 19) hx hb dX7_hops_15 (by decide) ?_
    exact hret _ _ _ _ _ _ _ _ _ hw hP hD hS dX7_hops_19
set_option maxHeartbeats 4000000 in
set_option maxRecDepth 100000 in
theorem c_X7_hops (l : Launch) (D : va_G) (ad : Nat → Nat) (cs : Nat → ClassId) (sz : Nat) (vZ_players vZ_fill vZ_patience vZ_turn vZ_made vZ_out vZ_finishers vZ_thrown : Int32) (vZ_camp vZ_next vZ_far vZ_board vZ_level vZ_queue vZ_isEnd : Nat → Int32) (x1 x2 : Int32) (Q : Int32 → Int32 → (Nat → Int32) → (Nat → Int32) → (Nat → Int32) → Prop) (hw : wp_X7_hops vZ_players vZ_fill vZ_patience vZ_turn vZ_made vZ_out vZ_finishers vZ_thrown vZ_camp vZ_next vZ_far vZ_board vZ_level vZ_queue vZ_isEnd x1 x2 Q) :
  Met l yX7_hops wsX7_hops rm_X7_hops (va_Pc [.ref (ad 28), .int x1, .int x2] (PX D (cl_X7_hops ad cs vZ_players vZ_fill vZ_patience vZ_turn vZ_made vZ_out vZ_finishers vZ_thrown vZ_camp vZ_next vZ_far vZ_board vZ_level vZ_queue vZ_isEnd) (ty_X7_hops cs) sz)) (va_Qi (fun (r : Int32) (u : Int32 × (Nat → Int32) × (Nat → Int32) × (Nat → Int32)) => Q r u.1 u.2.1 u.2.2.1 u.2.2.2) (fun (u : Int32 × (Nat → Int32) × (Nat → Int32) × (Nat → Int32)) t => va_P D vwCl (cl_X7_hops ad cs vZ_players vZ_fill vZ_patience vZ_turn vZ_made vZ_out vZ_finishers u.1 vZ_camp vZ_next vZ_far vZ_board u.2.1 u.2.2.1 u.2.2.2) t.heap ∧ va_D (va_A (cl_X7_hops ad cs vZ_players vZ_fill vZ_patience vZ_turn vZ_made vZ_out vZ_finishers vZ_thrown vZ_camp vZ_next vZ_far vZ_board vZ_level vZ_queue vZ_isEnd) sz) (cl_X7_hops ad cs vZ_players vZ_fill vZ_patience vZ_turn vZ_made vZ_out vZ_finishers u.1 vZ_camp vZ_next vZ_far vZ_board u.2.1 u.2.2.1 u.2.2.2)) (va_A (cl_X7_hops ad cs vZ_players vZ_fill vZ_patience vZ_turn vZ_made vZ_out vZ_finishers vZ_thrown vZ_camp vZ_next vZ_far vZ_board vZ_level vZ_queue vZ_isEnd) sz)) 0 0 (va_A (cl_X7_hops ad cs vZ_players vZ_fill vZ_patience vZ_turn vZ_made vZ_out vZ_finishers vZ_thrown vZ_camp vZ_next vZ_far vZ_board vZ_level vZ_queue vZ_isEnd) sz) := by
  refine Met.ofW (cc := cX7_hops) (maxL := 3) (ret := (some .int)) (by decide) rfl ?_
  intro p e s m args below meth c s₁ B hml hv
  obtain ⟨rfl, hsz, hP, hK, hD0, hN⟩ := hv
  subst hsz
  have hl := lv_entry ([.ref (ad 28), .int x1, .int x2]) (n := 3) (Nat.le_of_ble_eq_true rfl)
  rw [lg_entry_eq]
  have hx := B.exec
  have hb := B.bytes
  have hr := B.returns
  exact b_X7_hops l D ad cs vZ_players vZ_fill vZ_patience vZ_turn vZ_made vZ_out vZ_finishers vZ_thrown vZ_camp vZ_next vZ_far vZ_board vZ_level vZ_queue vZ_isEnd x1 x2 Q hx hb hml (findClass_of_methodNamed B.named) (atoms_spec (ws := wsX7_hops) B.pre) hN hP hK hD0.self (fun q h => Or.inr h) hl (fun r o0 o1 o2 o3 H locs pc ls hq hP hD hS hd => W.iret (v := r) hx hb hr (fun t ht hW => ⟨⟨r, (o0, o1, o2, o3), rfl, hq, by rw [ht]; exact hP, hD⟩, hS.F ht⟩) hS.2.2 hd) hw
abbrev rm_X7_finished : Room := { frames := 1, cells := 0, slots := 0, locals := 22 }
abbrev cl_X7_finished (ad : Nat → Nat) (cs : Nat → ClassId) (vZ_players vZ_fill vZ_patience vZ_turn vZ_made vZ_out vZ_finishers vZ_thrown : Int32) (vZ_places : Nat → Int32) : va_W := [((ad 28), .inr (7, [.ref (ad 29), .ref (ad 30), .ref (ad 31), .ref (ad 32), .ref (ad 33), .ref (ad 34), .int vZ_players, .int vZ_fill, .int vZ_patience, .ref (ad 35), .int vZ_turn, .int vZ_made, .int vZ_out, .ref (ad 36), .int vZ_finishers, .ref (ad 37), .ref (ad 38), .ref (ad 39), .ref (ad 40), .ref (ad 41), .ref (ad 42), .ref (ad 43), .ref (ad 44), .ref (ad 45), .ref (ad 46), .ref (ad 47), .int vZ_thrown])), ((ad 37), .inl ((cs 37), 6, .inl vZ_places))]
abbrev ty_X7_finished (cs : Nat → ClassId) : List (ClassId × FieldType) := [((cs 37), .int)]
def wJ_X7_finished_15 (vZ_players vZ_fill vZ_patience vZ_turn vZ_made vZ_out vZ_finishers vZ_thrown : Int32) (vZ_places : Nat → Int32) (x1 t1 : Int32) (Q : Int32 → Int32 → Prop) : Prop :=
 wp_X7_can vZ_players vZ_fill vZ_patience vZ_turn vZ_made vZ_out vZ_finishers vZ_thrown t1 (fun r_1 vZ_thrown_2 =>
 ((r_1 = 0 → Q (0 : Int32) vZ_thrown_2) ∧
 (¬ r_1 = 0 → ((vZ_finishers ≤ x1 → Q (-1 : Int32) vZ_thrown_2) ∧
 (¬ vZ_finishers ≤ x1 → (vp_in x1 6 ∧
 Q (vZ_places x1.toNatClampNeg) vZ_thrown_2))))))
def wp_X7_finished (vZ_players vZ_fill vZ_patience vZ_turn vZ_made vZ_out vZ_finishers vZ_thrown : Int32) (vZ_places : Nat → Int32) (x1 : Int32) (Q : Int32 → Int32 → Prop) : Prop :=
 wp_X7_isIn x1 (0 : Int32) (5 : Int32) (fun r_6 =>
 ((r_6 = 0 → wJ_X7_finished_15 vZ_players vZ_fill vZ_patience vZ_turn vZ_made vZ_out vZ_finishers vZ_thrown vZ_places x1 (1 : Int32) Q) ∧
 (¬ r_6 = 0 → wJ_X7_finished_15 vZ_players vZ_fill vZ_patience vZ_turn vZ_made vZ_out vZ_finishers vZ_thrown vZ_places x1 (0 : Int32) Q)))
set_option maxHeartbeats 4000000 in
set_option maxRecDepth 100000 in
theorem b_X7_finished {p : Program} {e : Env} {s : State} {m : MethodId} {args : Array Value} {below : List Frame} {meth : Method} {c : Code} {QQ : State → Prop} {A : Nat → Prop} {ls : Array Slot} (l : Launch) (D : va_G) (ad : Nat → Nat) (cs : Nat → ClassId) (vZ_players vZ_fill vZ_patience vZ_turn vZ_made vZ_out vZ_finishers vZ_thrown : Int32) (vZ_places : Nat → Int32) (x1 : Int32) (Q : Int32 → Int32 → Prop) (hx : p.tables.exec = Jvm.exec) (hb : c.code = cX7_finished) (hml : c.maxLocals = 2) (hown : s.vm.findClass RX7 = some m.cls) (hts : ∀ w ∈ wsX7_finished, w.before args s = true) (hN : NW s) (hP : va_P D vwCl (cl_X7_finished ad cs vZ_players vZ_fill vZ_patience vZ_turn vZ_made vZ_out vZ_finishers vZ_thrown vZ_places) s.heap) (hK : va_K D vwCl (ty_X7_finished cs) s) (hD : va_D A (cl_X7_finished ad cs vZ_players vZ_fill vZ_patience vZ_turn vZ_made vZ_out vZ_finishers vZ_thrown vZ_places)) (hA : ∀ q : Nat, s.heap.size ≤ q → A q) (hl : lv_has ls 2 [(0, .ref (ad 28)), (1, .int x1)])
  (hret : ∀ (r : Int32) (o0 : Int32) (H : Heap) (locs : List Loc) (pc : Nat) (ls : Array Slot), Q r o0 → va_P D vwCl (cl_X7_finished ad cs vZ_players vZ_fill vZ_patience vZ_turn vZ_made vZ_out vZ_finishers o0 vZ_places) H → va_D A (cl_X7_finished ad cs vZ_players vZ_fill vZ_patience vZ_turn vZ_made vZ_out vZ_finishers o0 vZ_places) → va_S A s.heap H locs → decode cX7_finished pc = .ok (.ireturn, 1) → W p l e rm_X7_finished s m args below meth c H locs 0 0 QQ (F0 m pc ls [.int r]))
  (hw : wp_X7_finished vZ_players vZ_fill vZ_patience vZ_turn vZ_made vZ_out vZ_finishers vZ_thrown vZ_places x1 Q) :
  W p l e rm_X7_finished s m args below meth c s.heap [] 0 0 QQ (F0 m 0 ls []) := by
  have S0 : CallFix p m c cX7_finished 2 s args wsX7_finished RX7 := ⟨hx, hb, hml, hown, hts⟩
  have inX7 : ∀ w ∈ u_ws RX7 TX7 27, w ∈ wsX7_finished := by decide +kernel
  have fl_109 := hts (.fieldLink RX7 109 "HopperCourtModel" "finishers" "I") (by decide +kernel)
  have fl_38 := hts (.fieldLink RX7 38 "HopperCourtModel" "places" "[I") (by decide +kernel)
  have hJ15 : ∀ (vZ_thrown x1 t1 : Int32), wJ_X7_finished_15 vZ_players vZ_fill vZ_patience vZ_turn vZ_made vZ_out vZ_finishers vZ_thrown vZ_places x1 t1 Q → ∀ (H : Heap) (locs : List Loc) (ls : Array Slot), va_P D vwCl (cl_X7_finished ad cs vZ_players vZ_fill vZ_patience vZ_turn vZ_made vZ_out vZ_finishers vZ_thrown vZ_places) H → va_D A (cl_X7_finished ad cs vZ_players vZ_fill vZ_patience vZ_turn vZ_made vZ_out vZ_finishers vZ_thrown vZ_places) → va_S A s.heap H locs → lv_has ls 2 [(0, .ref (ad 28)), (1, .int x1)] → W p l e rm_X7_finished s m args below meth c H locs 0 0 QQ (F0 m 15 ls [.int t1, .ref (ad 28)]) := by
    intro vZ_thrown x1 t1 hw  H locs ls hP hD hS hl
    unfold wJ_X7_finished_15 at hw
    refine pcVi (rest := []) (wr := [((ad 37), .inl ((cs 37), 6, .inl vZ_places))]) (ci := 7) S0 (c_X7_can l D ad cs H.size vZ_players vZ_fill vZ_patience vZ_turn vZ_made vZ_out vZ_finishers vZ_thrown t1 _ hw) (cwV 1 hts gX7_finished_X7_can rfl rfl rfl (by decide +kernel) ⟨Nat.le_of_ble_eq_true rfl, Nat.le_of_ble_eq_true rfl⟩) hN hK hP hD hS hA [0] [1] [] ⟨rfl, rfl, rfl, rfl, rfl, by decide⟩ 0 rfl rfl rfl rfl hl.1 (Nat.le_of_ble_eq_true rfl) ⟨Nat.le_of_ble_eq_true rfl, Nat.le_of_ble_eq_true rfl⟩ dX7_finished_15 (fun r_1 u H locs hw hP hD hS => ?_)
    obtain ⟨vZ_thrown_2, rfl⟩ : ∃ z, z = u := ⟨_, rfl⟩
    have hP : va_P D vwCl (cl_X7_finished ad cs vZ_players vZ_fill vZ_patience vZ_turn vZ_made vZ_out vZ_finishers vZ_thrown_2 vZ_places) H := hP.sub [1, 0] rfl
    have hD : va_D A (cl_X7_finished ad cs vZ_players vZ_fill vZ_patience vZ_turn vZ_made vZ_out vZ_finishers vZ_thrown_2 vZ_places) := hD.sub [1, 0] (by decide) rfl
    refine lv_if_eq (tgt := 42) hx hb dX7_finished_18 (by decide) (fun c_3 => ?_) (fun c_3 => ?_)
    · have hw := hw.1 c_3
      refine lv_iconst (v := (0 : Int32)) hx hb dX7_finished_42 (by decide) ?_
      exact hret _ _ _ _ _ _ hw hP hD hS dX7_finished_43
    · have hw := hw.2 c_3
      refine lv_iload_n hx hb dX7_finished_21 rfl (lv_at hl 1 rfl) ?_
      refine lv_aload_n hx hb dX7_finished_22 rfl (lv_at hl 0 rfl) ?_
      refine va_get (D := D) (ci := 7) (v := .int vZ_finishers) (C := RX7) (T := TX7) (N := 27) hx hb hts inX7 hown hK hP 0 rfl rfl 14 (by decide) fl_109 (fun _ h9 => h9) rfl dX7_finished_23 ?_
      refine lv_icmp_ge (tgt := 38) hx hb dX7_finished_26 (by decide) (fun c_4 => ?_) (fun c_4 => ?_)
      · have hw := hw.1 c_4
        refine lv_iconst (v := (-1 : Int32)) hx hb dX7_finished_38 (by decide) ?_
        refine lv_goto (tgt := 43) hx hb dX7_finished_39 (by decide) ?_
        exact hret _ _ _ _ _ _ hw hP hD hS dX7_finished_43
      · have hw := hw.2 c_4
        refine lv_aload_n hx hb dX7_finished_29 rfl (lv_at hl 0 rfl) ?_
        refine va_get (D := D) (ci := 7) (v := .ref (ad 37)) (C := RX7) (T := TX7) (N := 27) hx hb hts inX7 hown hK hP 0 rfl rfl 15 (by decide) fl_38 (fun _ h9 => h9) rfl dX7_finished_30 ?_
        refine lv_iload_n hx hb dX7_finished_33 rfl (lv_at hl 1 rfl) ?_
        obtain ⟨h_5, hw⟩ := hw
        refine va_iald hx hb hK hP 1 0 rfl rfl h_5 dX7_finished_34 ?_
        refine lv_goto (tgt := 43) hx hb dX7_finished_35 (by decide) ?_
        exact hret _ _ _ _ _ _ hw hP hD hS dX7_finished_43
  obtain ⟨H, hH⟩ : ∃ H : Heap, H = s.heap := ⟨_, rfl⟩
  have hS : va_S A s.heap H [] := by rw [hH]; exact va_S.rf
  rw [← hH] at hP ⊢
  unfold wp_X7_finished at hw
  refine lv_aload_n hx hb dX7_finished_0 rfl (lv_at hl 0 rfl) ?_
  refine lv_iload_n hx hb dX7_finished_1 rfl (lv_at hl 1 rfl) ?_
  refine lv_iconst (v := (0 : Int32)) hx hb dX7_finished_2 (by decide) ?_
  refine lv_iconst (v := (5 : Int32)) hx hb dX7_finished_3 (by decide) ?_
  refine pcS (rest := [.ref (ad 28)]) S0 (c_X7_isIn l D ad cs H.size x1 (0 : Int32) (5 : Int32) _ hw) (va_cwS 3 hts gX7_finished_X7_isIn rfl rfl rfl (by decide +kernel) ⟨Nat.le_of_ble_eq_true rfl, Nat.le_of_ble_eq_true rfl⟩) hN hK hP hD [] [] rfl rfl rfl rfl rfl hl.1 (Nat.le_of_ble_eq_true rfl) ⟨Nat.le_of_ble_eq_true rfl, Nat.le_of_ble_eq_true rfl⟩ dX7_finished_4 (fun r_6 hw => ?_)
  refine lv_if_eq (tgt := 14) hx hb dX7_finished_7 (by decide) (fun c_7 => ?_) (fun c_7 => ?_)
  · have hw := hw.1 c_7
    refine lv_iconst (v := (1 : Int32)) hx hb dX7_finished_14 (by decide) ?_
    exact hJ15 vZ_thrown x1 (1 : Int32) hw _ _ _ hP hD hS (lv_sub hl [0, 1] rfl)
  · have hw := hw.2 c_7
    refine lv_iconst (v := (0 : Int32)) hx hb dX7_finished_10 (by decide) ?_
    refine lv_goto (tgt := 15) hx hb dX7_finished_11 (by decide) ?_
    exact hJ15 vZ_thrown x1 (0 : Int32) hw _ _ _ hP hD hS (lv_sub hl [0, 1] rfl)
set_option maxHeartbeats 4000000 in
set_option maxRecDepth 100000 in
theorem c_X7_finished (l : Launch) (D : va_G) (ad : Nat → Nat) (cs : Nat → ClassId) (sz : Nat) (vZ_players vZ_fill vZ_patience vZ_turn vZ_made vZ_out vZ_finishers vZ_thrown : Int32) (vZ_places : Nat → Int32) (x1 : Int32) (Q : Int32 → Int32 → Prop) (hw : wp_X7_finished vZ_players vZ_fill vZ_patience vZ_turn vZ_made vZ_out vZ_finishers vZ_thrown vZ_places x1 Q) :
  Met l yX7_finished wsX7_finished rm_X7_finished (va_Pc [.ref (ad 28), .int x1] (PX D (cl_X7_finished ad cs vZ_players vZ_fill vZ_patience vZ_turn vZ_made vZ_out vZ_finishers vZ_thrown vZ_places) (ty_X7_finished cs) sz)) (va_Qi (fun (r : Int32) (u : Int32) => Q r u) (fun (u : Int32) t => va_P D vwCl (cl_X7_finished ad cs vZ_players vZ_fill vZ_patience vZ_turn vZ_made vZ_out vZ_finishers u vZ_places) t.heap ∧ va_D (va_A (cl_X7_finished ad cs vZ_players vZ_fill vZ_patience vZ_turn vZ_made vZ_out vZ_finishers vZ_thrown vZ_places) sz) (cl_X7_finished ad cs vZ_players vZ_fill vZ_patience vZ_turn vZ_made vZ_out vZ_finishers u vZ_places)) (va_A (cl_X7_finished ad cs vZ_players vZ_fill vZ_patience vZ_turn vZ_made vZ_out vZ_finishers vZ_thrown vZ_places) sz)) 0 0 (va_A (cl_X7_finished ad cs vZ_players vZ_fill vZ_patience vZ_turn vZ_made vZ_out vZ_finishers vZ_thrown vZ_places) sz) := by
  refine Met.ofW (cc := cX7_finished) (maxL := 2) (ret := (some .int)) (by decide) rfl ?_
  intro p e s m args below meth c s₁ B hml hv
  obtain ⟨rfl, hsz, hP, hK, hD0, hN⟩ := hv
  subst hsz
  have hl := lv_entry ([.ref (ad 28), .int x1]) (n := 2) (Nat.le_of_ble_eq_true rfl)
  rw [lg_entry_eq]
  have hx := B.exec
  have hb := B.bytes
  have hr := B.returns
  exact b_X7_finished l D ad cs vZ_players vZ_fill vZ_patience vZ_turn vZ_made vZ_out vZ_finishers vZ_thrown vZ_places x1 Q hx hb hml (findClass_of_methodNamed B.named) (atoms_spec (ws := wsX7_finished) B.pre) hN hP hK hD0.self (fun q h => Or.inr h) hl (fun r o0 H locs pc ls hq hP hD hS hd => W.iret (v := r) hx hb hr (fun t ht hW => ⟨⟨r, o0, rfl, hq, by rw [ht]; exact hP, hD⟩, hS.F ht⟩) hS.2.2 hd) hw
abbrev rm_X7_isOut : Room := { frames := 1, cells := 0, slots := 0, locals := 22 }
abbrev cl_X7_isOut (ad : Nat → Nat) (cs : Nat → ClassId) (vZ_players vZ_fill vZ_patience vZ_turn vZ_made vZ_out vZ_finishers vZ_thrown : Int32) : va_W := [((ad 28), .inr (7, [.ref (ad 29), .ref (ad 30), .ref (ad 31), .ref (ad 32), .ref (ad 33), .ref (ad 34), .int vZ_players, .int vZ_fill, .int vZ_patience, .ref (ad 35), .int vZ_turn, .int vZ_made, .int vZ_out, .ref (ad 36), .int vZ_finishers, .ref (ad 37), .ref (ad 38), .ref (ad 39), .ref (ad 40), .ref (ad 41), .ref (ad 42), .ref (ad 43), .ref (ad 44), .ref (ad 45), .ref (ad 46), .ref (ad 47), .int vZ_thrown]))]
abbrev ty_X7_isOut (cs : Nat → ClassId) : List (ClassId × FieldType) := []
def wJ_X7_isOut_15 (vZ_players vZ_fill vZ_patience vZ_turn vZ_made vZ_out vZ_finishers vZ_thrown x1 t1 : Int32) (Q : Int32 → Int32 → Prop) : Prop :=
 wp_X7_can vZ_players vZ_fill vZ_patience vZ_turn vZ_made vZ_out vZ_finishers vZ_thrown t1 (fun r_1 vZ_thrown_2 =>
 ((r_1 = 0 → Q (0 : Int32) vZ_thrown_2) ∧
 (¬ r_1 = 0 → ((¬ ((vZ_out >>> (x1 &&& 31)) &&& (1 : Int32)) = (1 : Int32) → Q (0 : Int32) vZ_thrown_2) ∧
 (((vZ_out >>> (x1 &&& 31)) &&& (1 : Int32)) = (1 : Int32) → Q (1 : Int32) vZ_thrown_2)))))
def wp_X7_isOut (vZ_players vZ_fill vZ_patience vZ_turn vZ_made vZ_out vZ_finishers vZ_thrown x1 : Int32) (Q : Int32 → Int32 → Prop) : Prop :=
 wp_X7_isIn x1 (0 : Int32) (5 : Int32) (fun r_5 =>
 ((r_5 = 0 → wJ_X7_isOut_15 vZ_players vZ_fill vZ_patience vZ_turn vZ_made vZ_out vZ_finishers vZ_thrown x1 (1 : Int32) Q) ∧
 (¬ r_5 = 0 → wJ_X7_isOut_15 vZ_players vZ_fill vZ_patience vZ_turn vZ_made vZ_out vZ_finishers vZ_thrown x1 (0 : Int32) Q)))
set_option maxHeartbeats 4000000 in
set_option maxRecDepth 100000 in
theorem b_X7_isOut {p : Program} {e : Env} {s : State} {m : MethodId} {args : Array Value} {below : List Frame} {meth : Method} {c : Code} {QQ : State → Prop} {A : Nat → Prop} {ls : Array Slot} (l : Launch) (D : va_G) (ad : Nat → Nat) (cs : Nat → ClassId) (vZ_players vZ_fill vZ_patience vZ_turn vZ_made vZ_out vZ_finishers vZ_thrown x1 : Int32) (Q : Int32 → Int32 → Prop) (hx : p.tables.exec = Jvm.exec) (hb : c.code = cX7_isOut) (hml : c.maxLocals = 2) (hown : s.vm.findClass RX7 = some m.cls) (hts : ∀ w ∈ wsX7_isOut, w.before args s = true) (hN : NW s) (hP : va_P D vwCl (cl_X7_isOut ad cs vZ_players vZ_fill vZ_patience vZ_turn vZ_made vZ_out vZ_finishers vZ_thrown) s.heap) (hK : va_K D vwCl (ty_X7_isOut cs) s) (hD : va_D A (cl_X7_isOut ad cs vZ_players vZ_fill vZ_patience vZ_turn vZ_made vZ_out vZ_finishers vZ_thrown)) (hA : ∀ q : Nat, s.heap.size ≤ q → A q) (hl : lv_has ls 2 [(0, .ref (ad 28)), (1, .int x1)])
  (hret : ∀ (r : Int32) (o0 : Int32) (H : Heap) (locs : List Loc) (pc : Nat) (ls : Array Slot), nb r → Q r o0 → va_P D vwCl (cl_X7_isOut ad cs vZ_players vZ_fill vZ_patience vZ_turn vZ_made vZ_out vZ_finishers o0) H → va_D A (cl_X7_isOut ad cs vZ_players vZ_fill vZ_patience vZ_turn vZ_made vZ_out vZ_finishers o0) → va_S A s.heap H locs → decode cX7_isOut pc = .ok (.ireturn, 1) → W p l e rm_X7_isOut s m args below meth c H locs 0 0 QQ (F0 m pc ls [.int r]))
  (hw : wp_X7_isOut vZ_players vZ_fill vZ_patience vZ_turn vZ_made vZ_out vZ_finishers vZ_thrown x1 Q) :
  W p l e rm_X7_isOut s m args below meth c s.heap [] 0 0 QQ (F0 m 0 ls []) := by
  have S0 : CallFix p m c cX7_isOut 2 s args wsX7_isOut RX7 := ⟨hx, hb, hml, hown, hts⟩
  have inX7 : ∀ w ∈ u_ws RX7 TX7 27, w ∈ wsX7_isOut := by decide +kernel
  have fl_106 := hts (.fieldLink RX7 106 "HopperCourtModel" "out" "I") (by decide +kernel)
  have hJ15 : ∀ (vZ_thrown x1 t1 : Int32), wJ_X7_isOut_15 vZ_players vZ_fill vZ_patience vZ_turn vZ_made vZ_out vZ_finishers vZ_thrown x1 t1 Q → ∀ (H : Heap) (locs : List Loc) (ls : Array Slot), va_P D vwCl (cl_X7_isOut ad cs vZ_players vZ_fill vZ_patience vZ_turn vZ_made vZ_out vZ_finishers vZ_thrown) H → va_D A (cl_X7_isOut ad cs vZ_players vZ_fill vZ_patience vZ_turn vZ_made vZ_out vZ_finishers vZ_thrown) → va_S A s.heap H locs → lv_has ls 2 [(0, .ref (ad 28)), (1, .int x1)] → W p l e rm_X7_isOut s m args below meth c H locs 0 0 QQ (F0 m 15 ls [.int t1, .ref (ad 28)]) := by
    intro vZ_thrown x1 t1 hw  H locs ls hP hD hS hl
    unfold wJ_X7_isOut_15 at hw
    refine pcVi (rest := []) (wr := []) (ci := 7) S0 (c_X7_can l D ad cs H.size vZ_players vZ_fill vZ_patience vZ_turn vZ_made vZ_out vZ_finishers vZ_thrown t1 _ hw) (cwV 1 hts gX7_isOut_X7_can rfl rfl rfl (by decide +kernel) ⟨Nat.le_of_ble_eq_true rfl, Nat.le_of_ble_eq_true rfl⟩) hN hK hP hD hS hA [0] [] [] ⟨rfl, rfl, rfl, rfl, rfl, by decide⟩ 0 rfl rfl rfl rfl hl.1 (Nat.le_of_ble_eq_true rfl) ⟨Nat.le_of_ble_eq_true rfl, Nat.le_of_ble_eq_true rfl⟩ dX7_isOut_15 (fun r_1 u H locs hw hP hD hS => ?_)
    obtain ⟨vZ_thrown_2, rfl⟩ : ∃ z, z = u := ⟨_, rfl⟩
    have hP : va_P D vwCl (cl_X7_isOut ad cs vZ_players vZ_fill vZ_patience vZ_turn vZ_made vZ_out vZ_finishers vZ_thrown_2) H := hP.sub [0] rfl
    have hD : va_D A (cl_X7_isOut ad cs vZ_players vZ_fill vZ_patience vZ_turn vZ_made vZ_out vZ_finishers vZ_thrown_2) := hD.sub [0] (by decide) rfl
    refine lv_if_eq (tgt := 37) hx hb dX7_isOut_18 (by decide) (fun c_3 => ?_) (fun c_3 => ?_)
    · have hw := hw.1 c_3
      refine lv_iconst (v := (0 : Int32)) hx hb dX7_isOut_37 (by decide) ?_
      exact hret _ _ _ _ _ _ nb_0 hw hP hD hS dX7_isOut_38
    · have hw := hw.2 c_3
      refine lv_aload_n hx hb dX7_isOut_21 rfl (lv_at hl 0 rfl) ?_
      refine va_get (D := D) (ci := 7) (v := .int vZ_out) (C := RX7) (T := TX7) (N := 27) hx hb hts inX7 hown hK hP 0 rfl rfl 12 (by decide) fl_106 (fun _ h9 => h9) rfl dX7_isOut_22 ?_
      refine lv_iload_n hx hb dX7_isOut_25 rfl (lv_at hl 1 rfl) ?_
      refine lv_ishr hx hb dX7_isOut_26 ?_
      refine lv_iconst (v := (1 : Int32)) hx hb dX7_isOut_27 (by decide) ?_
      refine lv_iand hx hb dX7_isOut_28 ?_
      refine lv_iconst (v := (1 : Int32)) hx hb dX7_isOut_29 (by decide) ?_
      refine lv_icmp_ne (tgt := 37) hx hb dX7_isOut_30 (by decide) (fun c_4 => ?_) (fun c_4 => ?_)
      · have hw := hw.1 c_4
        refine lv_iconst (v := (0 : Int32)) hx hb dX7_isOut_37 (by decide) ?_
        exact hret _ _ _ _ _ _ nb_0 hw hP hD hS dX7_isOut_38
      · have hw := hw.2 c_4
        refine lv_iconst (v := (1 : Int32)) hx hb dX7_isOut_33 (by decide) ?_
        refine lv_goto (tgt := 38) hx hb dX7_isOut_34 (by decide) ?_
        exact hret _ _ _ _ _ _ nb_1 hw hP hD hS dX7_isOut_38
  obtain ⟨H, hH⟩ : ∃ H : Heap, H = s.heap := ⟨_, rfl⟩
  have hS : va_S A s.heap H [] := by rw [hH]; exact va_S.rf
  rw [← hH] at hP ⊢
  unfold wp_X7_isOut at hw
  refine lv_aload_n hx hb dX7_isOut_0 rfl (lv_at hl 0 rfl) ?_
  refine lv_iload_n hx hb dX7_isOut_1 rfl (lv_at hl 1 rfl) ?_
  refine lv_iconst (v := (0 : Int32)) hx hb dX7_isOut_2 (by decide) ?_
  refine lv_iconst (v := (5 : Int32)) hx hb dX7_isOut_3 (by decide) ?_
  refine pcS (rest := [.ref (ad 28)]) S0 (c_X7_isIn l D ad cs H.size x1 (0 : Int32) (5 : Int32) _ hw) (va_cwS 3 hts gX7_isOut_X7_isIn rfl rfl rfl (by decide +kernel) ⟨Nat.le_of_ble_eq_true rfl, Nat.le_of_ble_eq_true rfl⟩) hN hK hP hD [] [] rfl rfl rfl rfl rfl hl.1 (Nat.le_of_ble_eq_true rfl) ⟨Nat.le_of_ble_eq_true rfl, Nat.le_of_ble_eq_true rfl⟩ dX7_isOut_4 (fun r_5 hw => ?_)
  refine lv_if_eq (tgt := 14) hx hb dX7_isOut_7 (by decide) (fun c_6 => ?_) (fun c_6 => ?_)
  · have hw := hw.1 c_6
    refine lv_iconst (v := (1 : Int32)) hx hb dX7_isOut_14 (by decide) ?_
    exact hJ15 vZ_thrown x1 (1 : Int32) hw _ _ _ hP hD hS (lv_sub hl [0, 1] rfl)
  · have hw := hw.2 c_6
    refine lv_iconst (v := (0 : Int32)) hx hb dX7_isOut_10 (by decide) ?_
    refine lv_goto (tgt := 15) hx hb dX7_isOut_11 (by decide) ?_
    exact hJ15 vZ_thrown x1 (0 : Int32) hw _ _ _ hP hD hS (lv_sub hl [0, 1] rfl)
set_option maxHeartbeats 4000000 in
set_option maxRecDepth 100000 in
theorem c_X7_isOut (l : Launch) (D : va_G) (ad : Nat → Nat) (cs : Nat → ClassId) (sz : Nat) (vZ_players vZ_fill vZ_patience vZ_turn vZ_made vZ_out vZ_finishers vZ_thrown x1 : Int32) (Q : Int32 → Int32 → Prop) (hw : wp_X7_isOut vZ_players vZ_fill vZ_patience vZ_turn vZ_made vZ_out vZ_finishers vZ_thrown x1 Q) :
  Met l yX7_isOut wsX7_isOut rm_X7_isOut (va_Pc [.ref (ad 28), .int x1] (PX D (cl_X7_isOut ad cs vZ_players vZ_fill vZ_patience vZ_turn vZ_made vZ_out vZ_finishers vZ_thrown) (ty_X7_isOut cs) sz)) (va_Qi (fun (r : Int32) (u : Int32) => Q r u) (fun (u : Int32) t => va_P D vwCl (cl_X7_isOut ad cs vZ_players vZ_fill vZ_patience vZ_turn vZ_made vZ_out vZ_finishers u) t.heap ∧ va_D (va_A (cl_X7_isOut ad cs vZ_players vZ_fill vZ_patience vZ_turn vZ_made vZ_out vZ_finishers vZ_thrown) sz) (cl_X7_isOut ad cs vZ_players vZ_fill vZ_patience vZ_turn vZ_made vZ_out vZ_finishers u)) (va_A (cl_X7_isOut ad cs vZ_players vZ_fill vZ_patience vZ_turn vZ_made vZ_out vZ_finishers vZ_thrown) sz)) 0 0 (va_A (cl_X7_isOut ad cs vZ_players vZ_fill vZ_patience vZ_turn vZ_made vZ_out vZ_finishers vZ_thrown) sz) := by
  refine Met.ofW (cc := cX7_isOut) (maxL := 2) (ret := (some .boolean)) (by decide) rfl ?_
  intro p e s m args below meth c s₁ B hml hv
  obtain ⟨rfl, hsz, hP, hK, hD0, hN⟩ := hv
  subst hsz
  have hl := lv_entry ([.ref (ad 28), .int x1]) (n := 2) (Nat.le_of_ble_eq_true rfl)
  rw [lg_entry_eq]
  have hx := B.exec
  have hb := B.bytes
  have hr := B.returns
  exact b_X7_isOut l D ad cs vZ_players vZ_fill vZ_patience vZ_turn vZ_made vZ_out vZ_finishers vZ_thrown x1 Q hx hb hml (findClass_of_methodNamed B.named) (atoms_spec (ws := wsX7_isOut) B.pre) hN hP hK hD0.self (fun q h => Or.inr h) hl (fun r o0 H locs pc ls hn hq hP hD hS hd => W.zret (v := r) hx hb hr hn (fun t ht hW => ⟨⟨r, o0, rfl, hq, by rw [ht]; exact hP, hD⟩, hS.F ht⟩) hS.2.2 hd) hw
abbrev rm_X7_wayOf : Room := { frames := 0, cells := 0, slots := 0, locals := 0 }
abbrev cl_X7_wayOf (ad : Nat → Nat) (cs : Nat → ClassId) (vZ_players vZ_fill vZ_patience vZ_turn vZ_made vZ_out vZ_finishers vZ_thrown : Int32) (vZ_far vZ_cells vZ_board vZ_cheapest vZ_marbles : Nat → Int32) : va_W := [((ad 28), .inr (7, [.ref (ad 29), .ref (ad 30), .ref (ad 31), .ref (ad 32), .ref (ad 33), .ref (ad 34), .int vZ_players, .int vZ_fill, .int vZ_patience, .ref (ad 35), .int vZ_turn, .int vZ_made, .int vZ_out, .ref (ad 36), .int vZ_finishers, .ref (ad 37), .ref (ad 38), .ref (ad 39), .ref (ad 40), .ref (ad 41), .ref (ad 42), .ref (ad 43), .ref (ad 44), .ref (ad 45), .ref (ad 46), .ref (ad 47), .int vZ_thrown])), ((ad 33), .inl ((cs 33), 14641, .inl vZ_far)), ((ad 34), .inl ((cs 34), 60, .inl vZ_cells)), ((ad 35), .inl ((cs 35), 121, .inl vZ_board)), ((ad 46), .inl ((cs 46), 1024, .inl vZ_cheapest)), ((ad 47), .inl ((cs 47), 10, .inl vZ_marbles))]
abbrev ty_X7_wayOf (cs : Nat → ClassId) : List (ClassId × FieldType) := [((cs 33), .int), ((cs 34), .int), ((cs 35), .int), ((cs 46), .int), ((cs 47), .int)]
def wb_X7_wayOf_4 (vZ_board : Nat → Int32) (x1 : Int32) (K4 : (Nat → Int32) → Prop) (P4 : (Nat → Int32) → Int32 → Int32 → Prop) (vZ_marbles : Nat → Int32) (x2 x3 : Int32) : Prop :=
 (((121 : Int32) ≤ x3 → K4 vZ_marbles) ∧
 (¬ (121 : Int32) ≤ x3 → (vp_in x3 121 ∧
 ((¬ (vZ_board x3.toNatClampNeg) = x1 → P4 vZ_marbles x2 (x3 + (1 : Int32))) ∧
 ((vZ_board x3.toNatClampNeg) = x1 → (vp_in x2 10 ∧
 P4 (upd vZ_marbles x2.toNatClampNeg x3) (x2 + (1 : Int32)) (x3 + (1 : Int32))))))))
def wl_X7_wayOf_4 (vZ_board : Nat → Int32) (x1 : Int32) (K4 : (Nat → Int32) → Prop) (vZ_marbles : Nat → Int32) (x2 x3 : Int32) : Prop := ∀ P4 : (Nat → Int32) → Int32 → Int32 → Prop, (∀ (vZ_marbles : Nat → Int32) (x2 x3 : Int32), wb_X7_wayOf_4 vZ_board x1 K4 P4 vZ_marbles x2 x3 → P4 vZ_marbles x2 x3) → P4 vZ_marbles x2 x3
def wb_X7_wayOf_70 (x4 : Int32) (K70 : Int32 → Prop) (P70 : Int32 → Int32 → Prop) (x5 x6 : Int32) : Prop :=
 (((10 : Int32) ≤ x6 → K70 x5) ∧
 (¬ (10 : Int32) ≤ x6 → P70 (x5 + ((x4 >>> (x6 &&& 31)) &&& (1 : Int32))) (x6 + (1 : Int32))))
def wl_X7_wayOf_70 (x4 : Int32) (K70 : Int32 → Prop) (x5 x6 : Int32) : Prop := ∀ P70 : Int32 → Int32 → Prop, (∀ (x5 x6 : Int32), wb_X7_wayOf_70 x4 K70 P70 x5 x6 → P70 x5 x6) → P70 x5 x6
def wJ_X7_wayOf_200 (vZ_cheapest : Nat → Int32) (x6 t1 t2 : Int32) (P107 : (Nat → Int32) → Int32 → Prop) : Prop :=
 (vp_in t1 1024 ∧
 P107 (upd vZ_cheapest t1.toNatClampNeg t2) (x6 + (1 : Int32)))
def wJ_X7_wayOf_168 (vZ_cheapest : Nat → Int32) (x4 x6 t0 : Int32) (P107 : (Nat → Int32) → Int32 → Prop) : Prop :=
 (vp_in x4 1024 ∧
 (((vZ_cheapest x4.toNatClampNeg) ≤ t0 → (vp_in x4 1024 ∧
 wJ_X7_wayOf_200 vZ_cheapest x6 x4 (vZ_cheapest x4.toNatClampNeg) P107)) ∧
 (¬ (vZ_cheapest x4.toNatClampNeg) ≤ t0 → wJ_X7_wayOf_200 vZ_cheapest x6 x4 t0 P107)))
def wb_X7_wayOf_107 (vZ_far vZ_cells vZ_marbles : Nat → Int32) (x3 x4 x5 : Int32) (K107 : (Nat → Int32) → Prop) (P107 : (Nat → Int32) → Int32 → Prop) (vZ_cheapest : Nat → Int32) (x6 : Int32) : Prop :=
 (((10 : Int32) ≤ x6 → K107 vZ_cheapest) ∧
 (¬ (10 : Int32) ≤ x6 → ((¬ ((x4 >>> (x6 &&& 31)) &&& (1 : Int32)) = (1 : Int32) → wJ_X7_wayOf_168 vZ_cheapest x4 x6 (1000000 : Int32) P107) ∧
 (((x4 >>> (x6 &&& 31)) &&& (1 : Int32)) = (1 : Int32) → (vp_in (x4 ^^^ ((1 : Int32) <<< (x6 &&& 31))) 1024 ∧
 (vp_in x5 10 ∧
 (vp_in (x3 + x6) 60 ∧
 (vp_in (((121 : Int32) * (vZ_marbles x5.toNatClampNeg)) + (vZ_cells (x3 + x6).toNatClampNeg)) 14641 ∧
 wJ_X7_wayOf_168 vZ_cheapest x4 x6 ((vZ_cheapest (x4 ^^^ ((1 : Int32) <<< (x6 &&& 31))).toNatClampNeg) + (vZ_far (((121 : Int32) * (vZ_marbles x5.toNatClampNeg)) + (vZ_cells (x3 + x6).toNatClampNeg)).toNatClampNeg)) P107))))))))
def wl_X7_wayOf_107 (vZ_far vZ_cells vZ_marbles : Nat → Int32) (x3 x4 x5 : Int32) (K107 : (Nat → Int32) → Prop) (vZ_cheapest : Nat → Int32) (x6 : Int32) : Prop := ∀ P107 : (Nat → Int32) → Int32 → Prop, (∀ (vZ_cheapest : Nat → Int32) (x6 : Int32), wb_X7_wayOf_107 vZ_far vZ_cells vZ_marbles x3 x4 x5 K107 P107 vZ_cheapest x6 → P107 vZ_cheapest x6) → P107 vZ_cheapest x6
def wb_X7_wayOf_56 (vZ_far vZ_cells vZ_marbles : Nat → Int32) (x3 : Int32) (K56 : (Nat → Int32) → Prop) (P56 : (Nat → Int32) → Int32 → Prop) (vZ_cheapest : Nat → Int32) (x4 : Int32) : Prop :=
 (((1024 : Int32) ≤ x4 → K56 vZ_cheapest) ∧
 (¬ (1024 : Int32) ≤ x4 → wl_X7_wayOf_70 x4 (fun x5_17 => (vp_in x4 1024 ∧
 wl_X7_wayOf_107 vZ_far vZ_cells vZ_marbles x3 x4 x5_17 (fun vZ_cheapest_19 => P56 vZ_cheapest_19 (x4 + (1 : Int32))) (upd vZ_cheapest x4.toNatClampNeg (1000000 : Int32)) (0 : Int32))) (-1 : Int32) (0 : Int32)))
def wl_X7_wayOf_56 (vZ_far vZ_cells vZ_marbles : Nat → Int32) (x3 : Int32) (K56 : (Nat → Int32) → Prop) (vZ_cheapest : Nat → Int32) (x4 : Int32) : Prop := ∀ P56 : (Nat → Int32) → Int32 → Prop, (∀ (vZ_cheapest : Nat → Int32) (x4 : Int32), wb_X7_wayOf_56 vZ_far vZ_cells vZ_marbles x3 K56 P56 vZ_cheapest x4 → P56 vZ_cheapest x4) → P56 vZ_cheapest x4
def wp_X7_wayOf (vZ_players vZ_fill vZ_patience vZ_turn vZ_made vZ_out vZ_finishers vZ_thrown : Int32) (vZ_far vZ_cells vZ_board vZ_cheapest vZ_marbles : Nat → Int32) (x1 : Int32) (Q : Int32 → (Nat → Int32) → (Nat → Int32) → Prop) : Prop :=
 wl_X7_wayOf_4 vZ_board x1 (fun vZ_marbles_20 => (vp_in (0 : Int32) 1024 ∧
 wl_X7_wayOf_56 vZ_far vZ_cells vZ_marbles_20 ((10 : Int32) * ((x1 + (3 : Int32)) - (x1 + (3 : Int32)) / (6 : Int32) * (6 : Int32))) (fun vZ_cheapest_22 => (vp_in (1023 : Int32) 1024 ∧
 Q (vZ_cheapest_22 (1023 : Int32).toNatClampNeg) vZ_cheapest_22 vZ_marbles_20)) (upd vZ_cheapest (0 : Int32).toNatClampNeg (0 : Int32)) (1 : Int32))) vZ_marbles (0 : Int32) (0 : Int32)
set_option maxHeartbeats 4000000 in
set_option maxRecDepth 100000 in
theorem b_X7_wayOf {p : Program} {e : Env} {s : State} {m : MethodId} {args : Array Value} {below : List Frame} {meth : Method} {c : Code} {QQ : State → Prop} {A : Nat → Prop} {ls : Array Slot} (l : Launch) (D : va_G) (ad : Nat → Nat) (cs : Nat → ClassId) (vZ_players vZ_fill vZ_patience vZ_turn vZ_made vZ_out vZ_finishers vZ_thrown : Int32) (vZ_far vZ_cells vZ_board vZ_cheapest vZ_marbles : Nat → Int32) (x1 : Int32) (Q : Int32 → (Nat → Int32) → (Nat → Int32) → Prop) (hx : p.tables.exec = Jvm.exec) (hb : c.code = cX7_wayOf) (hml : c.maxLocals = 8) (hown : s.vm.findClass RX7 = some m.cls) (hts : ∀ w ∈ wsX7_wayOf, w.before args s = true) (hN : NW s) (hP : va_P D vwCl (cl_X7_wayOf ad cs vZ_players vZ_fill vZ_patience vZ_turn vZ_made vZ_out vZ_finishers vZ_thrown vZ_far vZ_cells vZ_board vZ_cheapest vZ_marbles) s.heap) (hK : va_K D vwCl (ty_X7_wayOf cs) s) (hD : va_D A (cl_X7_wayOf ad cs vZ_players vZ_fill vZ_patience vZ_turn vZ_made vZ_out vZ_finishers vZ_thrown vZ_far vZ_cells vZ_board vZ_cheapest vZ_marbles)) (hA : ∀ q : Nat, s.heap.size ≤ q → A q) (hl : lv_has ls 8 [(0, .ref (ad 28)), (1, .int x1)])
  (hret : ∀ (r : Int32) (o0 : Nat → Int32) (o1 : Nat → Int32) (H : Heap) (locs : List Loc) (pc : Nat) (ls : Array Slot), Q r o0 o1 → va_P D vwCl (cl_X7_wayOf ad cs vZ_players vZ_fill vZ_patience vZ_turn vZ_made vZ_out vZ_finishers vZ_thrown vZ_far vZ_cells vZ_board o0 o1) H → va_D A (cl_X7_wayOf ad cs vZ_players vZ_fill vZ_patience vZ_turn vZ_made vZ_out vZ_finishers vZ_thrown vZ_far vZ_cells vZ_board o0 o1) → va_S A s.heap H locs → decode cX7_wayOf pc = .ok (.ireturn, 1) → W p l e rm_X7_wayOf s m args below meth c H locs 0 0 QQ (F0 m pc ls [.int r]))
  (hw : wp_X7_wayOf vZ_players vZ_fill vZ_patience vZ_turn vZ_made vZ_out vZ_finishers vZ_thrown vZ_far vZ_cells vZ_board vZ_cheapest vZ_marbles x1 Q) :
  W p l e rm_X7_wayOf s m args below meth c s.heap [] 0 0 QQ (F0 m 0 ls []) := by
  have S0 : CallFix p m c cX7_wayOf 8 s args wsX7_wayOf RX7 := ⟨hx, hb, hml, hown, hts⟩
  have inX7 : ∀ w ∈ u_ws RX7 TX7 27, w ∈ wsX7_wayOf := by decide +kernel
  have fl_22 := hts (.fieldLink RX7 22 "HopperCourtModel" "far" "[I") (by decide +kernel)
  have fl_25 := hts (.fieldLink RX7 25 "HopperCourtModel" "cells" "[I") (by decide +kernel)
  have fl_32 := hts (.fieldLink RX7 32 "HopperCourtModel" "board" "[I") (by decide +kernel)
  have fl_66 := hts (.fieldLink RX7 66 "HopperCourtModel" "cheapest" "[I") (by decide +kernel)
  have fl_69 := hts (.fieldLink RX7 69 "HopperCourtModel" "marbles" "[I") (by decide +kernel)
  have hL4 : ∀ (x1 : Int32) (K4 : (Nat → Int32) → Prop) (vZ_marbles : Nat → Int32) (x2 x3 : Int32) (vZ_cheapest : Nat → Int32), wl_X7_wayOf_4 vZ_board x1 K4 vZ_marbles x2 x3 → (∀ (vZ_marbles : Nat → Int32), K4 vZ_marbles → ∀ (H : Heap) (locs : List Loc) (ls : Array Slot), va_P D vwCl (cl_X7_wayOf ad cs vZ_players vZ_fill vZ_patience vZ_turn vZ_made vZ_out vZ_finishers vZ_thrown vZ_far vZ_cells vZ_board vZ_cheapest vZ_marbles) H → va_D A (cl_X7_wayOf ad cs vZ_players vZ_fill vZ_patience vZ_turn vZ_made vZ_out vZ_finishers vZ_thrown vZ_far vZ_cells vZ_board vZ_cheapest vZ_marbles) → va_S A s.heap H locs → lv_has ls 8 [(0, .ref (ad 28)), (1, .int x1)] → W p l e rm_X7_wayOf s m args below meth c H locs 0 0 QQ (F0 m 36 ls [])) → ∀ (H : Heap) (locs : List Loc) (ls : Array Slot), va_P D vwCl (cl_X7_wayOf ad cs vZ_players vZ_fill vZ_patience vZ_turn vZ_made vZ_out vZ_finishers vZ_thrown vZ_far vZ_cells vZ_board vZ_cheapest vZ_marbles) H → va_D A (cl_X7_wayOf ad cs vZ_players vZ_fill vZ_patience vZ_turn vZ_made vZ_out vZ_finishers vZ_thrown vZ_far vZ_cells vZ_board vZ_cheapest vZ_marbles) → va_S A s.heap H locs → lv_has ls 8 [(0, .ref (ad 28)), (1, .int x1), (2, .int x2), (3, .int x3)] → W p l e rm_X7_wayOf s m args below meth c H locs 0 0 QQ (F0 m 4 ls []) := by
    intro x1 K4 vZ_marbles x2 x3 vZ_cheapest hw hK4
    unfold wl_X7_wayOf_4 at hw
    refine hw (fun (vZ_marbles : Nat → Int32) (x2 x3 : Int32) => ∀ (H : Heap) (locs : List Loc) (ls : Array Slot), va_P D vwCl (cl_X7_wayOf ad cs vZ_players vZ_fill vZ_patience vZ_turn vZ_made vZ_out vZ_finishers vZ_thrown vZ_far vZ_cells vZ_board vZ_cheapest vZ_marbles) H → va_D A (cl_X7_wayOf ad cs vZ_players vZ_fill vZ_patience vZ_turn vZ_made vZ_out vZ_finishers vZ_thrown vZ_far vZ_cells vZ_board vZ_cheapest vZ_marbles) → va_S A s.heap H locs → lv_has ls 8 [(0, .ref (ad 28)), (1, .int x1), (2, .int x2), (3, .int x3)] → W p l e rm_X7_wayOf s m args below meth c H locs 0 0 QQ (F0 m 4 ls [])) ?_
    intro vZ_marbles x2 x3 hw H locs ls hP hD hS hl
    unfold wb_X7_wayOf_4 at hw
    refine lv_iload_n hx hb dX7_wayOf_4 rfl (lv_at hl 3 rfl) ?_
    refine lv_bipush (v := (121 : Int32)) hx hb dX7_wayOf_5 (by decide) ?_
    refine lv_icmp_ge (tgt := 36) hx hb dX7_wayOf_7 (by decide) (fun c_1 => ?_) (fun c_1 => ?_)
    · have hw := hw.1 c_1
      exact hK4 vZ_marbles hw _ _ _ hP hD hS (lv_sub hl [0, 1] rfl)
    · have hw := hw.2 c_1
      refine lv_aload_n hx hb dX7_wayOf_10 rfl (lv_at hl 0 rfl) ?_
      refine va_get (D := D) (ci := 7) (v := .ref (ad 35)) (C := RX7) (T := TX7) (N := 27) hx hb hts inX7 hown hK hP 0 rfl rfl 9 (by decide) fl_32 (fun _ h9 => h9) rfl dX7_wayOf_11 ?_
      refine lv_iload_n hx hb dX7_wayOf_14 rfl (lv_at hl 3 rfl) ?_
      obtain ⟨h_2, hw⟩ := hw
      refine va_iald hx hb hK hP 3 2 rfl rfl h_2 dX7_wayOf_15 ?_
      refine lv_iload_n hx hb dX7_wayOf_16 rfl (lv_at hl 1 rfl) ?_
      refine lv_icmp_ne (tgt := 30) hx hb dX7_wayOf_17 (by decide) (fun c_3 => ?_) (fun c_3 => ?_)
      · have hw := hw.1 c_3
        refine lv_iinc (v := (x3 + (1 : Int32))) (lv' := [(3, .int (x3 + (1 : Int32))), (0, .ref (ad 28)), (1, .int x1), (2, .int x2)]) hx hb dX7_wayOf_30 hl (k := 3) rfl rfl (by decide) rfl (fun ls hl => ?_)
        refine lv_goto (tgt := 4) hx hb dX7_wayOf_33 (by decide) ?_
        exact hw _ _ _ hP hD hS (lv_sub hl [1, 2, 3, 0] rfl)
      · have hw := hw.2 c_3
        refine lv_aload_n hx hb dX7_wayOf_20 rfl (lv_at hl 0 rfl) ?_
        refine va_get (D := D) (ci := 7) (v := .ref (ad 47)) (C := RX7) (T := TX7) (N := 27) hx hb hts inX7 hown hK hP 0 rfl rfl 25 (by decide) fl_69 (fun _ h9 => h9) rfl dX7_wayOf_21 ?_
        refine lv_iload_n hx hb dX7_wayOf_24 rfl (lv_at hl 2 rfl) ?_
        refine lv_iload_n hx hb dX7_wayOf_25 rfl (lv_at hl 3 rfl) ?_
        obtain ⟨h_4, hw⟩ := hw
        refine va_iast hx hb hK hP hD hS 5 4 rfl rfl h_4 dX7_wayOf_26 (fun H locs hP hD hS => ?_)
        have hP : va_P D vwCl (cl_X7_wayOf ad cs vZ_players vZ_fill vZ_patience vZ_turn vZ_made vZ_out vZ_finishers vZ_thrown vZ_far vZ_cells vZ_board vZ_cheapest (upd vZ_marbles x2.toNatClampNeg x3)) H := hP
        have hD : va_D A (cl_X7_wayOf ad cs vZ_players vZ_fill vZ_patience vZ_turn vZ_made vZ_out vZ_finishers vZ_thrown vZ_far vZ_cells vZ_board vZ_cheapest (upd vZ_marbles x2.toNatClampNeg x3)) := hD
        refine lv_iinc (v := (x2 + (1 : Int32))) (lv' := [(2, .int (x2 + (1 : Int32))), (0, .ref (ad 28)), (1, .int x1), (3, .int x3)]) hx hb dX7_wayOf_27 hl (k := 2) rfl rfl (by decide) rfl (fun ls hl => ?_)
        refine lv_iinc (v := (x3 + (1 : Int32))) (lv' := [(3, .int (x3 + (1 : Int32))), (2, .int (x2 + (1 : Int32))), (0, .ref (ad 28)), (1, .int x1)]) hx hb dX7_wayOf_30 hl (k := 3) rfl rfl (by decide) rfl (fun ls hl => ?_)
        refine lv_goto (tgt := 4) hx hb dX7_wayOf_33 (by decide) ?_
        exact hw _ _ _ hP hD hS (lv_sub hl [2, 3, 1, 0] rfl)
  have hL70 : ∀ (x4 : Int32) (K70 : Int32 → Prop) (x5 x6 : Int32) (vZ_cheapest vZ_marbles : Nat → Int32) (x3 : Int32), wl_X7_wayOf_70 x4 K70 x5 x6 → (∀ (x5 : Int32), K70 x5 → ∀ (H : Heap) (locs : List Loc) (ls : Array Slot), va_P D vwCl (cl_X7_wayOf ad cs vZ_players vZ_fill vZ_patience vZ_turn vZ_made vZ_out vZ_finishers vZ_thrown vZ_far vZ_cells vZ_board vZ_cheapest vZ_marbles) H → va_D A (cl_X7_wayOf ad cs vZ_players vZ_fill vZ_patience vZ_turn vZ_made vZ_out vZ_finishers vZ_thrown vZ_far vZ_cells vZ_board vZ_cheapest vZ_marbles) → va_S A s.heap H locs → lv_has ls 8 [(0, .ref (ad 28)), (3, .int x3), (4, .int x4), (5, .int x5)] → W p l e rm_X7_wayOf s m args below meth c H locs 0 0 QQ (F0 m 95 ls [])) → ∀ (H : Heap) (locs : List Loc) (ls : Array Slot), va_P D vwCl (cl_X7_wayOf ad cs vZ_players vZ_fill vZ_patience vZ_turn vZ_made vZ_out vZ_finishers vZ_thrown vZ_far vZ_cells vZ_board vZ_cheapest vZ_marbles) H → va_D A (cl_X7_wayOf ad cs vZ_players vZ_fill vZ_patience vZ_turn vZ_made vZ_out vZ_finishers vZ_thrown vZ_far vZ_cells vZ_board vZ_cheapest vZ_marbles) → va_S A s.heap H locs → lv_has ls 8 [(0, .ref (ad 28)), (3, .int x3), (4, .int x4), (5, .int x5), (6, .int x6)] → W p l e rm_X7_wayOf s m args below meth c H locs 0 0 QQ (F0 m 70 ls []) := by
    intro x4 K70 x5 x6 vZ_cheapest vZ_marbles x3 hw hK70
    unfold wl_X7_wayOf_70 at hw
    refine hw (fun (x5 x6 : Int32) => ∀ (H : Heap) (locs : List Loc) (ls : Array Slot), va_P D vwCl (cl_X7_wayOf ad cs vZ_players vZ_fill vZ_patience vZ_turn vZ_made vZ_out vZ_finishers vZ_thrown vZ_far vZ_cells vZ_board vZ_cheapest vZ_marbles) H → va_D A (cl_X7_wayOf ad cs vZ_players vZ_fill vZ_patience vZ_turn vZ_made vZ_out vZ_finishers vZ_thrown vZ_far vZ_cells vZ_board vZ_cheapest vZ_marbles) → va_S A s.heap H locs → lv_has ls 8 [(0, .ref (ad 28)), (3, .int x3), (4, .int x4), (5, .int x5), (6, .int x6)] → W p l e rm_X7_wayOf s m args below meth c H locs 0 0 QQ (F0 m 70 ls [])) ?_
    intro x5 x6 hw H locs ls hP hD hS hl
    unfold wb_X7_wayOf_70 at hw
    refine lv_iload hx hb dX7_wayOf_70 (lv_at hl 4 rfl) ?_
    refine lv_bipush (v := (10 : Int32)) hx hb dX7_wayOf_72 (by decide) ?_
    refine lv_icmp_ge (tgt := 95) hx hb dX7_wayOf_74 (by decide) (fun c_5 => ?_) (fun c_5 => ?_)
    · have hw := hw.1 c_5
      exact hK70 x5 hw _ _ _ hP hD hS (lv_sub hl [0, 1, 2, 3] rfl)
    · have hw := hw.2 c_5
      refine lv_iload hx hb dX7_wayOf_77 (lv_at hl 3 rfl) ?_
      refine lv_iload hx hb dX7_wayOf_79 (lv_at hl 2 rfl) ?_
      refine lv_iload hx hb dX7_wayOf_81 (lv_at hl 4 rfl) ?_
      refine lv_ishr hx hb dX7_wayOf_83 ?_
      refine lv_iconst (v := (1 : Int32)) hx hb dX7_wayOf_84 (by decide) ?_
      refine lv_iand hx hb dX7_wayOf_85 ?_
      refine lv_iadd hx hb dX7_wayOf_86 ?_
      refine lv_istore (lv' := [(5, .int (x5 + ((x4 >>> (x6 &&& 31)) &&& (1 : Int32)))), (0, .ref (ad 28)), (3, .int x3), (4, .int x4), (6, .int x6)]) hx hb dX7_wayOf_87 hl (by decide) rfl (fun ls hl => ?_)
      refine lv_iinc (v := (x6 + (1 : Int32))) (lv' := [(6, .int (x6 + (1 : Int32))), (5, .int (x5 + ((x4 >>> (x6 &&& 31)) &&& (1 : Int32)))), (0, .ref (ad 28)), (3, .int x3), (4, .int x4)]) hx hb dX7_wayOf_89 hl (k := 4) rfl rfl (by decide) rfl (fun ls hl => ?_)
      refine lv_goto (tgt := 70) hx hb dX7_wayOf_92 (by decide) ?_
      exact hw _ _ _ hP hD hS (lv_sub hl [2, 3, 4, 1, 0] rfl)
  have hJ200 : ∀ (vZ_cheapest : Nat → Int32) (x6 t1 t2 : Int32) (P107 : (Nat → Int32) → Int32 → Prop) (vZ_marbles : Nat → Int32) (x3 x4 x5 : Int32), wJ_X7_wayOf_200 vZ_cheapest x6 t1 t2 P107 → (∀ (vZ_cheapest : Nat → Int32) (x6 : Int32), P107 vZ_cheapest x6 → ∀ (H : Heap) (locs : List Loc) (ls : Array Slot), va_P D vwCl (cl_X7_wayOf ad cs vZ_players vZ_fill vZ_patience vZ_turn vZ_made vZ_out vZ_finishers vZ_thrown vZ_far vZ_cells vZ_board vZ_cheapest vZ_marbles) H → va_D A (cl_X7_wayOf ad cs vZ_players vZ_fill vZ_patience vZ_turn vZ_made vZ_out vZ_finishers vZ_thrown vZ_far vZ_cells vZ_board vZ_cheapest vZ_marbles) → va_S A s.heap H locs → lv_has ls 8 [(0, .ref (ad 28)), (3, .int x3), (4, .int x4), (5, .int x5), (6, .int x6)] → W p l e rm_X7_wayOf s m args below meth c H locs 0 0 QQ (F0 m 107 ls [])) → ∀ (H : Heap) (locs : List Loc) (ls : Array Slot), va_P D vwCl (cl_X7_wayOf ad cs vZ_players vZ_fill vZ_patience vZ_turn vZ_made vZ_out vZ_finishers vZ_thrown vZ_far vZ_cells vZ_board vZ_cheapest vZ_marbles) H → va_D A (cl_X7_wayOf ad cs vZ_players vZ_fill vZ_patience vZ_turn vZ_made vZ_out vZ_finishers vZ_thrown vZ_far vZ_cells vZ_board vZ_cheapest vZ_marbles) → va_S A s.heap H locs → lv_has ls 8 [(0, .ref (ad 28)), (3, .int x3), (4, .int x4), (5, .int x5), (6, .int x6)] → W p l e rm_X7_wayOf s m args below meth c H locs 0 0 QQ (F0 m 200 ls [.int t2, .int t1, .ref (ad 46)]) := by
    intro vZ_cheapest x6 t1 t2 P107 vZ_marbles x3 x4 x5 hw hB107 H locs ls hP hD hS hl
    unfold wJ_X7_wayOf_200 at hw
    obtain ⟨h_6, hw⟩ := hw
    refine va_iast hx hb hK hP hD hS 4 3 rfl rfl h_6 dX7_wayOf_200 (fun H locs hP hD hS => ?_)
    have hP : va_P D vwCl (cl_X7_wayOf ad cs vZ_players vZ_fill vZ_patience vZ_turn vZ_made vZ_out vZ_finishers vZ_thrown vZ_far vZ_cells vZ_board (upd vZ_cheapest t1.toNatClampNeg t2) vZ_marbles) H := hP
    have hD : va_D A (cl_X7_wayOf ad cs vZ_players vZ_fill vZ_patience vZ_turn vZ_made vZ_out vZ_finishers vZ_thrown vZ_far vZ_cells vZ_board (upd vZ_cheapest t1.toNatClampNeg t2) vZ_marbles) := hD
    refine lv_iinc (v := (x6 + (1 : Int32))) (lv' := [(6, .int (x6 + (1 : Int32))), (0, .ref (ad 28)), (3, .int x3), (4, .int x4), (5, .int x5)]) hx hb dX7_wayOf_201 hl (k := 4) rfl rfl (by decide) rfl (fun ls hl => ?_)
    refine lv_goto (tgt := 107) hx hb dX7_wayOf_204 (by decide) ?_
    exact hB107 (upd vZ_cheapest t1.toNatClampNeg t2) (x6 + (1 : Int32)) hw _ _ _ hP hD hS (lv_sub hl [1, 2, 3, 4, 0] rfl)
  have hJ168 : ∀ (vZ_cheapest : Nat → Int32) (x4 x6 t0 : Int32) (P107 : (Nat → Int32) → Int32 → Prop) (vZ_marbles : Nat → Int32) (x3 x5 : Int32), wJ_X7_wayOf_168 vZ_cheapest x4 x6 t0 P107 → (∀ (vZ_cheapest : Nat → Int32) (x6 : Int32), P107 vZ_cheapest x6 → ∀ (H : Heap) (locs : List Loc) (ls : Array Slot), va_P D vwCl (cl_X7_wayOf ad cs vZ_players vZ_fill vZ_patience vZ_turn vZ_made vZ_out vZ_finishers vZ_thrown vZ_far vZ_cells vZ_board vZ_cheapest vZ_marbles) H → va_D A (cl_X7_wayOf ad cs vZ_players vZ_fill vZ_patience vZ_turn vZ_made vZ_out vZ_finishers vZ_thrown vZ_far vZ_cells vZ_board vZ_cheapest vZ_marbles) → va_S A s.heap H locs → lv_has ls 8 [(0, .ref (ad 28)), (3, .int x3), (4, .int x4), (5, .int x5), (6, .int x6)] → W p l e rm_X7_wayOf s m args below meth c H locs 0 0 QQ (F0 m 107 ls [])) → ∀ (H : Heap) (locs : List Loc) (ls : Array Slot), va_P D vwCl (cl_X7_wayOf ad cs vZ_players vZ_fill vZ_patience vZ_turn vZ_made vZ_out vZ_finishers vZ_thrown vZ_far vZ_cells vZ_board vZ_cheapest vZ_marbles) H → va_D A (cl_X7_wayOf ad cs vZ_players vZ_fill vZ_patience vZ_turn vZ_made vZ_out vZ_finishers vZ_thrown vZ_far vZ_cells vZ_board vZ_cheapest vZ_marbles) → va_S A s.heap H locs → lv_has ls 8 [(0, .ref (ad 28)), (3, .int x3), (4, .int x4), (5, .int x5), (6, .int x6)] → W p l e rm_X7_wayOf s m args below meth c H locs 0 0 QQ (F0 m 168 ls [.int t0]) := by
    intro vZ_cheapest x4 x6 t0 P107 vZ_marbles x3 x5 hw hB107 H locs ls hP hD hS hl
    unfold wJ_X7_wayOf_168 at hw
    refine lv_istore (lv' := [(7, .int t0), (0, .ref (ad 28)), (3, .int x3), (4, .int x4), (5, .int x5), (6, .int x6)]) hx hb dX7_wayOf_168 hl (by decide) rfl (fun ls hl => ?_)
    refine lv_aload_n hx hb dX7_wayOf_170 rfl (lv_at hl 1 rfl) ?_
    refine va_get (D := D) (ci := 7) (v := .ref (ad 46)) (C := RX7) (T := TX7) (N := 27) hx hb hts inX7 hown hK hP 0 rfl rfl 24 (by decide) fl_66 (fun _ h9 => h9) rfl dX7_wayOf_171 ?_
    refine lv_iload hx hb dX7_wayOf_174 (lv_at hl 3 rfl) ?_
    refine lv_iload hx hb dX7_wayOf_176 (lv_at hl 0 rfl) ?_
    refine lv_aload_n hx hb dX7_wayOf_178 rfl (lv_at hl 1 rfl) ?_
    refine va_get (D := D) (ci := 7) (v := .ref (ad 46)) (C := RX7) (T := TX7) (N := 27) hx hb hts inX7 hown hK hP 0 rfl rfl 24 (by decide) fl_66 (fun _ h9 => h9) rfl dX7_wayOf_179 ?_
    refine lv_iload hx hb dX7_wayOf_182 (lv_at hl 3 rfl) ?_
    obtain ⟨h_7, hw⟩ := hw
    refine va_iald hx hb hK hP 4 3 rfl rfl h_7 dX7_wayOf_184 ?_
    refine lv_icmp_ge (tgt := 193) hx hb dX7_wayOf_185 (by decide) (fun c_8 => ?_) (fun c_8 => ?_)
    · have hw := hw.1 c_8
      refine lv_aload_n hx hb dX7_wayOf_193 rfl (lv_at hl 1 rfl) ?_
      refine va_get (D := D) (ci := 7) (v := .ref (ad 46)) (C := RX7) (T := TX7) (N := 27) hx hb hts inX7 hown hK hP 0 rfl rfl 24 (by decide) fl_66 (fun _ h9 => h9) rfl dX7_wayOf_194 ?_
      refine lv_iload hx hb dX7_wayOf_197 (lv_at hl 3 rfl) ?_
      obtain ⟨h_9, hw⟩ := hw
      refine va_iald hx hb hK hP 4 3 rfl rfl h_9 dX7_wayOf_199 ?_
      exact hJ200 vZ_cheapest x6 x4 (vZ_cheapest x4.toNatClampNeg) _ _ _ _ _ hw hB107 _ _ _ hP hD hS (lv_sub hl [1, 2, 3, 4, 5] rfl)
    · have hw := hw.2 c_8
      refine lv_iload hx hb dX7_wayOf_188 (lv_at hl 0 rfl) ?_
      refine lv_goto (tgt := 200) hx hb dX7_wayOf_190 (by decide) ?_
      exact hJ200 vZ_cheapest x6 x4 t0 _ _ _ _ _ hw hB107 _ _ _ hP hD hS (lv_sub hl [1, 2, 3, 4, 5] rfl)
  have hL107 : ∀ (vZ_marbles : Nat → Int32) (x3 x4 x5 : Int32) (K107 : (Nat → Int32) → Prop) (vZ_cheapest : Nat → Int32) (x6 : Int32), wl_X7_wayOf_107 vZ_far vZ_cells vZ_marbles x3 x4 x5 K107 vZ_cheapest x6 → (∀ (vZ_cheapest : Nat → Int32), K107 vZ_cheapest → ∀ (H : Heap) (locs : List Loc) (ls : Array Slot), va_P D vwCl (cl_X7_wayOf ad cs vZ_players vZ_fill vZ_patience vZ_turn vZ_made vZ_out vZ_finishers vZ_thrown vZ_far vZ_cells vZ_board vZ_cheapest vZ_marbles) H → va_D A (cl_X7_wayOf ad cs vZ_players vZ_fill vZ_patience vZ_turn vZ_made vZ_out vZ_finishers vZ_thrown vZ_far vZ_cells vZ_board vZ_cheapest vZ_marbles) → va_S A s.heap H locs → lv_has ls 8 [(0, .ref (ad 28)), (3, .int x3), (4, .int x4)] → W p l e rm_X7_wayOf s m args below meth c H locs 0 0 QQ (F0 m 207 ls [])) → ∀ (H : Heap) (locs : List Loc) (ls : Array Slot), va_P D vwCl (cl_X7_wayOf ad cs vZ_players vZ_fill vZ_patience vZ_turn vZ_made vZ_out vZ_finishers vZ_thrown vZ_far vZ_cells vZ_board vZ_cheapest vZ_marbles) H → va_D A (cl_X7_wayOf ad cs vZ_players vZ_fill vZ_patience vZ_turn vZ_made vZ_out vZ_finishers vZ_thrown vZ_far vZ_cells vZ_board vZ_cheapest vZ_marbles) → va_S A s.heap H locs → lv_has ls 8 [(0, .ref (ad 28)), (3, .int x3), (4, .int x4), (5, .int x5), (6, .int x6)] → W p l e rm_X7_wayOf s m args below meth c H locs 0 0 QQ (F0 m 107 ls []) := by
    intro vZ_marbles x3 x4 x5 K107 vZ_cheapest x6 hw hK107
    unfold wl_X7_wayOf_107 at hw
    refine hw (fun (vZ_cheapest : Nat → Int32) (x6 : Int32) => ∀ (H : Heap) (locs : List Loc) (ls : Array Slot), va_P D vwCl (cl_X7_wayOf ad cs vZ_players vZ_fill vZ_patience vZ_turn vZ_made vZ_out vZ_finishers vZ_thrown vZ_far vZ_cells vZ_board vZ_cheapest vZ_marbles) H → va_D A (cl_X7_wayOf ad cs vZ_players vZ_fill vZ_patience vZ_turn vZ_made vZ_out vZ_finishers vZ_thrown vZ_far vZ_cells vZ_board vZ_cheapest vZ_marbles) → va_S A s.heap H locs → lv_has ls 8 [(0, .ref (ad 28)), (3, .int x3), (4, .int x4), (5, .int x5), (6, .int x6)] → W p l e rm_X7_wayOf s m args below meth c H locs 0 0 QQ (F0 m 107 ls [])) ?_
    intro vZ_cheapest x6 hw H locs ls hP hD hS hl
    unfold wb_X7_wayOf_107 at hw
    refine lv_iload hx hb dX7_wayOf_107 (lv_at hl 4 rfl) ?_
    refine lv_bipush (v := (10 : Int32)) hx hb dX7_wayOf_109 (by decide) ?_
    refine lv_icmp_ge (tgt := 207) hx hb dX7_wayOf_111 (by decide) (fun c_10 => ?_) (fun c_10 => ?_)
    · have hw := hw.1 c_10
      exact hK107 vZ_cheapest hw _ _ _ hP hD hS (lv_sub hl [0, 1, 2] rfl)
    · have hw := hw.2 c_10
      refine lv_iload hx hb dX7_wayOf_114 (lv_at hl 2 rfl) ?_
      refine lv_iload hx hb dX7_wayOf_116 (lv_at hl 4 rfl) ?_
      refine lv_ishr hx hb dX7_wayOf_118 ?_
      refine lv_iconst (v := (1 : Int32)) hx hb dX7_wayOf_119 (by decide) ?_
      refine lv_iand hx hb dX7_wayOf_120 ?_
      refine lv_iconst (v := (1 : Int32)) hx hb dX7_wayOf_121 (by decide) ?_
      refine lv_icmp_ne (tgt := 166) hx hb dX7_wayOf_122 (by decide) (fun c_11 => ?_) (fun c_11 => ?_)
      · have hw := hw.1 c_11
        refine lv_ldc hx hb hown (hts (.constant RX7 165 (1000000)) (by decide +kernel)) dX7_wayOf_166 ?_
        exact hJ168 vZ_cheapest x4 x6 (1000000 : Int32) _ _ _ _ hw (fun _ _ h => h) _ _ _ hP hD hS (lv_sub hl [0, 1, 2, 3, 4] rfl)
      · have hw := hw.2 c_11
        refine lv_aload_n hx hb dX7_wayOf_125 rfl (lv_at hl 0 rfl) ?_
        refine va_get (D := D) (ci := 7) (v := .ref (ad 46)) (C := RX7) (T := TX7) (N := 27) hx hb hts inX7 hown hK hP 0 rfl rfl 24 (by decide) fl_66 (fun _ h9 => h9) rfl dX7_wayOf_126 ?_
        refine lv_iload hx hb dX7_wayOf_129 (lv_at hl 2 rfl) ?_
        refine lv_iconst (v := (1 : Int32)) hx hb dX7_wayOf_131 (by decide) ?_
        refine lv_iload hx hb dX7_wayOf_132 (lv_at hl 4 rfl) ?_
        refine lv_ishl hx hb dX7_wayOf_134 ?_
        refine lv_ixor hx hb dX7_wayOf_135 ?_
        obtain ⟨h_12, hw⟩ := hw
        refine va_iald hx hb hK hP 4 3 rfl rfl h_12 dX7_wayOf_136 ?_
        refine lv_aload_n hx hb dX7_wayOf_137 rfl (lv_at hl 0 rfl) ?_
        refine va_get (D := D) (ci := 7) (v := .ref (ad 33)) (C := RX7) (T := TX7) (N := 27) hx hb hts inX7 hown hK hP 0 rfl rfl 4 (by decide) fl_22 (fun _ h9 => h9) rfl dX7_wayOf_138 ?_
        refine lv_bipush (v := (121 : Int32)) hx hb dX7_wayOf_141 (by decide) ?_
        refine lv_aload_n hx hb dX7_wayOf_143 rfl (lv_at hl 0 rfl) ?_
        refine va_get (D := D) (ci := 7) (v := .ref (ad 47)) (C := RX7) (T := TX7) (N := 27) hx hb hts inX7 hown hK hP 0 rfl rfl 25 (by decide) fl_69 (fun _ h9 => h9) rfl dX7_wayOf_144 ?_
        refine lv_iload hx hb dX7_wayOf_147 (lv_at hl 3 rfl) ?_
        obtain ⟨h_13, hw⟩ := hw
        refine va_iald hx hb hK hP 5 4 rfl rfl h_13 dX7_wayOf_149 ?_
        refine lv_imul hx hb dX7_wayOf_150 ?_
        refine lv_aload_n hx hb dX7_wayOf_151 rfl (lv_at hl 0 rfl) ?_
        refine va_get (D := D) (ci := 7) (v := .ref (ad 34)) (C := RX7) (T := TX7) (N := 27) hx hb hts inX7 hown hK hP 0 rfl rfl 5 (by decide) fl_25 (fun _ h9 => h9) rfl dX7_wayOf_152 ?_
        refine lv_iload_n hx hb dX7_wayOf_155 rfl (lv_at hl 1 rfl) ?_
        refine lv_iload hx hb dX7_wayOf_156 (lv_at hl 4 rfl) ?_
        refine lv_iadd hx hb dX7_wayOf_158 ?_
        obtain ⟨h_14, hw⟩ := hw
        refine va_iald hx hb hK hP 2 1 rfl rfl h_14 dX7_wayOf_159 ?_
        refine lv_iadd hx hb dX7_wayOf_160 ?_
        obtain ⟨h_15, hw⟩ := hw
        refine va_iald hx hb hK hP 1 0 rfl rfl h_15 dX7_wayOf_161 ?_
        refine lv_iadd hx hb dX7_wayOf_162 ?_
        refine lv_goto (tgt := 168) hx hb dX7_wayOf_163 (by decide) ?_
        exact hJ168 vZ_cheapest x4 x6 ((vZ_cheapest (x4 ^^^ ((1 : Int32) <<< (x6 &&& 31))).toNatClampNeg) + (vZ_far (((121 : Int32) * (vZ_marbles x5.toNatClampNeg)) + (vZ_cells (x3 + x6).toNatClampNeg)).toNatClampNeg)) _ _ _ _ hw (fun _ _ h => h) _ _ _ hP hD hS (lv_sub hl [0, 1, 2, 3, 4] rfl)
  have hL56 : ∀ (vZ_marbles : Nat → Int32) (x3 : Int32) (K56 : (Nat → Int32) → Prop) (vZ_cheapest : Nat → Int32) (x4 : Int32), wl_X7_wayOf_56 vZ_far vZ_cells vZ_marbles x3 K56 vZ_cheapest x4 → (∀ (vZ_cheapest : Nat → Int32), K56 vZ_cheapest → ∀ (H : Heap) (locs : List Loc) (ls : Array Slot), va_P D vwCl (cl_X7_wayOf ad cs vZ_players vZ_fill vZ_patience vZ_turn vZ_made vZ_out vZ_finishers vZ_thrown vZ_far vZ_cells vZ_board vZ_cheapest vZ_marbles) H → va_D A (cl_X7_wayOf ad cs vZ_players vZ_fill vZ_patience vZ_turn vZ_made vZ_out vZ_finishers vZ_thrown vZ_far vZ_cells vZ_board vZ_cheapest vZ_marbles) → va_S A s.heap H locs → lv_has ls 8 [(0, .ref (ad 28))] → W p l e rm_X7_wayOf s m args below meth c H locs 0 0 QQ (F0 m 213 ls [])) → ∀ (H : Heap) (locs : List Loc) (ls : Array Slot), va_P D vwCl (cl_X7_wayOf ad cs vZ_players vZ_fill vZ_patience vZ_turn vZ_made vZ_out vZ_finishers vZ_thrown vZ_far vZ_cells vZ_board vZ_cheapest vZ_marbles) H → va_D A (cl_X7_wayOf ad cs vZ_players vZ_fill vZ_patience vZ_turn vZ_made vZ_out vZ_finishers vZ_thrown vZ_far vZ_cells vZ_board vZ_cheapest vZ_marbles) → va_S A s.heap H locs → lv_has ls 8 [(0, .ref (ad 28)), (3, .int x3), (4, .int x4)] → W p l e rm_X7_wayOf s m args below meth c H locs 0 0 QQ (F0 m 56 ls []) := by
    intro vZ_marbles x3 K56 vZ_cheapest x4 hw hK56
    unfold wl_X7_wayOf_56 at hw
    refine hw (fun (vZ_cheapest : Nat → Int32) (x4 : Int32) => ∀ (H : Heap) (locs : List Loc) (ls : Array Slot), va_P D vwCl (cl_X7_wayOf ad cs vZ_players vZ_fill vZ_patience vZ_turn vZ_made vZ_out vZ_finishers vZ_thrown vZ_far vZ_cells vZ_board vZ_cheapest vZ_marbles) H → va_D A (cl_X7_wayOf ad cs vZ_players vZ_fill vZ_patience vZ_turn vZ_made vZ_out vZ_finishers vZ_thrown vZ_far vZ_cells vZ_board vZ_cheapest vZ_marbles) → va_S A s.heap H locs → lv_has ls 8 [(0, .ref (ad 28)), (3, .int x3), (4, .int x4)] → W p l e rm_X7_wayOf s m args below meth c H locs 0 0 QQ (F0 m 56 ls [])) ?_
    intro vZ_cheapest x4 hw H locs ls hP hD hS hl
    unfold wb_X7_wayOf_56 at hw
    refine lv_iload hx hb dX7_wayOf_56 (lv_at hl 2 rfl) ?_
    refine lv_sipush (v := (1024 : Int32)) hx hb dX7_wayOf_58 (by decide) ?_
    refine lv_icmp_ge (tgt := 213) hx hb dX7_wayOf_61 (by decide) (fun c_16 => ?_) (fun c_16 => ?_)
    · have hw := hw.1 c_16
      exact hK56 vZ_cheapest hw _ _ _ hP hD hS (lv_sub hl [0] rfl)
    · have hw := hw.2 c_16
      refine lv_iconst (v := (-1 : Int32)) hx hb dX7_wayOf_64 (by decide) ?_
      refine lv_istore (lv' := [(5, .int (-1 : Int32)), (0, .ref (ad 28)), (3, .int x3), (4, .int x4)]) hx hb dX7_wayOf_65 hl (by decide) rfl (fun ls hl => ?_)
      refine lv_iconst (v := (0 : Int32)) hx hb dX7_wayOf_67 (by decide) ?_
      refine lv_istore (lv' := [(6, .int (0 : Int32)), (5, .int (-1 : Int32)), (0, .ref (ad 28)), (3, .int x3), (4, .int x4)]) hx hb dX7_wayOf_68 hl (by decide) rfl (fun ls hl => ?_)
      refine hL70 x4 _ (-1 : Int32) (0 : Int32) _ _ _ hw ?_ _ _ _ hP hD hS (lv_sub hl [2, 3, 4, 1, 0] rfl)
      intro x5_17 hw H locs ls hP hD hS hl
      refine lv_aload_n hx hb dX7_wayOf_95 rfl (lv_at hl 0 rfl) ?_
      refine va_get (D := D) (ci := 7) (v := .ref (ad 46)) (C := RX7) (T := TX7) (N := 27) hx hb hts inX7 hown hK hP 0 rfl rfl 24 (by decide) fl_66 (fun _ h9 => h9) rfl dX7_wayOf_96 ?_
      refine lv_iload hx hb dX7_wayOf_99 (lv_at hl 2 rfl) ?_
      refine lv_ldc hx hb hown (hts (.constant RX7 165 (1000000)) (by decide +kernel)) dX7_wayOf_101 ?_
      obtain ⟨h_18, hw⟩ := hw
      refine va_iast hx hb hK hP hD hS 4 3 rfl rfl h_18 dX7_wayOf_103 (fun H locs hP hD hS => ?_)
      have hP : va_P D vwCl (cl_X7_wayOf ad cs vZ_players vZ_fill vZ_patience vZ_turn vZ_made vZ_out vZ_finishers vZ_thrown vZ_far vZ_cells vZ_board (upd vZ_cheapest x4.toNatClampNeg (1000000 : Int32)) vZ_marbles) H := hP
      have hD : va_D A (cl_X7_wayOf ad cs vZ_players vZ_fill vZ_patience vZ_turn vZ_made vZ_out vZ_finishers vZ_thrown vZ_far vZ_cells vZ_board (upd vZ_cheapest x4.toNatClampNeg (1000000 : Int32)) vZ_marbles) := hD
      refine lv_iconst (v := (0 : Int32)) hx hb dX7_wayOf_104 (by decide) ?_
      refine lv_istore (lv' := [(6, .int (0 : Int32)), (0, .ref (ad 28)), (3, .int x3), (4, .int x4), (5, .int x5_17)]) hx hb dX7_wayOf_105 hl (by decide) rfl (fun ls hl => ?_)
      refine hL107 vZ_marbles x3 x4 x5_17 _ (upd vZ_cheapest x4.toNatClampNeg (1000000 : Int32)) (0 : Int32) hw ?_ _ _ _ hP hD hS (lv_sub hl [1, 2, 3, 4, 0] rfl)
      intro vZ_cheapest_19 hw H locs ls hP hD hS hl
      refine lv_iinc (v := (x4 + (1 : Int32))) (lv' := [(4, .int (x4 + (1 : Int32))), (0, .ref (ad 28)), (3, .int x3)]) hx hb dX7_wayOf_207 hl (k := 2) rfl rfl (by decide) rfl (fun ls hl => ?_)
      refine lv_goto (tgt := 56) hx hb dX7_wayOf_210 (by decide) ?_
      exact hw _ _ _ hP hD hS (lv_sub hl [1, 2, 0] rfl)
  obtain ⟨H, hH⟩ : ∃ H : Heap, H = s.heap := ⟨_, rfl⟩
  have hS : va_S A s.heap H [] := by rw [hH]; exact va_S.rf
  rw [← hH] at hP ⊢
  unfold wp_X7_wayOf at hw
  refine lv_iconst (v := (0 : Int32)) hx hb dX7_wayOf_0 (by decide) ?_
  refine lv_istore_n (lv' := [(2, .int (0 : Int32)), (0, .ref (ad 28)), (1, .int x1)]) hx hb dX7_wayOf_1 rfl hl (by decide) rfl (fun ls hl => ?_)
  refine lv_iconst (v := (0 : Int32)) hx hb dX7_wayOf_2 (by decide) ?_
  refine lv_istore_n (lv' := [(3, .int (0 : Int32)), (2, .int (0 : Int32)), (0, .ref (ad 28)), (1, .int x1)]) hx hb dX7_wayOf_3 rfl hl (by decide) rfl (fun ls hl => ?_)
  refine hL4 x1 _ vZ_marbles (0 : Int32) (0 : Int32) _ hw ?_ _ _ _ hP hD hS (lv_sub hl [2, 3, 1, 0] rfl)
  intro vZ_marbles_20 hw H locs ls hP hD hS hl
  refine lv_bipush (v := (10 : Int32)) hx hb dX7_wayOf_36 (by decide) ?_
  refine lv_iload_n hx hb dX7_wayOf_38 rfl (lv_at hl 1 rfl) ?_
  refine lv_iconst (v := (3 : Int32)) hx hb dX7_wayOf_39 (by decide) ?_
  refine lv_iadd hx hb dX7_wayOf_40 ?_
  refine lv_bipush (v := (6 : Int32)) hx hb dX7_wayOf_41 (by decide) ?_
  refine lv_irem hx hb dX7_wayOf_43 (by decide) ?_
  refine lv_imul hx hb dX7_wayOf_44 ?_
  refine lv_istore_n (lv' := [(3, .int ((10 : Int32) * ((x1 + (3 : Int32)) - (x1 + (3 : Int32)) / (6 : Int32) * (6 : Int32)))), (0, .ref (ad 28)), (1, .int x1)]) hx hb dX7_wayOf_45 rfl hl (by decide) rfl (fun ls hl => ?_)
  refine lv_aload_n hx hb dX7_wayOf_46 rfl (lv_at hl 1 rfl) ?_
  refine va_get (D := D) (ci := 7) (v := .ref (ad 46)) (C := RX7) (T := TX7) (N := 27) hx hb hts inX7 hown hK hP 0 rfl rfl 24 (by decide) fl_66 (fun _ h9 => h9) rfl dX7_wayOf_47 ?_
  refine lv_iconst (v := (0 : Int32)) hx hb dX7_wayOf_50 (by decide) ?_
  refine lv_iconst (v := (0 : Int32)) hx hb dX7_wayOf_51 (by decide) ?_
  obtain ⟨h_21, hw⟩ := hw
  refine va_iast hx hb hK hP hD hS 4 3 rfl rfl h_21 dX7_wayOf_52 (fun H locs hP hD hS => ?_)
  have hP : va_P D vwCl (cl_X7_wayOf ad cs vZ_players vZ_fill vZ_patience vZ_turn vZ_made vZ_out vZ_finishers vZ_thrown vZ_far vZ_cells vZ_board (upd vZ_cheapest (0 : Int32).toNatClampNeg (0 : Int32)) vZ_marbles_20) H := hP
  have hD : va_D A (cl_X7_wayOf ad cs vZ_players vZ_fill vZ_patience vZ_turn vZ_made vZ_out vZ_finishers vZ_thrown vZ_far vZ_cells vZ_board (upd vZ_cheapest (0 : Int32).toNatClampNeg (0 : Int32)) vZ_marbles_20) := hD
  refine lv_iconst (v := (1 : Int32)) hx hb dX7_wayOf_53 (by decide) ?_
  refine lv_istore (lv' := [(4, .int (1 : Int32)), (3, .int ((10 : Int32) * ((x1 + (3 : Int32)) - (x1 + (3 : Int32)) / (6 : Int32) * (6 : Int32)))), (0, .ref (ad 28)), (1, .int x1)]) hx hb dX7_wayOf_54 hl (by decide) rfl (fun ls hl => ?_)
  refine hL56 vZ_marbles_20 ((10 : Int32) * ((x1 + (3 : Int32)) - (x1 + (3 : Int32)) / (6 : Int32) * (6 : Int32))) _ (upd vZ_cheapest (0 : Int32).toNatClampNeg (0 : Int32)) (1 : Int32) hw ?_ _ _ _ hP hD hS (lv_sub hl [2, 1, 0] rfl)
  intro vZ_cheapest_22 hw H locs ls hP hD hS hl
  refine lv_aload_n hx hb dX7_wayOf_213 rfl (lv_at hl 0 rfl) ?_
  refine va_get (D := D) (ci := 7) (v := .ref (ad 46)) (C := RX7) (T := TX7) (N := 27) hx hb hts inX7 hown hK hP 0 rfl rfl 24 (by decide) fl_66 (fun _ h9 => h9) rfl dX7_wayOf_214 ?_
  refine lv_sipush (v := (1023 : Int32)) hx hb dX7_wayOf_217 (by decide) ?_
  obtain ⟨h_23, hw⟩ := hw
  refine va_iald hx hb hK hP 4 3 rfl rfl h_23 dX7_wayOf_220 ?_
  exact hret _ _ _ _ _ _ _ hw hP hD hS dX7_wayOf_221
set_option maxHeartbeats 4000000 in
set_option maxRecDepth 100000 in
theorem c_X7_wayOf (l : Launch) (D : va_G) (ad : Nat → Nat) (cs : Nat → ClassId) (sz : Nat) (vZ_players vZ_fill vZ_patience vZ_turn vZ_made vZ_out vZ_finishers vZ_thrown : Int32) (vZ_far vZ_cells vZ_board vZ_cheapest vZ_marbles : Nat → Int32) (x1 : Int32) (Q : Int32 → (Nat → Int32) → (Nat → Int32) → Prop) (hw : wp_X7_wayOf vZ_players vZ_fill vZ_patience vZ_turn vZ_made vZ_out vZ_finishers vZ_thrown vZ_far vZ_cells vZ_board vZ_cheapest vZ_marbles x1 Q) :
  Met l yX7_wayOf wsX7_wayOf rm_X7_wayOf (va_Pc [.ref (ad 28), .int x1] (PX D (cl_X7_wayOf ad cs vZ_players vZ_fill vZ_patience vZ_turn vZ_made vZ_out vZ_finishers vZ_thrown vZ_far vZ_cells vZ_board vZ_cheapest vZ_marbles) (ty_X7_wayOf cs) sz)) (va_Qi (fun (r : Int32) (u : (Nat → Int32) × (Nat → Int32)) => Q r u.1 u.2) (fun (u : (Nat → Int32) × (Nat → Int32)) t => va_P D vwCl (cl_X7_wayOf ad cs vZ_players vZ_fill vZ_patience vZ_turn vZ_made vZ_out vZ_finishers vZ_thrown vZ_far vZ_cells vZ_board u.1 u.2) t.heap ∧ va_D (va_A (cl_X7_wayOf ad cs vZ_players vZ_fill vZ_patience vZ_turn vZ_made vZ_out vZ_finishers vZ_thrown vZ_far vZ_cells vZ_board vZ_cheapest vZ_marbles) sz) (cl_X7_wayOf ad cs vZ_players vZ_fill vZ_patience vZ_turn vZ_made vZ_out vZ_finishers vZ_thrown vZ_far vZ_cells vZ_board u.1 u.2)) (va_A (cl_X7_wayOf ad cs vZ_players vZ_fill vZ_patience vZ_turn vZ_made vZ_out vZ_finishers vZ_thrown vZ_far vZ_cells vZ_board vZ_cheapest vZ_marbles) sz)) 0 0 (va_A (cl_X7_wayOf ad cs vZ_players vZ_fill vZ_patience vZ_turn vZ_made vZ_out vZ_finishers vZ_thrown vZ_far vZ_cells vZ_board vZ_cheapest vZ_marbles) sz) := by
  refine Met.ofW (cc := cX7_wayOf) (maxL := 8) (ret := (some .int)) (by decide) rfl ?_
  intro p e s m args below meth c s₁ B hml hv
  obtain ⟨rfl, hsz, hP, hK, hD0, hN⟩ := hv
  subst hsz
  have hl := lv_entry ([.ref (ad 28), .int x1]) (n := 8) (Nat.le_of_ble_eq_true rfl)
  rw [lg_entry_eq]
  have hx := B.exec
  have hb := B.bytes
  have hr := B.returns
  exact b_X7_wayOf l D ad cs vZ_players vZ_fill vZ_patience vZ_turn vZ_made vZ_out vZ_finishers vZ_thrown vZ_far vZ_cells vZ_board vZ_cheapest vZ_marbles x1 Q hx hb hml (findClass_of_methodNamed B.named) (atoms_spec (ws := wsX7_wayOf) B.pre) hN hP hK hD0.self (fun q h => Or.inr h) hl (fun r o0 o1 H locs pc ls hq hP hD hS hd => W.iret (v := r) hx hb hr (fun t ht hW => ⟨⟨r, (o0, o1), rfl, hq, by rw [ht]; exact hP, hD⟩, hS.F ht⟩) hS.2.2 hd) hw
abbrev rm_X7_way : Room := { frames := 2, cells := 0, slots := 0, locals := 43 }
abbrev cl_X7_way (ad : Nat → Nat) (cs : Nat → ClassId) (vZ_players vZ_fill vZ_patience vZ_turn vZ_made vZ_out vZ_finishers vZ_thrown : Int32) (vZ_far vZ_cells vZ_board vZ_cheapest vZ_marbles : Nat → Int32) : va_W := [((ad 28), .inr (7, [.ref (ad 29), .ref (ad 30), .ref (ad 31), .ref (ad 32), .ref (ad 33), .ref (ad 34), .int vZ_players, .int vZ_fill, .int vZ_patience, .ref (ad 35), .int vZ_turn, .int vZ_made, .int vZ_out, .ref (ad 36), .int vZ_finishers, .ref (ad 37), .ref (ad 38), .ref (ad 39), .ref (ad 40), .ref (ad 41), .ref (ad 42), .ref (ad 43), .ref (ad 44), .ref (ad 45), .ref (ad 46), .ref (ad 47), .int vZ_thrown])), ((ad 33), .inl ((cs 33), 14641, .inl vZ_far)), ((ad 34), .inl ((cs 34), 60, .inl vZ_cells)), ((ad 35), .inl ((cs 35), 121, .inl vZ_board)), ((ad 46), .inl ((cs 46), 1024, .inl vZ_cheapest)), ((ad 47), .inl ((cs 47), 10, .inl vZ_marbles))]
abbrev ty_X7_way (cs : Nat → ClassId) : List (ClassId × FieldType) := [((cs 33), .int), ((cs 34), .int), ((cs 35), .int), ((cs 46), .int), ((cs 47), .int)]
def wJ_X7_way_15 (vZ_players vZ_fill vZ_patience vZ_turn vZ_made vZ_out vZ_finishers vZ_thrown : Int32) (vZ_far vZ_cells vZ_board vZ_cheapest vZ_marbles : Nat → Int32) (x1 t1 : Int32) (Q : Int32 → Int32 → (Nat → Int32) → (Nat → Int32) → Prop) : Prop :=
 wp_X7_can vZ_players vZ_fill vZ_patience vZ_turn vZ_made vZ_out vZ_finishers vZ_thrown t1 (fun r_1 vZ_thrown_2 =>
 ((r_1 = 0 → Q (0 : Int32) vZ_thrown_2 vZ_cheapest vZ_marbles) ∧
 (¬ r_1 = 0 → wp_X7_plays vZ_players vZ_fill vZ_patience vZ_turn vZ_made vZ_out vZ_finishers vZ_thrown_2 x1 (fun r_4 =>
 ((r_4 = 0 → Q (-1 : Int32) vZ_thrown_2 vZ_cheapest vZ_marbles) ∧
 (¬ r_4 = 0 → wp_X7_wayOf vZ_players vZ_fill vZ_patience vZ_turn vZ_made vZ_out vZ_finishers vZ_thrown_2 vZ_far vZ_cells vZ_board vZ_cheapest vZ_marbles x1 (fun r_6 vZ_cheapest_7 vZ_marbles_8 =>
 Q r_6 vZ_thrown_2 vZ_cheapest_7 vZ_marbles_8)))))))
def wp_X7_way (vZ_players vZ_fill vZ_patience vZ_turn vZ_made vZ_out vZ_finishers vZ_thrown : Int32) (vZ_far vZ_cells vZ_board vZ_cheapest vZ_marbles : Nat → Int32) (x1 : Int32) (Q : Int32 → Int32 → (Nat → Int32) → (Nat → Int32) → Prop) : Prop :=
 wp_X7_isIn x1 (0 : Int32) (5 : Int32) (fun r_9 =>
 ((r_9 = 0 → wJ_X7_way_15 vZ_players vZ_fill vZ_patience vZ_turn vZ_made vZ_out vZ_finishers vZ_thrown vZ_far vZ_cells vZ_board vZ_cheapest vZ_marbles x1 (1 : Int32) Q) ∧
 (¬ r_9 = 0 → wJ_X7_way_15 vZ_players vZ_fill vZ_patience vZ_turn vZ_made vZ_out vZ_finishers vZ_thrown vZ_far vZ_cells vZ_board vZ_cheapest vZ_marbles x1 (0 : Int32) Q)))
set_option maxHeartbeats 4000000 in
set_option maxRecDepth 100000 in
theorem b_X7_way {p : Program} {e : Env} {s : State} {m : MethodId} {args : Array Value} {below : List Frame} {meth : Method} {c : Code} {QQ : State → Prop} {A : Nat → Prop} {ls : Array Slot} (l : Launch) (D : va_G) (ad : Nat → Nat) (cs : Nat → ClassId) (vZ_players vZ_fill vZ_patience vZ_turn vZ_made vZ_out vZ_finishers vZ_thrown : Int32) (vZ_far vZ_cells vZ_board vZ_cheapest vZ_marbles : Nat → Int32) (x1 : Int32) (Q : Int32 → Int32 → (Nat → Int32) → (Nat → Int32) → Prop) (hx : p.tables.exec = Jvm.exec) (hb : c.code = cX7_way) (hml : c.maxLocals = 2) (hown : s.vm.findClass RX7 = some m.cls) (hts : ∀ w ∈ wsX7_way, w.before args s = true) (hN : NW s) (hP : va_P D vwCl (cl_X7_way ad cs vZ_players vZ_fill vZ_patience vZ_turn vZ_made vZ_out vZ_finishers vZ_thrown vZ_far vZ_cells vZ_board vZ_cheapest vZ_marbles) s.heap) (hK : va_K D vwCl (ty_X7_way cs) s) (hD : va_D A (cl_X7_way ad cs vZ_players vZ_fill vZ_patience vZ_turn vZ_made vZ_out vZ_finishers vZ_thrown vZ_far vZ_cells vZ_board vZ_cheapest vZ_marbles)) (hA : ∀ q : Nat, s.heap.size ≤ q → A q) (hl : lv_has ls 2 [(0, .ref (ad 28)), (1, .int x1)])
  (hret : ∀ (r : Int32) (o0 : Int32) (o1 : Nat → Int32) (o2 : Nat → Int32) (H : Heap) (locs : List Loc) (pc : Nat) (ls : Array Slot), Q r o0 o1 o2 → va_P D vwCl (cl_X7_way ad cs vZ_players vZ_fill vZ_patience vZ_turn vZ_made vZ_out vZ_finishers o0 vZ_far vZ_cells vZ_board o1 o2) H → va_D A (cl_X7_way ad cs vZ_players vZ_fill vZ_patience vZ_turn vZ_made vZ_out vZ_finishers o0 vZ_far vZ_cells vZ_board o1 o2) → va_S A s.heap H locs → decode cX7_way pc = .ok (.ireturn, 1) → W p l e rm_X7_way s m args below meth c H locs 0 0 QQ (F0 m pc ls [.int r]))
  (hw : wp_X7_way vZ_players vZ_fill vZ_patience vZ_turn vZ_made vZ_out vZ_finishers vZ_thrown vZ_far vZ_cells vZ_board vZ_cheapest vZ_marbles x1 Q) :
  W p l e rm_X7_way s m args below meth c s.heap [] 0 0 QQ (F0 m 0 ls []) := by
  have S0 : CallFix p m c cX7_way 2 s args wsX7_way RX7 := ⟨hx, hb, hml, hown, hts⟩
  have hJ15 : ∀ (vZ_thrown : Int32) (vZ_cheapest vZ_marbles : Nat → Int32) (x1 t1 : Int32), wJ_X7_way_15 vZ_players vZ_fill vZ_patience vZ_turn vZ_made vZ_out vZ_finishers vZ_thrown vZ_far vZ_cells vZ_board vZ_cheapest vZ_marbles x1 t1 Q → ∀ (H : Heap) (locs : List Loc) (ls : Array Slot), va_P D vwCl (cl_X7_way ad cs vZ_players vZ_fill vZ_patience vZ_turn vZ_made vZ_out vZ_finishers vZ_thrown vZ_far vZ_cells vZ_board vZ_cheapest vZ_marbles) H → va_D A (cl_X7_way ad cs vZ_players vZ_fill vZ_patience vZ_turn vZ_made vZ_out vZ_finishers vZ_thrown vZ_far vZ_cells vZ_board vZ_cheapest vZ_marbles) → va_S A s.heap H locs → lv_has ls 2 [(0, .ref (ad 28)), (1, .int x1)] → W p l e rm_X7_way s m args below meth c H locs 0 0 QQ (F0 m 15 ls [.int t1, .ref (ad 28)]) := by
    intro vZ_thrown vZ_cheapest vZ_marbles x1 t1 hw  H locs ls hP hD hS hl
    unfold wJ_X7_way_15 at hw
    refine pcVi (rest := []) (wr := [((ad 33), .inl ((cs 33), 14641, .inl vZ_far)), ((ad 34), .inl ((cs 34), 60, .inl vZ_cells)), ((ad 35), .inl ((cs 35), 121, .inl vZ_board)), ((ad 46), .inl ((cs 46), 1024, .inl vZ_cheapest)), ((ad 47), .inl ((cs 47), 10, .inl vZ_marbles))]) (ci := 7) S0 (c_X7_can l D ad cs H.size vZ_players vZ_fill vZ_patience vZ_turn vZ_made vZ_out vZ_finishers vZ_thrown t1 _ hw) (cwV 1 hts gX7_way_X7_can rfl rfl rfl (by decide +kernel) ⟨Nat.le_of_ble_eq_true rfl, Nat.le_of_ble_eq_true rfl⟩) hN hK hP hD hS hA [0] [1, 2, 3, 4, 5] [] ⟨rfl, rfl, rfl, rfl, rfl, by decide⟩ 0 rfl rfl rfl rfl hl.1 (Nat.le_of_ble_eq_true rfl) ⟨Nat.le_of_ble_eq_true rfl, Nat.le_of_ble_eq_true rfl⟩ dX7_way_15 (fun r_1 u H locs hw hP hD hS => ?_)
    obtain ⟨vZ_thrown_2, rfl⟩ : ∃ z, z = u := ⟨_, rfl⟩
    have hP : va_P D vwCl (cl_X7_way ad cs vZ_players vZ_fill vZ_patience vZ_turn vZ_made vZ_out vZ_finishers vZ_thrown_2 vZ_far vZ_cells vZ_board vZ_cheapest vZ_marbles) H := hP.sub [5, 0, 1, 2, 3, 4] rfl
    have hD : va_D A (cl_X7_way ad cs vZ_players vZ_fill vZ_patience vZ_turn vZ_made vZ_out vZ_finishers vZ_thrown_2 vZ_far vZ_cells vZ_board vZ_cheapest vZ_marbles) := hD.sub [5, 0, 1, 2, 3, 4] (by decide) rfl
    refine lv_if_eq (tgt := 41) hx hb dX7_way_18 (by decide) (fun c_3 => ?_) (fun c_3 => ?_)
    · have hw := hw.1 c_3
      refine lv_iconst (v := (0 : Int32)) hx hb dX7_way_41 (by decide) ?_
      exact hret _ _ _ _ _ _ _ _ hw hP hD hS dX7_way_42
    · have hw := hw.2 c_3
      refine lv_aload_n hx hb dX7_way_21 rfl (lv_at hl 0 rfl) ?_
      refine lv_iload_n hx hb dX7_way_22 rfl (lv_at hl 1 rfl) ?_
      refine pcV (rest := []) (ci := 7) S0 (c_X7_plays l D ad cs H.size vZ_players vZ_fill vZ_patience vZ_turn vZ_made vZ_out vZ_finishers vZ_thrown_2 x1 _ hw) (cwV 1 hts gX7_way_X7_plays rfl rfl rfl (by decide +kernel) ⟨Nat.le_of_ble_eq_true rfl, Nat.le_of_ble_eq_true rfl⟩) hN hK hP hD [0] [] rfl rfl rfl 0 rfl rfl rfl rfl hl.1 (Nat.le_of_ble_eq_true rfl) ⟨Nat.le_of_ble_eq_true rfl, Nat.le_of_ble_eq_true rfl⟩ dX7_way_23 (fun r_4 hw => ?_)
      refine lv_if_eq (tgt := 37) hx hb dX7_way_26 (by decide) (fun c_5 => ?_) (fun c_5 => ?_)
      · have hw := hw.1 c_5
        refine lv_iconst (v := (-1 : Int32)) hx hb dX7_way_37 (by decide) ?_
        refine lv_goto (tgt := 42) hx hb dX7_way_38 (by decide) ?_
        exact hret _ _ _ _ _ _ _ _ hw hP hD hS dX7_way_42
      · have hw := hw.2 c_5
        refine lv_aload_n hx hb dX7_way_29 rfl (lv_at hl 0 rfl) ?_
        refine lv_iload_n hx hb dX7_way_30 rfl (lv_at hl 1 rfl) ?_
        refine pcVi (rest := []) (wr := []) (ci := 7) S0 (c_X7_wayOf l D ad cs H.size vZ_players vZ_fill vZ_patience vZ_turn vZ_made vZ_out vZ_finishers vZ_thrown_2 vZ_far vZ_cells vZ_board vZ_cheapest vZ_marbles x1 _ hw) (cwV 1 hts gX7_way_X7_wayOf rfl rfl rfl (by decide +kernel) ⟨Nat.le_of_ble_eq_true rfl, Nat.le_of_ble_eq_true rfl⟩) hN hK hP hD hS hA [0, 1, 2, 3, 4, 5] [] [0, 1, 2, 3, 4] ⟨rfl, rfl, rfl, rfl, rfl, by decide⟩ 0 rfl rfl rfl rfl hl.1 (Nat.le_of_ble_eq_true rfl) ⟨Nat.le_of_ble_eq_true rfl, Nat.le_of_ble_eq_true rfl⟩ dX7_way_31 (fun r_6 u H locs hw hP hD hS => ?_)
        obtain ⟨vZ_cheapest_7, vZ_marbles_8⟩ := u
        dsimp only at hw
        have hP : va_P D vwCl (cl_X7_way ad cs vZ_players vZ_fill vZ_patience vZ_turn vZ_made vZ_out vZ_finishers vZ_thrown_2 vZ_far vZ_cells vZ_board vZ_cheapest_7 vZ_marbles_8) H := hP.sub [0, 1, 2, 3, 4, 5] rfl
        have hD : va_D A (cl_X7_way ad cs vZ_players vZ_fill vZ_patience vZ_turn vZ_made vZ_out vZ_finishers vZ_thrown_2 vZ_far vZ_cells vZ_board vZ_cheapest_7 vZ_marbles_8) := hD.sub [0, 1, 2, 3, 4, 5] (by decide) rfl
        refine lv_goto (tgt := 42) hx hb dX7_way_34 (by decide) ?_
        exact hret _ _ _ _ _ _ _ _ hw hP hD hS dX7_way_42
  obtain ⟨H, hH⟩ : ∃ H : Heap, H = s.heap := ⟨_, rfl⟩
  have hS : va_S A s.heap H [] := by rw [hH]; exact va_S.rf
  rw [← hH] at hP ⊢
  unfold wp_X7_way at hw
  refine lv_aload_n hx hb dX7_way_0 rfl (lv_at hl 0 rfl) ?_
  refine lv_iload_n hx hb dX7_way_1 rfl (lv_at hl 1 rfl) ?_
  refine lv_iconst (v := (0 : Int32)) hx hb dX7_way_2 (by decide) ?_
  refine lv_iconst (v := (5 : Int32)) hx hb dX7_way_3 (by decide) ?_
  refine pcS (rest := [.ref (ad 28)]) S0 (c_X7_isIn l D ad cs H.size x1 (0 : Int32) (5 : Int32) _ hw) (va_cwS 3 hts gX7_way_X7_isIn rfl rfl rfl (by decide +kernel) ⟨Nat.le_of_ble_eq_true rfl, Nat.le_of_ble_eq_true rfl⟩) hN hK hP hD [] [] rfl rfl rfl rfl rfl hl.1 (Nat.le_of_ble_eq_true rfl) ⟨Nat.le_of_ble_eq_true rfl, Nat.le_of_ble_eq_true rfl⟩ dX7_way_4 (fun r_9 hw => ?_)
  refine lv_if_eq (tgt := 14) hx hb dX7_way_7 (by decide) (fun c_10 => ?_) (fun c_10 => ?_)
  · have hw := hw.1 c_10
    refine lv_iconst (v := (1 : Int32)) hx hb dX7_way_14 (by decide) ?_
    exact hJ15 vZ_thrown vZ_cheapest vZ_marbles x1 (1 : Int32) hw _ _ _ hP hD hS (lv_sub hl [0, 1] rfl)
  · have hw := hw.2 c_10
    refine lv_iconst (v := (0 : Int32)) hx hb dX7_way_10 (by decide) ?_
    refine lv_goto (tgt := 15) hx hb dX7_way_11 (by decide) ?_
    exact hJ15 vZ_thrown vZ_cheapest vZ_marbles x1 (0 : Int32) hw _ _ _ hP hD hS (lv_sub hl [0, 1] rfl)
set_option maxHeartbeats 4000000 in
set_option maxRecDepth 100000 in
theorem c_X7_way (l : Launch) (D : va_G) (ad : Nat → Nat) (cs : Nat → ClassId) (sz : Nat) (vZ_players vZ_fill vZ_patience vZ_turn vZ_made vZ_out vZ_finishers vZ_thrown : Int32) (vZ_far vZ_cells vZ_board vZ_cheapest vZ_marbles : Nat → Int32) (x1 : Int32) (Q : Int32 → Int32 → (Nat → Int32) → (Nat → Int32) → Prop) (hw : wp_X7_way vZ_players vZ_fill vZ_patience vZ_turn vZ_made vZ_out vZ_finishers vZ_thrown vZ_far vZ_cells vZ_board vZ_cheapest vZ_marbles x1 Q) :
  Met l yX7_way wsX7_way rm_X7_way (va_Pc [.ref (ad 28), .int x1] (PX D (cl_X7_way ad cs vZ_players vZ_fill vZ_patience vZ_turn vZ_made vZ_out vZ_finishers vZ_thrown vZ_far vZ_cells vZ_board vZ_cheapest vZ_marbles) (ty_X7_way cs) sz)) (va_Qi (fun (r : Int32) (u : Int32 × (Nat → Int32) × (Nat → Int32)) => Q r u.1 u.2.1 u.2.2) (fun (u : Int32 × (Nat → Int32) × (Nat → Int32)) t => va_P D vwCl (cl_X7_way ad cs vZ_players vZ_fill vZ_patience vZ_turn vZ_made vZ_out vZ_finishers u.1 vZ_far vZ_cells vZ_board u.2.1 u.2.2) t.heap ∧ va_D (va_A (cl_X7_way ad cs vZ_players vZ_fill vZ_patience vZ_turn vZ_made vZ_out vZ_finishers vZ_thrown vZ_far vZ_cells vZ_board vZ_cheapest vZ_marbles) sz) (cl_X7_way ad cs vZ_players vZ_fill vZ_patience vZ_turn vZ_made vZ_out vZ_finishers u.1 vZ_far vZ_cells vZ_board u.2.1 u.2.2)) (va_A (cl_X7_way ad cs vZ_players vZ_fill vZ_patience vZ_turn vZ_made vZ_out vZ_finishers vZ_thrown vZ_far vZ_cells vZ_board vZ_cheapest vZ_marbles) sz)) 0 0 (va_A (cl_X7_way ad cs vZ_players vZ_fill vZ_patience vZ_turn vZ_made vZ_out vZ_finishers vZ_thrown vZ_far vZ_cells vZ_board vZ_cheapest vZ_marbles) sz) := by
  refine Met.ofW (cc := cX7_way) (maxL := 2) (ret := (some .int)) (by decide) rfl ?_
  intro p e s m args below meth c s₁ B hml hv
  obtain ⟨rfl, hsz, hP, hK, hD0, hN⟩ := hv
  subst hsz
  have hl := lv_entry ([.ref (ad 28), .int x1]) (n := 2) (Nat.le_of_ble_eq_true rfl)
  rw [lg_entry_eq]
  have hx := B.exec
  have hb := B.bytes
  have hr := B.returns
  exact b_X7_way l D ad cs vZ_players vZ_fill vZ_patience vZ_turn vZ_made vZ_out vZ_finishers vZ_thrown vZ_far vZ_cells vZ_board vZ_cheapest vZ_marbles x1 Q hx hb hml (findClass_of_methodNamed B.named) (atoms_spec (ws := wsX7_way) B.pre) hN hP hK hD0.self (fun q h => Or.inr h) hl (fun r o0 o1 o2 H locs pc ls hq hP hD hS hd => W.iret (v := r) hx hb hr (fun t ht hW => ⟨⟨r, (o0, o1, o2), rfl, hq, by rw [ht]; exact hP, hD⟩, hS.F ht⟩) hS.2.2 hd) hw
abbrev rm_X7_best : Room := { frames := 3, cells := 0, slots := 0, locals := 76 }
abbrev cl_X7_best (ad : Nat → Nat) (cs : Nat → ClassId) (vZ_players vZ_fill vZ_patience vZ_turn vZ_made vZ_out vZ_finishers vZ_thrown : Int32) (vZ_camp vZ_next vZ_far vZ_cells vZ_board vZ_level vZ_queue vZ_isEnd vZ_cheapest vZ_marbles : Nat → Int32) : va_W := [((ad 28), .inr (7, [.ref (ad 29), .ref (ad 30), .ref (ad 31), .ref (ad 32), .ref (ad 33), .ref (ad 34), .int vZ_players, .int vZ_fill, .int vZ_patience, .ref (ad 35), .int vZ_turn, .int vZ_made, .int vZ_out, .ref (ad 36), .int vZ_finishers, .ref (ad 37), .ref (ad 38), .ref (ad 39), .ref (ad 40), .ref (ad 41), .ref (ad 42), .ref (ad 43), .ref (ad 44), .ref (ad 45), .ref (ad 46), .ref (ad 47), .int vZ_thrown])), ((ad 31), .inl ((cs 31), 121, .inl vZ_camp)), ((ad 32), .inl ((cs 32), 726, .inl vZ_next)), ((ad 33), .inl ((cs 33), 14641, .inl vZ_far)), ((ad 34), .inl ((cs 34), 60, .inl vZ_cells)), ((ad 35), .inl ((cs 35), 121, .inl vZ_board)), ((ad 43), .inl ((cs 43), 121, .inl vZ_level)), ((ad 44), .inl ((cs 44), 121, .inl vZ_queue)), ((ad 45), .inl ((cs 45), 121, .inl vZ_isEnd)), ((ad 46), .inl ((cs 46), 1024, .inl vZ_cheapest)), ((ad 47), .inl ((cs 47), 10, .inl vZ_marbles))]
abbrev ty_X7_best (cs : Nat → ClassId) : List (ClassId × FieldType) := [((cs 31), .int), ((cs 32), .int), ((cs 33), .int), ((cs 34), .int), ((cs 35), .int), ((cs 43), .int), ((cs 44), .int), ((cs 45), .boolean), ((cs 46), .int), ((cs 47), .int)]
def wJ_X7_best_115 (vZ_board vZ_level vZ_queue vZ_isEnd vZ_cheapest vZ_marbles : Nat → Int32) (x2 x3 x6 t0 : Int32) (P7 : (Nat → Int32) → (Nat → Int32) → (Nat → Int32) → (Nat → Int32) → (Nat → Int32) → (Nat → Int32) → Int32 → Int32 → Int32 → Prop) : Prop :=
 ((x2 ≤ x6 → P7 vZ_board vZ_level vZ_queue vZ_isEnd vZ_cheapest vZ_marbles t0 x2 (x3 + (1 : Int32))) ∧
 (¬ x2 ≤ x6 → P7 vZ_board vZ_level vZ_queue vZ_isEnd vZ_cheapest vZ_marbles t0 x6 (x3 + (1 : Int32))))
def wJ_X7_best_46 (vZ_players vZ_fill vZ_patience vZ_turn vZ_made vZ_out vZ_finishers vZ_thrown : Int32) (vZ_far vZ_cells vZ_board vZ_level vZ_queue vZ_isEnd vZ_cheapest vZ_marbles : Nat → Int32) (x1 x2 x3 x4 x5 : Int32) (P7 : (Nat → Int32) → (Nat → Int32) → (Nat → Int32) → (Nat → Int32) → (Nat → Int32) → (Nat → Int32) → Int32 → Int32 → Int32 → Prop) : Prop :=
 (vp_in x5 121 ∧
 (((vZ_isEnd x5.toNatClampNeg) = 0 → P7 vZ_board vZ_level vZ_queue vZ_isEnd vZ_cheapest vZ_marbles x1 x2 (x3 + (1 : Int32))) ∧
 (¬ (vZ_isEnd x5.toNatClampNeg) = 0 → (vp_in x5 121 ∧
 (vp_in x4 121 ∧
 wp_X7_wayOf vZ_players vZ_fill vZ_patience vZ_turn vZ_made vZ_out vZ_finishers vZ_thrown vZ_far vZ_cells (upd (upd vZ_board x5.toNatClampNeg vZ_turn) x4.toNatClampNeg (-1 : Int32)) vZ_cheapest vZ_marbles vZ_turn (fun r_6 vZ_cheapest_7 vZ_marbles_8 =>
 (vp_in x5 121 ∧
 (vp_in x4 121 ∧
 ((x2 ≤ r_6 → wJ_X7_best_115 (upd (upd (upd (upd vZ_board x5.toNatClampNeg vZ_turn) x4.toNatClampNeg (-1 : Int32)) x5.toNatClampNeg (-1 : Int32)) x4.toNatClampNeg vZ_turn) vZ_level vZ_queue vZ_isEnd vZ_cheapest_7 vZ_marbles_8 x2 x3 r_6 x1 P7) ∧
 (¬ x2 ≤ r_6 → wJ_X7_best_115 (upd (upd (upd (upd vZ_board x5.toNatClampNeg vZ_turn) x4.toNatClampNeg (-1 : Int32)) x5.toNatClampNeg (-1 : Int32)) x4.toNatClampNeg vZ_turn) vZ_level vZ_queue vZ_isEnd vZ_cheapest_7 vZ_marbles_8 x2 x3 r_6 x3 P7))))))))))
def wb_X7_best_7 (vZ_players vZ_fill vZ_patience vZ_turn vZ_made vZ_out vZ_finishers vZ_thrown : Int32) (vZ_camp vZ_next vZ_far vZ_cells : Nat → Int32) (K7 : (Nat → Int32) → (Nat → Int32) → (Nat → Int32) → (Nat → Int32) → (Nat → Int32) → (Nat → Int32) → Int32 → Prop) (P7 : (Nat → Int32) → (Nat → Int32) → (Nat → Int32) → (Nat → Int32) → (Nat → Int32) → (Nat → Int32) → Int32 → Int32 → Int32 → Prop) (vZ_board vZ_level vZ_queue vZ_isEnd vZ_cheapest vZ_marbles : Nat → Int32) (x1 x2 x3 : Int32) : Prop :=
 (((14641 : Int32) ≤ x3 → K7 vZ_board vZ_level vZ_queue vZ_isEnd vZ_cheapest vZ_marbles x1) ∧
 (¬ (14641 : Int32) ≤ x3 → ((vZ_turn = (-1 : Int32) → K7 vZ_board vZ_level vZ_queue vZ_isEnd vZ_cheapest vZ_marbles x1) ∧
 (¬ vZ_turn = (-1 : Int32) → ((¬ (x3 - x3 / (121 : Int32) * (121 : Int32)) = 0 → wJ_X7_best_46 vZ_players vZ_fill vZ_patience vZ_turn vZ_made vZ_out vZ_finishers vZ_thrown vZ_far vZ_cells vZ_board vZ_level vZ_queue vZ_isEnd vZ_cheapest vZ_marbles x1 x2 x3 (x3 / (121 : Int32)) (x3 - x3 / (121 : Int32) * (121 : Int32)) P7) ∧
 ((x3 - x3 / (121 : Int32) * (121 : Int32)) = 0 → wp_X7_endsOf vZ_players vZ_fill vZ_patience vZ_turn vZ_made vZ_out vZ_finishers vZ_thrown vZ_camp vZ_next vZ_far vZ_board vZ_level vZ_queue vZ_isEnd (x3 / (121 : Int32)) (fun r_15 vZ_level_16 vZ_queue_17 vZ_isEnd_18 =>
 wJ_X7_best_46 vZ_players vZ_fill vZ_patience vZ_turn vZ_made vZ_out vZ_finishers vZ_thrown vZ_far vZ_cells vZ_board vZ_level_16 vZ_queue_17 vZ_isEnd_18 vZ_cheapest vZ_marbles x1 x2 x3 (x3 / (121 : Int32)) (x3 - x3 / (121 : Int32) * (121 : Int32)) P7)))))))
def wl_X7_best_7 (vZ_players vZ_fill vZ_patience vZ_turn vZ_made vZ_out vZ_finishers vZ_thrown : Int32) (vZ_camp vZ_next vZ_far vZ_cells : Nat → Int32) (K7 : (Nat → Int32) → (Nat → Int32) → (Nat → Int32) → (Nat → Int32) → (Nat → Int32) → (Nat → Int32) → Int32 → Prop) (vZ_board vZ_level vZ_queue vZ_isEnd vZ_cheapest vZ_marbles : Nat → Int32) (x1 x2 x3 : Int32) : Prop := ∀ P7 : (Nat → Int32) → (Nat → Int32) → (Nat → Int32) → (Nat → Int32) → (Nat → Int32) → (Nat → Int32) → Int32 → Int32 → Int32 → Prop, (∀ (vZ_board vZ_level vZ_queue vZ_isEnd vZ_cheapest vZ_marbles : Nat → Int32) (x1 x2 x3 : Int32), wb_X7_best_7 vZ_players vZ_fill vZ_patience vZ_turn vZ_made vZ_out vZ_finishers vZ_thrown vZ_camp vZ_next vZ_far vZ_cells K7 P7 vZ_board vZ_level vZ_queue vZ_isEnd vZ_cheapest vZ_marbles x1 x2 x3 → P7 vZ_board vZ_level vZ_queue vZ_isEnd vZ_cheapest vZ_marbles x1 x2 x3) → P7 vZ_board vZ_level vZ_queue vZ_isEnd vZ_cheapest vZ_marbles x1 x2 x3
def wp_X7_best (vZ_players vZ_fill vZ_patience vZ_turn vZ_made vZ_out vZ_finishers vZ_thrown : Int32) (vZ_camp vZ_next vZ_far vZ_cells vZ_board vZ_level vZ_queue vZ_isEnd vZ_cheapest vZ_marbles : Nat → Int32) (Q : Int32 → (Nat → Int32) → (Nat → Int32) → (Nat → Int32) → (Nat → Int32) → (Nat → Int32) → (Nat → Int32) → Prop) : Prop :=
 wl_X7_best_7 vZ_players vZ_fill vZ_patience vZ_turn vZ_made vZ_out vZ_finishers vZ_thrown vZ_camp vZ_next vZ_far vZ_cells (fun vZ_board_19 vZ_level_20 vZ_queue_21 vZ_isEnd_22 vZ_cheapest_23 vZ_marbles_24 x1_25 => Q x1_25 vZ_board_19 vZ_level_20 vZ_queue_21 vZ_isEnd_22 vZ_cheapest_23 vZ_marbles_24) vZ_board vZ_level vZ_queue vZ_isEnd vZ_cheapest vZ_marbles (-1 : Int32) (1000000 : Int32) (0 : Int32)
set_option maxHeartbeats 4000000 in
set_option maxRecDepth 100000 in
theorem b_X7_best {p : Program} {e : Env} {s : State} {m : MethodId} {args : Array Value} {below : List Frame} {meth : Method} {c : Code} {QQ : State → Prop} {A : Nat → Prop} {ls : Array Slot} (l : Launch) (D : va_G) (ad : Nat → Nat) (cs : Nat → ClassId) (vZ_players vZ_fill vZ_patience vZ_turn vZ_made vZ_out vZ_finishers vZ_thrown : Int32) (vZ_camp vZ_next vZ_far vZ_cells vZ_board vZ_level vZ_queue vZ_isEnd vZ_cheapest vZ_marbles : Nat → Int32) (Q : Int32 → (Nat → Int32) → (Nat → Int32) → (Nat → Int32) → (Nat → Int32) → (Nat → Int32) → (Nat → Int32) → Prop) (hx : p.tables.exec = Jvm.exec) (hb : c.code = cX7_best) (hml : c.maxLocals = 7) (hown : s.vm.findClass RX7 = some m.cls) (hts : ∀ w ∈ wsX7_best, w.before args s = true) (hN : NW s) (hP : va_P D vwCl (cl_X7_best ad cs vZ_players vZ_fill vZ_patience vZ_turn vZ_made vZ_out vZ_finishers vZ_thrown vZ_camp vZ_next vZ_far vZ_cells vZ_board vZ_level vZ_queue vZ_isEnd vZ_cheapest vZ_marbles) s.heap) (hK : va_K D vwCl (ty_X7_best cs) s) (hD : va_D A (cl_X7_best ad cs vZ_players vZ_fill vZ_patience vZ_turn vZ_made vZ_out vZ_finishers vZ_thrown vZ_camp vZ_next vZ_far vZ_cells vZ_board vZ_level vZ_queue vZ_isEnd vZ_cheapest vZ_marbles)) (hA : ∀ q : Nat, s.heap.size ≤ q → A q) (hl : lv_has ls 7 [(0, .ref (ad 28))])
  (hret : ∀ (r : Int32) (o0 : Nat → Int32) (o1 : Nat → Int32) (o2 : Nat → Int32) (o3 : Nat → Int32) (o4 : Nat → Int32) (o5 : Nat → Int32) (H : Heap) (locs : List Loc) (pc : Nat) (ls : Array Slot), Q r o0 o1 o2 o3 o4 o5 → va_P D vwCl (cl_X7_best ad cs vZ_players vZ_fill vZ_patience vZ_turn vZ_made vZ_out vZ_finishers vZ_thrown vZ_camp vZ_next vZ_far vZ_cells o0 o1 o2 o3 o4 o5) H → va_D A (cl_X7_best ad cs vZ_players vZ_fill vZ_patience vZ_turn vZ_made vZ_out vZ_finishers vZ_thrown vZ_camp vZ_next vZ_far vZ_cells o0 o1 o2 o3 o4 o5) → va_S A s.heap H locs → decode cX7_best pc = .ok (.ireturn, 1) → W p l e rm_X7_best s m args below meth c H locs 0 0 QQ (F0 m pc ls [.int r]))
  (hw : wp_X7_best vZ_players vZ_fill vZ_patience vZ_turn vZ_made vZ_out vZ_finishers vZ_thrown vZ_camp vZ_next vZ_far vZ_cells vZ_board vZ_level vZ_queue vZ_isEnd vZ_cheapest vZ_marbles Q) :
  W p l e rm_X7_best s m args below meth c s.heap [] 0 0 QQ (F0 m 0 ls []) := by
  have S0 : CallFix p m c cX7_best 7 s args wsX7_best RX7 := ⟨hx, hb, hml, hown, hts⟩
  have inX7 : ∀ w ∈ u_ws RX7 TX7 27, w ∈ wsX7_best := by decide +kernel
  have fl_32 := hts (.fieldLink RX7 32 "HopperCourtModel" "board" "[I") (by decide +kernel)
  have fl_62 := hts (.fieldLink RX7 62 "HopperCourtModel" "isEnd" "[Z") (by decide +kernel)
  have fl_83 := hts (.fieldLink RX7 83 "HopperCourtModel" "turn" "I") (by decide +kernel)
  have hJ115 : ∀ (vZ_board vZ_level vZ_queue vZ_isEnd vZ_cheapest vZ_marbles : Nat → Int32) (x2 x3 x6 t0 : Int32) (P7 : (Nat → Int32) → (Nat → Int32) → (Nat → Int32) → (Nat → Int32) → (Nat → Int32) → (Nat → Int32) → Int32 → Int32 → Int32 → Prop), wJ_X7_best_115 vZ_board vZ_level vZ_queue vZ_isEnd vZ_cheapest vZ_marbles x2 x3 x6 t0 P7 → (∀ (vZ_board vZ_level vZ_queue vZ_isEnd vZ_cheapest vZ_marbles : Nat → Int32) (x1 x2 x3 : Int32), P7 vZ_board vZ_level vZ_queue vZ_isEnd vZ_cheapest vZ_marbles x1 x2 x3 → ∀ (H : Heap) (locs : List Loc) (ls : Array Slot), va_P D vwCl (cl_X7_best ad cs vZ_players vZ_fill vZ_patience vZ_turn vZ_made vZ_out vZ_finishers vZ_thrown vZ_camp vZ_next vZ_far vZ_cells vZ_board vZ_level vZ_queue vZ_isEnd vZ_cheapest vZ_marbles) H → va_D A (cl_X7_best ad cs vZ_players vZ_fill vZ_patience vZ_turn vZ_made vZ_out vZ_finishers vZ_thrown vZ_camp vZ_next vZ_far vZ_cells vZ_board vZ_level vZ_queue vZ_isEnd vZ_cheapest vZ_marbles) → va_S A s.heap H locs → lv_has ls 7 [(0, .ref (ad 28)), (1, .int x1), (2, .int x2), (3, .int x3)] → W p l e rm_X7_best s m args below meth c H locs 0 0 QQ (F0 m 7 ls [])) → ∀ (H : Heap) (locs : List Loc) (ls : Array Slot), va_P D vwCl (cl_X7_best ad cs vZ_players vZ_fill vZ_patience vZ_turn vZ_made vZ_out vZ_finishers vZ_thrown vZ_camp vZ_next vZ_far vZ_cells vZ_board vZ_level vZ_queue vZ_isEnd vZ_cheapest vZ_marbles) H → va_D A (cl_X7_best ad cs vZ_players vZ_fill vZ_patience vZ_turn vZ_made vZ_out vZ_finishers vZ_thrown vZ_camp vZ_next vZ_far vZ_cells vZ_board vZ_level vZ_queue vZ_isEnd vZ_cheapest vZ_marbles) → va_S A s.heap H locs → lv_has ls 7 [(0, .ref (ad 28)), (2, .int x2), (3, .int x3), (6, .int x6)] → W p l e rm_X7_best s m args below meth c H locs 0 0 QQ (F0 m 115 ls [.int t0]) := by
    intro vZ_board vZ_level vZ_queue vZ_isEnd vZ_cheapest vZ_marbles x2 x3 x6 t0 P7 hw hB7 H locs ls hP hD hS hl
    unfold wJ_X7_best_115 at hw
    refine lv_istore_n (lv' := [(1, .int t0), (0, .ref (ad 28)), (2, .int x2), (3, .int x3), (6, .int x6)]) hx hb dX7_best_115 rfl hl (by decide) rfl (fun ls hl => ?_)
    refine lv_iload hx hb dX7_best_116 (lv_at hl 4 rfl) ?_
    refine lv_iload_n hx hb dX7_best_118 rfl (lv_at hl 2 rfl) ?_
    refine lv_icmp_ge (tgt := 127) hx hb dX7_best_119 (by decide) (fun c_1 => ?_) (fun c_1 => ?_)
    · have hw := hw.1 c_1
      refine lv_iload_n hx hb dX7_best_127 rfl (lv_at hl 2 rfl) ?_
      refine lv_istore_n (lv' := [(2, .int x2), (1, .int t0), (0, .ref (ad 28)), (3, .int x3), (6, .int x6)]) hx hb dX7_best_128 rfl hl (by decide) rfl (fun ls hl => ?_)
      refine lv_iinc (v := (x3 + (1 : Int32))) (lv' := [(3, .int (x3 + (1 : Int32))), (2, .int x2), (1, .int t0), (0, .ref (ad 28)), (6, .int x6)]) hx hb dX7_best_129 hl (k := 3) rfl rfl (by decide) rfl (fun ls hl => ?_)
      refine lv_goto (tgt := 7) hx hb dX7_best_132 (by decide) ?_
      exact hB7 vZ_board vZ_level vZ_queue vZ_isEnd vZ_cheapest vZ_marbles t0 x2 (x3 + (1 : Int32)) hw _ _ _ hP hD hS (lv_sub hl [3, 2, 1, 0] rfl)
    · have hw := hw.2 c_1
      refine lv_iload hx hb dX7_best_122 (lv_at hl 4 rfl) ?_
      refine lv_goto (tgt := 128) hx hb dX7_best_124 (by decide) ?_
      refine lv_istore_n (lv' := [(2, .int x6), (1, .int t0), (0, .ref (ad 28)), (3, .int x3), (6, .int x6)]) hx hb dX7_best_128 rfl hl (by decide) rfl (fun ls hl => ?_)
      refine lv_iinc (v := (x3 + (1 : Int32))) (lv' := [(3, .int (x3 + (1 : Int32))), (2, .int x6), (1, .int t0), (0, .ref (ad 28)), (6, .int x6)]) hx hb dX7_best_129 hl (k := 3) rfl rfl (by decide) rfl (fun ls hl => ?_)
      refine lv_goto (tgt := 7) hx hb dX7_best_132 (by decide) ?_
      exact hB7 vZ_board vZ_level vZ_queue vZ_isEnd vZ_cheapest vZ_marbles t0 x6 (x3 + (1 : Int32)) hw _ _ _ hP hD hS (lv_sub hl [3, 2, 1, 0] rfl)
  have hJ46 : ∀ (vZ_board vZ_level vZ_queue vZ_isEnd vZ_cheapest vZ_marbles : Nat → Int32) (x1 x2 x3 x4 x5 : Int32) (P7 : (Nat → Int32) → (Nat → Int32) → (Nat → Int32) → (Nat → Int32) → (Nat → Int32) → (Nat → Int32) → Int32 → Int32 → Int32 → Prop), wJ_X7_best_46 vZ_players vZ_fill vZ_patience vZ_turn vZ_made vZ_out vZ_finishers vZ_thrown vZ_far vZ_cells vZ_board vZ_level vZ_queue vZ_isEnd vZ_cheapest vZ_marbles x1 x2 x3 x4 x5 P7 → (∀ (vZ_board vZ_level vZ_queue vZ_isEnd vZ_cheapest vZ_marbles : Nat → Int32) (x1 x2 x3 : Int32), P7 vZ_board vZ_level vZ_queue vZ_isEnd vZ_cheapest vZ_marbles x1 x2 x3 → ∀ (H : Heap) (locs : List Loc) (ls : Array Slot), va_P D vwCl (cl_X7_best ad cs vZ_players vZ_fill vZ_patience vZ_turn vZ_made vZ_out vZ_finishers vZ_thrown vZ_camp vZ_next vZ_far vZ_cells vZ_board vZ_level vZ_queue vZ_isEnd vZ_cheapest vZ_marbles) H → va_D A (cl_X7_best ad cs vZ_players vZ_fill vZ_patience vZ_turn vZ_made vZ_out vZ_finishers vZ_thrown vZ_camp vZ_next vZ_far vZ_cells vZ_board vZ_level vZ_queue vZ_isEnd vZ_cheapest vZ_marbles) → va_S A s.heap H locs → lv_has ls 7 [(0, .ref (ad 28)), (1, .int x1), (2, .int x2), (3, .int x3)] → W p l e rm_X7_best s m args below meth c H locs 0 0 QQ (F0 m 7 ls [])) → ∀ (H : Heap) (locs : List Loc) (ls : Array Slot), va_P D vwCl (cl_X7_best ad cs vZ_players vZ_fill vZ_patience vZ_turn vZ_made vZ_out vZ_finishers vZ_thrown vZ_camp vZ_next vZ_far vZ_cells vZ_board vZ_level vZ_queue vZ_isEnd vZ_cheapest vZ_marbles) H → va_D A (cl_X7_best ad cs vZ_players vZ_fill vZ_patience vZ_turn vZ_made vZ_out vZ_finishers vZ_thrown vZ_camp vZ_next vZ_far vZ_cells vZ_board vZ_level vZ_queue vZ_isEnd vZ_cheapest vZ_marbles) → va_S A s.heap H locs → lv_has ls 7 [(0, .ref (ad 28)), (1, .int x1), (2, .int x2), (3, .int x3), (4, .int x4), (5, .int x5)] → W p l e rm_X7_best s m args below meth c H locs 0 0 QQ (F0 m 46 ls []) := by
    intro vZ_board vZ_level vZ_queue vZ_isEnd vZ_cheapest vZ_marbles x1 x2 x3 x4 x5 P7 hw hB7 H locs ls hP hD hS hl
    unfold wJ_X7_best_46 at hw
    refine lv_aload_n hx hb dX7_best_46 rfl (lv_at hl 0 rfl) ?_
    refine va_get (D := D) (ci := 7) (v := .ref (ad 45)) (C := RX7) (T := TX7) (N := 27) hx hb hts inX7 hown hK hP 0 rfl rfl 23 (by decide) fl_62 (fun _ h9 => h9) rfl dX7_best_47 ?_
    refine lv_iload hx hb dX7_best_50 (lv_at hl 5 rfl) ?_
    obtain ⟨h_2, hw⟩ := hw
    refine va_zald hx hb hK hP 8 7 rfl rfl h_2 dX7_best_52 ?_
    refine lv_if_eq (tgt := 129) hx hb dX7_best_53 (by decide) (fun c_3 => ?_) (fun c_3 => ?_)
    · have hw := hw.1 c_3
      refine lv_iinc (v := (x3 + (1 : Int32))) (lv' := [(3, .int (x3 + (1 : Int32))), (0, .ref (ad 28)), (1, .int x1), (2, .int x2), (4, .int x4), (5, .int x5)]) hx hb dX7_best_129 hl (k := 3) rfl rfl (by decide) rfl (fun ls hl => ?_)
      refine lv_goto (tgt := 7) hx hb dX7_best_132 (by decide) ?_
      exact hB7 vZ_board vZ_level vZ_queue vZ_isEnd vZ_cheapest vZ_marbles x1 x2 (x3 + (1 : Int32)) hw _ _ _ hP hD hS (lv_sub hl [1, 2, 3, 0] rfl)
    · have hw := hw.2 c_3
      refine lv_aload_n hx hb dX7_best_56 rfl (lv_at hl 0 rfl) ?_
      refine va_get (D := D) (ci := 7) (v := .ref (ad 35)) (C := RX7) (T := TX7) (N := 27) hx hb hts inX7 hown hK hP 0 rfl rfl 9 (by decide) fl_32 (fun _ h9 => h9) rfl dX7_best_57 ?_
      refine lv_iload hx hb dX7_best_60 (lv_at hl 5 rfl) ?_
      refine lv_aload_n hx hb dX7_best_62 rfl (lv_at hl 0 rfl) ?_
      refine va_get (D := D) (ci := 7) (v := .int vZ_turn) (C := RX7) (T := TX7) (N := 27) hx hb hts inX7 hown hK hP 0 rfl rfl 10 (by decide) fl_83 (fun _ h9 => h9) rfl dX7_best_63 ?_
      obtain ⟨h_4, hw⟩ := hw
      refine va_iast hx hb hK hP hD hS 5 4 rfl rfl h_4 dX7_best_66 (fun H locs hP hD hS => ?_)
      have hP : va_P D vwCl (cl_X7_best ad cs vZ_players vZ_fill vZ_patience vZ_turn vZ_made vZ_out vZ_finishers vZ_thrown vZ_camp vZ_next vZ_far vZ_cells (upd vZ_board x5.toNatClampNeg vZ_turn) vZ_level vZ_queue vZ_isEnd vZ_cheapest vZ_marbles) H := hP
      have hD : va_D A (cl_X7_best ad cs vZ_players vZ_fill vZ_patience vZ_turn vZ_made vZ_out vZ_finishers vZ_thrown vZ_camp vZ_next vZ_far vZ_cells (upd vZ_board x5.toNatClampNeg vZ_turn) vZ_level vZ_queue vZ_isEnd vZ_cheapest vZ_marbles) := hD
      refine lv_aload_n hx hb dX7_best_67 rfl (lv_at hl 0 rfl) ?_
      refine va_get (D := D) (ci := 7) (v := .ref (ad 35)) (C := RX7) (T := TX7) (N := 27) hx hb hts inX7 hown hK hP 0 rfl rfl 9 (by decide) fl_32 (fun _ h9 => h9) rfl dX7_best_68 ?_
      refine lv_iload hx hb dX7_best_71 (lv_at hl 4 rfl) ?_
      refine lv_iconst (v := (-1 : Int32)) hx hb dX7_best_73 (by decide) ?_
      obtain ⟨h_5, hw⟩ := hw
      refine va_iast hx hb hK hP hD hS 5 4 rfl rfl h_5 dX7_best_74 (fun H locs hP hD hS => ?_)
      have hP : va_P D vwCl (cl_X7_best ad cs vZ_players vZ_fill vZ_patience vZ_turn vZ_made vZ_out vZ_finishers vZ_thrown vZ_camp vZ_next vZ_far vZ_cells (upd (upd vZ_board x5.toNatClampNeg vZ_turn) x4.toNatClampNeg (-1 : Int32)) vZ_level vZ_queue vZ_isEnd vZ_cheapest vZ_marbles) H := hP
      have hD : va_D A (cl_X7_best ad cs vZ_players vZ_fill vZ_patience vZ_turn vZ_made vZ_out vZ_finishers vZ_thrown vZ_camp vZ_next vZ_far vZ_cells (upd (upd vZ_board x5.toNatClampNeg vZ_turn) x4.toNatClampNeg (-1 : Int32)) vZ_level vZ_queue vZ_isEnd vZ_cheapest vZ_marbles) := hD
      refine lv_aload_n hx hb dX7_best_75 rfl (lv_at hl 0 rfl) ?_
      refine lv_aload_n hx hb dX7_best_76 rfl (lv_at hl 0 rfl) ?_
      refine va_get (D := D) (ci := 7) (v := .int vZ_turn) (C := RX7) (T := TX7) (N := 27) hx hb hts inX7 hown hK hP 0 rfl rfl 10 (by decide) fl_83 (fun _ h9 => h9) rfl dX7_best_77 ?_
      refine pcVi (rest := []) (wr := [((ad 31), .inl ((cs 31), 121, .inl vZ_camp)), ((ad 32), .inl ((cs 32), 726, .inl vZ_next)), ((ad 43), .inl ((cs 43), 121, .inl vZ_level)), ((ad 44), .inl ((cs 44), 121, .inl vZ_queue)), ((ad 45), .inl ((cs 45), 121, .inl vZ_isEnd))]) (ci := 7) S0 (c_X7_wayOf l D ad cs H.size vZ_players vZ_fill vZ_patience vZ_turn vZ_made vZ_out vZ_finishers vZ_thrown vZ_far vZ_cells (upd (upd vZ_board x5.toNatClampNeg vZ_turn) x4.toNatClampNeg (-1 : Int32)) vZ_cheapest vZ_marbles vZ_turn _ hw) (cwV 1 hts gX7_best_X7_wayOf rfl rfl rfl (by decide +kernel) ⟨Nat.le_of_ble_eq_true rfl, Nat.le_of_ble_eq_true rfl⟩) hN hK hP hD hS hA [0, 3, 4, 5, 9, 10] [1, 2, 6, 7, 8] [2, 3, 4, 8, 9] ⟨rfl, rfl, rfl, rfl, rfl, by decide⟩ 0 rfl rfl rfl rfl hl.1 (Nat.le_of_ble_eq_true rfl) ⟨Nat.le_of_ble_eq_true rfl, Nat.le_of_ble_eq_true rfl⟩ dX7_best_80 (fun r_6 u H locs hw hP hD hS => ?_)
      obtain ⟨vZ_cheapest_7, vZ_marbles_8⟩ := u
      dsimp only at hw
      have hP : va_P D vwCl (cl_X7_best ad cs vZ_players vZ_fill vZ_patience vZ_turn vZ_made vZ_out vZ_finishers vZ_thrown vZ_camp vZ_next vZ_far vZ_cells (upd (upd vZ_board x5.toNatClampNeg vZ_turn) x4.toNatClampNeg (-1 : Int32)) vZ_level vZ_queue vZ_isEnd vZ_cheapest_7 vZ_marbles_8) H := hP.sub [5, 0, 1, 6, 7, 8, 2, 3, 4, 9, 10] rfl
      have hD : va_D A (cl_X7_best ad cs vZ_players vZ_fill vZ_patience vZ_turn vZ_made vZ_out vZ_finishers vZ_thrown vZ_camp vZ_next vZ_far vZ_cells (upd (upd vZ_board x5.toNatClampNeg vZ_turn) x4.toNatClampNeg (-1 : Int32)) vZ_level vZ_queue vZ_isEnd vZ_cheapest_7 vZ_marbles_8) := hD.sub [5, 0, 1, 6, 7, 8, 2, 3, 4, 9, 10] (by decide) rfl
      refine lv_istore (lv' := [(6, .int r_6), (0, .ref (ad 28)), (1, .int x1), (2, .int x2), (3, .int x3), (4, .int x4), (5, .int x5)]) hx hb dX7_best_83 hl (by decide) rfl (fun ls hl => ?_)
      refine lv_aload_n hx hb dX7_best_85 rfl (lv_at hl 1 rfl) ?_
      refine va_get (D := D) (ci := 7) (v := .ref (ad 35)) (C := RX7) (T := TX7) (N := 27) hx hb hts inX7 hown hK hP 0 rfl rfl 9 (by decide) fl_32 (fun _ h9 => h9) rfl dX7_best_86 ?_
      refine lv_iload hx hb dX7_best_89 (lv_at hl 6 rfl) ?_
      refine lv_iconst (v := (-1 : Int32)) hx hb dX7_best_91 (by decide) ?_
      obtain ⟨h_9, hw⟩ := hw
      refine va_iast hx hb hK hP hD hS 5 4 rfl rfl h_9 dX7_best_92 (fun H locs hP hD hS => ?_)
      have hP : va_P D vwCl (cl_X7_best ad cs vZ_players vZ_fill vZ_patience vZ_turn vZ_made vZ_out vZ_finishers vZ_thrown vZ_camp vZ_next vZ_far vZ_cells (upd (upd (upd vZ_board x5.toNatClampNeg vZ_turn) x4.toNatClampNeg (-1 : Int32)) x5.toNatClampNeg (-1 : Int32)) vZ_level vZ_queue vZ_isEnd vZ_cheapest_7 vZ_marbles_8) H := hP
      have hD : va_D A (cl_X7_best ad cs vZ_players vZ_fill vZ_patience vZ_turn vZ_made vZ_out vZ_finishers vZ_thrown vZ_camp vZ_next vZ_far vZ_cells (upd (upd (upd vZ_board x5.toNatClampNeg vZ_turn) x4.toNatClampNeg (-1 : Int32)) x5.toNatClampNeg (-1 : Int32)) vZ_level vZ_queue vZ_isEnd vZ_cheapest_7 vZ_marbles_8) := hD
      refine lv_aload_n hx hb dX7_best_93 rfl (lv_at hl 1 rfl) ?_
      refine va_get (D := D) (ci := 7) (v := .ref (ad 35)) (C := RX7) (T := TX7) (N := 27) hx hb hts inX7 hown hK hP 0 rfl rfl 9 (by decide) fl_32 (fun _ h9 => h9) rfl dX7_best_94 ?_
      refine lv_iload hx hb dX7_best_97 (lv_at hl 5 rfl) ?_
      refine lv_aload_n hx hb dX7_best_99 rfl (lv_at hl 1 rfl) ?_
      refine va_get (D := D) (ci := 7) (v := .int vZ_turn) (C := RX7) (T := TX7) (N := 27) hx hb hts inX7 hown hK hP 0 rfl rfl 10 (by decide) fl_83 (fun _ h9 => h9) rfl dX7_best_100 ?_
      obtain ⟨h_10, hw⟩ := hw
      refine va_iast hx hb hK hP hD hS 5 4 rfl rfl h_10 dX7_best_103 (fun H locs hP hD hS => ?_)
      have hP : va_P D vwCl (cl_X7_best ad cs vZ_players vZ_fill vZ_patience vZ_turn vZ_made vZ_out vZ_finishers vZ_thrown vZ_camp vZ_next vZ_far vZ_cells (upd (upd (upd (upd vZ_board x5.toNatClampNeg vZ_turn) x4.toNatClampNeg (-1 : Int32)) x5.toNatClampNeg (-1 : Int32)) x4.toNatClampNeg vZ_turn) vZ_level vZ_queue vZ_isEnd vZ_cheapest_7 vZ_marbles_8) H := hP
      have hD : va_D A (cl_X7_best ad cs vZ_players vZ_fill vZ_patience vZ_turn vZ_made vZ_out vZ_finishers vZ_thrown vZ_camp vZ_next vZ_far vZ_cells (upd (upd (upd (upd vZ_board x5.toNatClampNeg vZ_turn) x4.toNatClampNeg (-1 : Int32)) x5.toNatClampNeg (-1 : Int32)) x4.toNatClampNeg vZ_turn) vZ_level vZ_queue vZ_isEnd vZ_cheapest_7 vZ_marbles_8) := hD
      refine lv_iload hx hb dX7_best_104 (lv_at hl 0 rfl) ?_
      refine lv_iload_n hx hb dX7_best_106 rfl (lv_at hl 3 rfl) ?_
      refine lv_icmp_ge (tgt := 114) hx hb dX7_best_107 (by decide) (fun c_11 => ?_) (fun c_11 => ?_)
      · have hw := hw.1 c_11
        refine lv_iload_n hx hb dX7_best_114 rfl (lv_at hl 2 rfl) ?_
        exact hJ115 (upd (upd (upd (upd vZ_board x5.toNatClampNeg vZ_turn) x4.toNatClampNeg (-1 : Int32)) x5.toNatClampNeg (-1 : Int32)) x4.toNatClampNeg vZ_turn) vZ_level vZ_queue vZ_isEnd vZ_cheapest_7 vZ_marbles_8 x2 x3 r_6 x1 _ hw hB7 _ _ _ hP hD hS (lv_sub hl [1, 3, 4, 0] rfl)
      · have hw := hw.2 c_11
        refine lv_iload_n hx hb dX7_best_110 rfl (lv_at hl 4 rfl) ?_
        refine lv_goto (tgt := 115) hx hb dX7_best_111 (by decide) ?_
        exact hJ115 (upd (upd (upd (upd vZ_board x5.toNatClampNeg vZ_turn) x4.toNatClampNeg (-1 : Int32)) x5.toNatClampNeg (-1 : Int32)) x4.toNatClampNeg vZ_turn) vZ_level vZ_queue vZ_isEnd vZ_cheapest_7 vZ_marbles_8 x2 x3 r_6 x3 _ hw hB7 _ _ _ hP hD hS (lv_sub hl [1, 3, 4, 0] rfl)
  have hL7 : ∀ (K7 : (Nat → Int32) → (Nat → Int32) → (Nat → Int32) → (Nat → Int32) → (Nat → Int32) → (Nat → Int32) → Int32 → Prop) (vZ_board vZ_level vZ_queue vZ_isEnd vZ_cheapest vZ_marbles : Nat → Int32) (x1 x2 x3 : Int32), wl_X7_best_7 vZ_players vZ_fill vZ_patience vZ_turn vZ_made vZ_out vZ_finishers vZ_thrown vZ_camp vZ_next vZ_far vZ_cells K7 vZ_board vZ_level vZ_queue vZ_isEnd vZ_cheapest vZ_marbles x1 x2 x3 → (∀ (vZ_board vZ_level vZ_queue vZ_isEnd vZ_cheapest vZ_marbles : Nat → Int32) (x1 : Int32), K7 vZ_board vZ_level vZ_queue vZ_isEnd vZ_cheapest vZ_marbles x1 → ∀ (H : Heap) (locs : List Loc) (ls : Array Slot), va_P D vwCl (cl_X7_best ad cs vZ_players vZ_fill vZ_patience vZ_turn vZ_made vZ_out vZ_finishers vZ_thrown vZ_camp vZ_next vZ_far vZ_cells vZ_board vZ_level vZ_queue vZ_isEnd vZ_cheapest vZ_marbles) H → va_D A (cl_X7_best ad cs vZ_players vZ_fill vZ_patience vZ_turn vZ_made vZ_out vZ_finishers vZ_thrown vZ_camp vZ_next vZ_far vZ_cells vZ_board vZ_level vZ_queue vZ_isEnd vZ_cheapest vZ_marbles) → va_S A s.heap H locs → lv_has ls 7 [(1, .int x1)] → W p l e rm_X7_best s m args below meth c H locs 0 0 QQ (F0 m 135 ls [])) → ∀ (H : Heap) (locs : List Loc) (ls : Array Slot), va_P D vwCl (cl_X7_best ad cs vZ_players vZ_fill vZ_patience vZ_turn vZ_made vZ_out vZ_finishers vZ_thrown vZ_camp vZ_next vZ_far vZ_cells vZ_board vZ_level vZ_queue vZ_isEnd vZ_cheapest vZ_marbles) H → va_D A (cl_X7_best ad cs vZ_players vZ_fill vZ_patience vZ_turn vZ_made vZ_out vZ_finishers vZ_thrown vZ_camp vZ_next vZ_far vZ_cells vZ_board vZ_level vZ_queue vZ_isEnd vZ_cheapest vZ_marbles) → va_S A s.heap H locs → lv_has ls 7 [(0, .ref (ad 28)), (1, .int x1), (2, .int x2), (3, .int x3)] → W p l e rm_X7_best s m args below meth c H locs 0 0 QQ (F0 m 7 ls []) := by
    intro K7 vZ_board vZ_level vZ_queue vZ_isEnd vZ_cheapest vZ_marbles x1 x2 x3 hw hK7
    unfold wl_X7_best_7 at hw
    refine hw (fun (vZ_board vZ_level vZ_queue vZ_isEnd vZ_cheapest vZ_marbles : Nat → Int32) (x1 x2 x3 : Int32) => ∀ (H : Heap) (locs : List Loc) (ls : Array Slot), va_P D vwCl (cl_X7_best ad cs vZ_players vZ_fill vZ_patience vZ_turn vZ_made vZ_out vZ_finishers vZ_thrown vZ_camp vZ_next vZ_far vZ_cells vZ_board vZ_level vZ_queue vZ_isEnd vZ_cheapest vZ_marbles) H → va_D A (cl_X7_best ad cs vZ_players vZ_fill vZ_patience vZ_turn vZ_made vZ_out vZ_finishers vZ_thrown vZ_camp vZ_next vZ_far vZ_cells vZ_board vZ_level vZ_queue vZ_isEnd vZ_cheapest vZ_marbles) → va_S A s.heap H locs → lv_has ls 7 [(0, .ref (ad 28)), (1, .int x1), (2, .int x2), (3, .int x3)] → W p l e rm_X7_best s m args below meth c H locs 0 0 QQ (F0 m 7 ls [])) ?_
    intro vZ_board vZ_level vZ_queue vZ_isEnd vZ_cheapest vZ_marbles x1 x2 x3 hw H locs ls hP hD hS hl
    unfold wb_X7_best_7 at hw
    refine lv_iload_n hx hb dX7_best_7 rfl (lv_at hl 3 rfl) ?_
    refine lv_sipush (v := (14641 : Int32)) hx hb dX7_best_8 (by decide) ?_
    refine lv_icmp_ge (tgt := 135) hx hb dX7_best_11 (by decide) (fun c_12 => ?_) (fun c_12 => ?_)
    · have hw := hw.1 c_12
      exact hK7 vZ_board vZ_level vZ_queue vZ_isEnd vZ_cheapest vZ_marbles x1 hw _ _ _ hP hD hS (lv_sub hl [1] rfl)
    · have hw := hw.2 c_12
      refine lv_aload_n hx hb dX7_best_14 rfl (lv_at hl 0 rfl) ?_
      refine va_get (D := D) (ci := 7) (v := .int vZ_turn) (C := RX7) (T := TX7) (N := 27) hx hb hts inX7 hown hK hP 0 rfl rfl 10 (by decide) fl_83 (fun _ h9 => h9) rfl dX7_best_15 ?_
      refine lv_iconst (v := (-1 : Int32)) hx hb dX7_best_18 (by decide) ?_
      refine lv_icmp_eq (tgt := 135) hx hb dX7_best_19 (by decide) (fun c_13 => ?_) (fun c_13 => ?_)
      · have hw := hw.1 c_13
        exact hK7 vZ_board vZ_level vZ_queue vZ_isEnd vZ_cheapest vZ_marbles x1 hw _ _ _ hP hD hS (lv_sub hl [1] rfl)
      · have hw := hw.2 c_13
        refine lv_iload_n hx hb dX7_best_22 rfl (lv_at hl 3 rfl) ?_
        refine lv_bipush (v := (121 : Int32)) hx hb dX7_best_23 (by decide) ?_
        refine lv_idiv hx hb dX7_best_25 (by decide) ?_
        refine lv_istore (lv' := [(4, .int (x3 / (121 : Int32))), (0, .ref (ad 28)), (1, .int x1), (2, .int x2), (3, .int x3)]) hx hb dX7_best_26 hl (by decide) rfl (fun ls hl => ?_)
        refine lv_iload_n hx hb dX7_best_28 rfl (lv_at hl 4 rfl) ?_
        refine lv_bipush (v := (121 : Int32)) hx hb dX7_best_29 (by decide) ?_
        refine lv_irem hx hb dX7_best_31 (by decide) ?_
        refine lv_istore (lv' := [(5, .int (x3 - x3 / (121 : Int32) * (121 : Int32))), (4, .int (x3 / (121 : Int32))), (0, .ref (ad 28)), (1, .int x1), (2, .int x2), (3, .int x3)]) hx hb dX7_best_32 hl (by decide) rfl (fun ls hl => ?_)
        refine lv_iload hx hb dX7_best_34 (lv_at hl 0 rfl) ?_
        refine lv_if_ne (tgt := 46) hx hb dX7_best_36 (by decide) (fun c_14 => ?_) (fun c_14 => ?_)
        · have hw := hw.1 c_14
          exact hJ46 vZ_board vZ_level vZ_queue vZ_isEnd vZ_cheapest vZ_marbles x1 x2 x3 (x3 / (121 : Int32)) (x3 - x3 / (121 : Int32) * (121 : Int32)) _ hw (fun _ _ _ _ _ _ _ _ _ h => h) _ _ _ hP hD hS (lv_sub hl [2, 3, 4, 5, 1, 0] rfl)
        · have hw := hw.2 c_14
          refine lv_aload_n hx hb dX7_best_39 rfl (lv_at hl 2 rfl) ?_
          refine lv_iload hx hb dX7_best_40 (lv_at hl 1 rfl) ?_
          refine pcVi (rest := []) (wr := [((ad 34), .inl ((cs 34), 60, .inl vZ_cells)), ((ad 46), .inl ((cs 46), 1024, .inl vZ_cheapest)), ((ad 47), .inl ((cs 47), 10, .inl vZ_marbles))]) (ci := 7) S0 (c_X7_endsOf l D ad cs H.size vZ_players vZ_fill vZ_patience vZ_turn vZ_made vZ_out vZ_finishers vZ_thrown vZ_camp vZ_next vZ_far vZ_board vZ_level vZ_queue vZ_isEnd (x3 / (121 : Int32)) _ hw) (cwV 1 hts gX7_best_X7_endsOf rfl rfl rfl (by decide +kernel) ⟨Nat.le_of_ble_eq_true rfl, Nat.le_of_ble_eq_true rfl⟩) hN hK hP hD hS hA [0, 1, 2, 3, 5, 6, 7, 8] [4, 9, 10] [0, 1, 2, 4, 5, 6, 7] ⟨rfl, rfl, rfl, rfl, rfl, by decide⟩ 0 rfl rfl rfl rfl hl.1 (Nat.le_of_ble_eq_true rfl) ⟨Nat.le_of_ble_eq_true rfl, Nat.le_of_ble_eq_true rfl⟩ dX7_best_42 (fun r_15 u H locs hw hP hD hS => ?_)
          obtain ⟨vZ_level_16, vZ_queue_17, vZ_isEnd_18⟩ := u
          dsimp only at hw
          have hP : va_P D vwCl (cl_X7_best ad cs vZ_players vZ_fill vZ_patience vZ_turn vZ_made vZ_out vZ_finishers vZ_thrown vZ_camp vZ_next vZ_far vZ_cells vZ_board vZ_level_16 vZ_queue_17 vZ_isEnd_18 vZ_cheapest vZ_marbles) H := hP.sub [3, 4, 5, 6, 0, 7, 8, 9, 10, 1, 2] rfl
          have hD : va_D A (cl_X7_best ad cs vZ_players vZ_fill vZ_patience vZ_turn vZ_made vZ_out vZ_finishers vZ_thrown vZ_camp vZ_next vZ_far vZ_cells vZ_board vZ_level_16 vZ_queue_17 vZ_isEnd_18 vZ_cheapest vZ_marbles) := hD.sub [3, 4, 5, 6, 0, 7, 8, 9, 10, 1, 2] (by decide) rfl
          refine lv_pop hx hb dX7_best_45 rfl ?_
          exact hJ46 vZ_board vZ_level_16 vZ_queue_17 vZ_isEnd_18 vZ_cheapest vZ_marbles x1 x2 x3 (x3 / (121 : Int32)) (x3 - x3 / (121 : Int32) * (121 : Int32)) _ hw (fun _ _ _ _ _ _ _ _ _ h => h) _ _ _ hP hD hS (lv_sub hl [2, 3, 4, 5, 1, 0] rfl)
  obtain ⟨H, hH⟩ : ∃ H : Heap, H = s.heap := ⟨_, rfl⟩
  have hS : va_S A s.heap H [] := by rw [hH]; exact va_S.rf
  rw [← hH] at hP ⊢
  unfold wp_X7_best at hw
  refine lv_iconst (v := (-1 : Int32)) hx hb dX7_best_0 (by decide) ?_
  refine lv_istore_n (lv' := [(1, .int (-1 : Int32)), (0, .ref (ad 28))]) hx hb dX7_best_1 rfl hl (by decide) rfl (fun ls hl => ?_)
  refine lv_ldc hx hb hown (hts (.constant RX7 165 (1000000)) (by decide +kernel)) dX7_best_2 ?_
  refine lv_istore_n (lv' := [(2, .int (1000000 : Int32)), (1, .int (-1 : Int32)), (0, .ref (ad 28))]) hx hb dX7_best_4 rfl hl (by decide) rfl (fun ls hl => ?_)
  refine lv_iconst (v := (0 : Int32)) hx hb dX7_best_5 (by decide) ?_
  refine lv_istore_n (lv' := [(3, .int (0 : Int32)), (2, .int (1000000 : Int32)), (1, .int (-1 : Int32)), (0, .ref (ad 28))]) hx hb dX7_best_6 rfl hl (by decide) rfl (fun ls hl => ?_)
  refine hL7 _ vZ_board vZ_level vZ_queue vZ_isEnd vZ_cheapest vZ_marbles (-1 : Int32) (1000000 : Int32) (0 : Int32) hw ?_ _ _ _ hP hD hS (lv_sub hl [3, 2, 1, 0] rfl)
  intro vZ_board_19 vZ_level_20 vZ_queue_21 vZ_isEnd_22 vZ_cheapest_23 vZ_marbles_24 x1_25 hw H locs ls hP hD hS hl
  refine lv_iload_n hx hb dX7_best_135 rfl (lv_at hl 0 rfl) ?_
  exact hret _ _ _ _ _ _ _ _ _ _ _ hw hP hD hS dX7_best_136
set_option maxHeartbeats 4000000 in
set_option maxRecDepth 100000 in
theorem c_X7_best (l : Launch) (D : va_G) (ad : Nat → Nat) (cs : Nat → ClassId) (sz : Nat) (vZ_players vZ_fill vZ_patience vZ_turn vZ_made vZ_out vZ_finishers vZ_thrown : Int32) (vZ_camp vZ_next vZ_far vZ_cells vZ_board vZ_level vZ_queue vZ_isEnd vZ_cheapest vZ_marbles : Nat → Int32) (Q : Int32 → (Nat → Int32) → (Nat → Int32) → (Nat → Int32) → (Nat → Int32) → (Nat → Int32) → (Nat → Int32) → Prop) (hw : wp_X7_best vZ_players vZ_fill vZ_patience vZ_turn vZ_made vZ_out vZ_finishers vZ_thrown vZ_camp vZ_next vZ_far vZ_cells vZ_board vZ_level vZ_queue vZ_isEnd vZ_cheapest vZ_marbles Q) :
  Met l yX7_best wsX7_best rm_X7_best (va_Pc [.ref (ad 28)] (PX D (cl_X7_best ad cs vZ_players vZ_fill vZ_patience vZ_turn vZ_made vZ_out vZ_finishers vZ_thrown vZ_camp vZ_next vZ_far vZ_cells vZ_board vZ_level vZ_queue vZ_isEnd vZ_cheapest vZ_marbles) (ty_X7_best cs) sz)) (va_Qi (fun (r : Int32) (u : (Nat → Int32) × (Nat → Int32) × (Nat → Int32) × (Nat → Int32) × (Nat → Int32) × (Nat → Int32)) => Q r u.1 u.2.1 u.2.2.1 u.2.2.2.1 u.2.2.2.2.1 u.2.2.2.2.2) (fun (u : (Nat → Int32) × (Nat → Int32) × (Nat → Int32) × (Nat → Int32) × (Nat → Int32) × (Nat → Int32)) t => va_P D vwCl (cl_X7_best ad cs vZ_players vZ_fill vZ_patience vZ_turn vZ_made vZ_out vZ_finishers vZ_thrown vZ_camp vZ_next vZ_far vZ_cells u.1 u.2.1 u.2.2.1 u.2.2.2.1 u.2.2.2.2.1 u.2.2.2.2.2) t.heap ∧ va_D (va_A (cl_X7_best ad cs vZ_players vZ_fill vZ_patience vZ_turn vZ_made vZ_out vZ_finishers vZ_thrown vZ_camp vZ_next vZ_far vZ_cells vZ_board vZ_level vZ_queue vZ_isEnd vZ_cheapest vZ_marbles) sz) (cl_X7_best ad cs vZ_players vZ_fill vZ_patience vZ_turn vZ_made vZ_out vZ_finishers vZ_thrown vZ_camp vZ_next vZ_far vZ_cells u.1 u.2.1 u.2.2.1 u.2.2.2.1 u.2.2.2.2.1 u.2.2.2.2.2)) (va_A (cl_X7_best ad cs vZ_players vZ_fill vZ_patience vZ_turn vZ_made vZ_out vZ_finishers vZ_thrown vZ_camp vZ_next vZ_far vZ_cells vZ_board vZ_level vZ_queue vZ_isEnd vZ_cheapest vZ_marbles) sz)) 0 0 (va_A (cl_X7_best ad cs vZ_players vZ_fill vZ_patience vZ_turn vZ_made vZ_out vZ_finishers vZ_thrown vZ_camp vZ_next vZ_far vZ_cells vZ_board vZ_level vZ_queue vZ_isEnd vZ_cheapest vZ_marbles) sz) := by
  refine Met.ofW (cc := cX7_best) (maxL := 7) (ret := (some .int)) (by decide) rfl ?_
  intro p e s m args below meth c s₁ B hml hv
  obtain ⟨rfl, hsz, hP, hK, hD0, hN⟩ := hv
  subst hsz
  have hl := lv_entry ([.ref (ad 28)]) (n := 7) (Nat.le_of_ble_eq_true rfl)
  rw [lg_entry_eq]
  have hx := B.exec
  have hb := B.bytes
  have hr := B.returns
  exact b_X7_best l D ad cs vZ_players vZ_fill vZ_patience vZ_turn vZ_made vZ_out vZ_finishers vZ_thrown vZ_camp vZ_next vZ_far vZ_cells vZ_board vZ_level vZ_queue vZ_isEnd vZ_cheapest vZ_marbles Q hx hb hml (findClass_of_methodNamed B.named) (atoms_spec (ws := wsX7_best) B.pre) hN hP hK hD0.self (fun q h => Or.inr h) hl (fun r o0 o1 o2 o3 o4 o5 H locs pc ls hq hP hD hS hd => W.iret (v := r) hx hb hr (fun t ht hW => ⟨⟨r, (o0, o1, o2, o3, o4, o5), rfl, hq, by rw [ht]; exact hP, hD⟩, hS.F ht⟩) hS.2.2 hd) hw
abbrev rm_X7_bestFrom : Room := { frames := 4, cells := 0, slots := 0, locals := 102 }
abbrev cl_X7_bestFrom (ad : Nat → Nat) (cs : Nat → ClassId) (vZ_players vZ_fill vZ_patience vZ_turn vZ_made vZ_out vZ_finishers vZ_thrown : Int32) (vZ_camp vZ_next vZ_far vZ_cells vZ_board vZ_level vZ_queue vZ_isEnd vZ_cheapest vZ_marbles : Nat → Int32) : va_W := [((ad 28), .inr (7, [.ref (ad 29), .ref (ad 30), .ref (ad 31), .ref (ad 32), .ref (ad 33), .ref (ad 34), .int vZ_players, .int vZ_fill, .int vZ_patience, .ref (ad 35), .int vZ_turn, .int vZ_made, .int vZ_out, .ref (ad 36), .int vZ_finishers, .ref (ad 37), .ref (ad 38), .ref (ad 39), .ref (ad 40), .ref (ad 41), .ref (ad 42), .ref (ad 43), .ref (ad 44), .ref (ad 45), .ref (ad 46), .ref (ad 47), .int vZ_thrown])), ((ad 31), .inl ((cs 31), 121, .inl vZ_camp)), ((ad 32), .inl ((cs 32), 726, .inl vZ_next)), ((ad 33), .inl ((cs 33), 14641, .inl vZ_far)), ((ad 34), .inl ((cs 34), 60, .inl vZ_cells)), ((ad 35), .inl ((cs 35), 121, .inl vZ_board)), ((ad 43), .inl ((cs 43), 121, .inl vZ_level)), ((ad 44), .inl ((cs 44), 121, .inl vZ_queue)), ((ad 45), .inl ((cs 45), 121, .inl vZ_isEnd)), ((ad 46), .inl ((cs 46), 1024, .inl vZ_cheapest)), ((ad 47), .inl ((cs 47), 10, .inl vZ_marbles))]
abbrev ty_X7_bestFrom (cs : Nat → ClassId) : List (ClassId × FieldType) := [((cs 31), .int), ((cs 32), .int), ((cs 33), .int), ((cs 34), .int), ((cs 35), .int), ((cs 43), .int), ((cs 44), .int), ((cs 45), .boolean), ((cs 46), .int), ((cs 47), .int)]
def wp_X7_bestFrom (vZ_players vZ_fill vZ_patience vZ_turn vZ_made vZ_out vZ_finishers vZ_thrown : Int32) (vZ_camp vZ_next vZ_far vZ_cells vZ_board vZ_level vZ_queue vZ_isEnd vZ_cheapest vZ_marbles : Nat → Int32) (Q : Int32 → Int32 → (Nat → Int32) → (Nat → Int32) → (Nat → Int32) → (Nat → Int32) → (Nat → Int32) → (Nat → Int32) → Prop) : Prop :=
 wp_X7_best vZ_players vZ_fill vZ_patience vZ_turn vZ_made vZ_out vZ_finishers (0 : Int32) vZ_camp vZ_next vZ_far vZ_cells vZ_board vZ_level vZ_queue vZ_isEnd vZ_cheapest vZ_marbles (fun r_1 vZ_board_2 vZ_level_3 vZ_queue_4 vZ_isEnd_5 vZ_cheapest_6 vZ_marbles_7 =>
 ((¬ r_1 = (-1 : Int32) → Q (r_1 / (121 : Int32)) (0 : Int32) vZ_board_2 vZ_level_3 vZ_queue_4 vZ_isEnd_5 vZ_cheapest_6 vZ_marbles_7) ∧
 (r_1 = (-1 : Int32) → Q (-1 : Int32) (0 : Int32) vZ_board_2 vZ_level_3 vZ_queue_4 vZ_isEnd_5 vZ_cheapest_6 vZ_marbles_7)))
set_option maxHeartbeats 4000000 in
set_option maxRecDepth 100000 in
theorem b_X7_bestFrom {p : Program} {e : Env} {s : State} {m : MethodId} {args : Array Value} {below : List Frame} {meth : Method} {c : Code} {QQ : State → Prop} {A : Nat → Prop} {ls : Array Slot} (l : Launch) (D : va_G) (ad : Nat → Nat) (cs : Nat → ClassId) (vZ_players vZ_fill vZ_patience vZ_turn vZ_made vZ_out vZ_finishers vZ_thrown : Int32) (vZ_camp vZ_next vZ_far vZ_cells vZ_board vZ_level vZ_queue vZ_isEnd vZ_cheapest vZ_marbles : Nat → Int32) (Q : Int32 → Int32 → (Nat → Int32) → (Nat → Int32) → (Nat → Int32) → (Nat → Int32) → (Nat → Int32) → (Nat → Int32) → Prop) (hx : p.tables.exec = Jvm.exec) (hb : c.code = cX7_bestFrom) (hml : c.maxLocals = 2) (hown : s.vm.findClass RX7 = some m.cls) (hts : ∀ w ∈ wsX7_bestFrom, w.before args s = true) (hN : NW s) (hP : va_P D vwCl (cl_X7_bestFrom ad cs vZ_players vZ_fill vZ_patience vZ_turn vZ_made vZ_out vZ_finishers vZ_thrown vZ_camp vZ_next vZ_far vZ_cells vZ_board vZ_level vZ_queue vZ_isEnd vZ_cheapest vZ_marbles) s.heap) (hK : va_K D vwCl (ty_X7_bestFrom cs) s) (hD : va_D A (cl_X7_bestFrom ad cs vZ_players vZ_fill vZ_patience vZ_turn vZ_made vZ_out vZ_finishers vZ_thrown vZ_camp vZ_next vZ_far vZ_cells vZ_board vZ_level vZ_queue vZ_isEnd vZ_cheapest vZ_marbles)) (hA : ∀ q : Nat, s.heap.size ≤ q → A q) (hl : lv_has ls 2 [(0, .ref (ad 28))])
  (hret : ∀ (r : Int32) (o0 : Int32) (o1 : Nat → Int32) (o2 : Nat → Int32) (o3 : Nat → Int32) (o4 : Nat → Int32) (o5 : Nat → Int32) (o6 : Nat → Int32) (H : Heap) (locs : List Loc) (pc : Nat) (ls : Array Slot), Q r o0 o1 o2 o3 o4 o5 o6 → va_P D vwCl (cl_X7_bestFrom ad cs vZ_players vZ_fill vZ_patience vZ_turn vZ_made vZ_out vZ_finishers o0 vZ_camp vZ_next vZ_far vZ_cells o1 o2 o3 o4 o5 o6) H → va_D A (cl_X7_bestFrom ad cs vZ_players vZ_fill vZ_patience vZ_turn vZ_made vZ_out vZ_finishers o0 vZ_camp vZ_next vZ_far vZ_cells o1 o2 o3 o4 o5 o6) → va_S A s.heap H locs → decode cX7_bestFrom pc = .ok (.ireturn, 1) → W p l e rm_X7_bestFrom s m args below meth c H locs 0 0 QQ (F0 m pc ls [.int r]))
  (hw : wp_X7_bestFrom vZ_players vZ_fill vZ_patience vZ_turn vZ_made vZ_out vZ_finishers vZ_thrown vZ_camp vZ_next vZ_far vZ_cells vZ_board vZ_level vZ_queue vZ_isEnd vZ_cheapest vZ_marbles Q) :
  W p l e rm_X7_bestFrom s m args below meth c s.heap [] 0 0 QQ (F0 m 0 ls []) := by
  have S0 : CallFix p m c cX7_bestFrom 2 s args wsX7_bestFrom RX7 := ⟨hx, hb, hml, hown, hts⟩
  have inX7 : ∀ w ∈ u_ws RX7 TX7 27, w ∈ wsX7_bestFrom := by decide +kernel
  have fl_86 := hts (.fieldLink RX7 86 "HopperCourtModel" "thrown" "I") (by decide +kernel)
  obtain ⟨H, hH⟩ : ∃ H : Heap, H = s.heap := ⟨_, rfl⟩
  have hS : va_S A s.heap H [] := by rw [hH]; exact va_S.rf
  rw [← hH] at hP ⊢
  unfold wp_X7_bestFrom at hw
  refine lv_aload_n hx hb dX7_bestFrom_0 rfl (lv_at hl 0 rfl) ?_
  refine lv_iconst (v := (0 : Int32)) hx hb dX7_bestFrom_1 (by decide) ?_
  refine va_put (D := D) (ci := 7) (v := .int (0 : Int32)) (ty := .int) (C := RX7) (T := TX7) (N := 27) hx hb hts inX7 tyX7 tyX7_ok nmX7 hown hK hP hD hS 0 rfl rfl 26 (by decide) fl_86 (fun _ h9 => h9) rfl (by decide +kernel) rfl rfl (Nat.le_of_ble_eq_true rfl) dX7_bestFrom_2 (fun H locs hP hD hS => ?_)
  have hP : va_P D vwCl (cl_X7_bestFrom ad cs vZ_players vZ_fill vZ_patience vZ_turn vZ_made vZ_out vZ_finishers (0 : Int32) vZ_camp vZ_next vZ_far vZ_cells vZ_board vZ_level vZ_queue vZ_isEnd vZ_cheapest vZ_marbles) H := hP
  have hD : va_D A (cl_X7_bestFrom ad cs vZ_players vZ_fill vZ_patience vZ_turn vZ_made vZ_out vZ_finishers (0 : Int32) vZ_camp vZ_next vZ_far vZ_cells vZ_board vZ_level vZ_queue vZ_isEnd vZ_cheapest vZ_marbles) := hD
  refine lv_aload_n hx hb dX7_bestFrom_5 rfl (lv_at hl 0 rfl) ?_
  refine pcVi (rest := []) (wr := []) (ci := 7) S0 (c_X7_best l D ad cs H.size vZ_players vZ_fill vZ_patience vZ_turn vZ_made vZ_out vZ_finishers (0 : Int32) vZ_camp vZ_next vZ_far vZ_cells vZ_board vZ_level vZ_queue vZ_isEnd vZ_cheapest vZ_marbles _ hw) (cwV 0 hts gX7_bestFrom_X7_best rfl rfl rfl (by decide +kernel) ⟨Nat.le_of_ble_eq_true rfl, Nat.le_of_ble_eq_true rfl⟩) hN hK hP hD hS hA [0, 1, 2, 3, 4, 5, 6, 7, 8, 9, 10] [] [0, 1, 2, 3, 4, 5, 6, 7, 8, 9] ⟨rfl, rfl, rfl, rfl, rfl, by decide⟩ 0 rfl rfl rfl rfl hl.1 (Nat.le_of_ble_eq_true rfl) ⟨Nat.le_of_ble_eq_true rfl, Nat.le_of_ble_eq_true rfl⟩ dX7_bestFrom_6 (fun r_1 u H locs hw hP hD hS => ?_)
  obtain ⟨vZ_board_2, vZ_level_3, vZ_queue_4, vZ_isEnd_5, vZ_cheapest_6, vZ_marbles_7⟩ := u
  dsimp only at hw
  have hP : va_P D vwCl (cl_X7_bestFrom ad cs vZ_players vZ_fill vZ_patience vZ_turn vZ_made vZ_out vZ_finishers (0 : Int32) vZ_camp vZ_next vZ_far vZ_cells vZ_board_2 vZ_level_3 vZ_queue_4 vZ_isEnd_5 vZ_cheapest_6 vZ_marbles_7) H := hP.sub [0, 1, 2, 3, 4, 5, 6, 7, 8, 9, 10] rfl
  have hD : va_D A (cl_X7_bestFrom ad cs vZ_players vZ_fill vZ_patience vZ_turn vZ_made vZ_out vZ_finishers (0 : Int32) vZ_camp vZ_next vZ_far vZ_cells vZ_board_2 vZ_level_3 vZ_queue_4 vZ_isEnd_5 vZ_cheapest_6 vZ_marbles_7) := hD.sub [0, 1, 2, 3, 4, 5, 6, 7, 8, 9, 10] (by decide) rfl
  refine lv_istore_n (lv' := [(1, .int r_1), (0, .ref (ad 28))]) hx hb dX7_bestFrom_9 rfl hl (by decide) rfl (fun ls hl => ?_)
  refine lv_iload_n hx hb dX7_bestFrom_10 rfl (lv_at hl 0 rfl) ?_
  refine lv_iconst (v := (-1 : Int32)) hx hb dX7_bestFrom_11 (by decide) ?_
  refine lv_icmp_ne (tgt := 19) hx hb dX7_bestFrom_12 (by decide) (fun c_8 => ?_) (fun c_8 => ?_)
  · have hw := hw.1 c_8
    refine lv_iload_n hx hb dX7_bestFrom_19 rfl (lv_at hl 0 rfl) ?_
    refine lv_bipush (v := (121 : Int32)) hx hb dX7_bestFrom_20 (by decide) ?_
    refine lv_idiv hx hb dX7_bestFrom_22 (by decide) ?_
    exact hret _ _ _ _ _ _ _ _ _ _ _ _ hw hP hD hS dX7_bestFrom_23
  · have hw := hw.2 c_8
    refine lv_iconst (v := (-1 : Int32)) hx hb dX7_bestFrom_15 (by decide) ?_
    refine lv_goto (tgt := 23) hx hb dX7_bestFrom_16 (by decide) ?_
    exact hret _ _ _ _ _ _ _ _ _ _ _ _ hw hP hD hS dX7_bestFrom_23
set_option maxHeartbeats 4000000 in
set_option maxRecDepth 100000 in
theorem c_X7_bestFrom (l : Launch) (D : va_G) (ad : Nat → Nat) (cs : Nat → ClassId) (sz : Nat) (vZ_players vZ_fill vZ_patience vZ_turn vZ_made vZ_out vZ_finishers vZ_thrown : Int32) (vZ_camp vZ_next vZ_far vZ_cells vZ_board vZ_level vZ_queue vZ_isEnd vZ_cheapest vZ_marbles : Nat → Int32) (Q : Int32 → Int32 → (Nat → Int32) → (Nat → Int32) → (Nat → Int32) → (Nat → Int32) → (Nat → Int32) → (Nat → Int32) → Prop) (hw : wp_X7_bestFrom vZ_players vZ_fill vZ_patience vZ_turn vZ_made vZ_out vZ_finishers vZ_thrown vZ_camp vZ_next vZ_far vZ_cells vZ_board vZ_level vZ_queue vZ_isEnd vZ_cheapest vZ_marbles Q) :
  Met l yX7_bestFrom wsX7_bestFrom rm_X7_bestFrom (va_Pc [.ref (ad 28)] (PX D (cl_X7_bestFrom ad cs vZ_players vZ_fill vZ_patience vZ_turn vZ_made vZ_out vZ_finishers vZ_thrown vZ_camp vZ_next vZ_far vZ_cells vZ_board vZ_level vZ_queue vZ_isEnd vZ_cheapest vZ_marbles) (ty_X7_bestFrom cs) sz)) (va_Qi (fun (r : Int32) (u : Int32 × (Nat → Int32) × (Nat → Int32) × (Nat → Int32) × (Nat → Int32) × (Nat → Int32) × (Nat → Int32)) => Q r u.1 u.2.1 u.2.2.1 u.2.2.2.1 u.2.2.2.2.1 u.2.2.2.2.2.1 u.2.2.2.2.2.2) (fun (u : Int32 × (Nat → Int32) × (Nat → Int32) × (Nat → Int32) × (Nat → Int32) × (Nat → Int32) × (Nat → Int32)) t => va_P D vwCl (cl_X7_bestFrom ad cs vZ_players vZ_fill vZ_patience vZ_turn vZ_made vZ_out vZ_finishers u.1 vZ_camp vZ_next vZ_far vZ_cells u.2.1 u.2.2.1 u.2.2.2.1 u.2.2.2.2.1 u.2.2.2.2.2.1 u.2.2.2.2.2.2) t.heap ∧ va_D (va_A (cl_X7_bestFrom ad cs vZ_players vZ_fill vZ_patience vZ_turn vZ_made vZ_out vZ_finishers vZ_thrown vZ_camp vZ_next vZ_far vZ_cells vZ_board vZ_level vZ_queue vZ_isEnd vZ_cheapest vZ_marbles) sz) (cl_X7_bestFrom ad cs vZ_players vZ_fill vZ_patience vZ_turn vZ_made vZ_out vZ_finishers u.1 vZ_camp vZ_next vZ_far vZ_cells u.2.1 u.2.2.1 u.2.2.2.1 u.2.2.2.2.1 u.2.2.2.2.2.1 u.2.2.2.2.2.2)) (va_A (cl_X7_bestFrom ad cs vZ_players vZ_fill vZ_patience vZ_turn vZ_made vZ_out vZ_finishers vZ_thrown vZ_camp vZ_next vZ_far vZ_cells vZ_board vZ_level vZ_queue vZ_isEnd vZ_cheapest vZ_marbles) sz)) 0 0 (va_A (cl_X7_bestFrom ad cs vZ_players vZ_fill vZ_patience vZ_turn vZ_made vZ_out vZ_finishers vZ_thrown vZ_camp vZ_next vZ_far vZ_cells vZ_board vZ_level vZ_queue vZ_isEnd vZ_cheapest vZ_marbles) sz) := by
  refine Met.ofW (cc := cX7_bestFrom) (maxL := 2) (ret := (some .int)) (by decide) rfl ?_
  intro p e s m args below meth c s₁ B hml hv
  obtain ⟨rfl, hsz, hP, hK, hD0, hN⟩ := hv
  subst hsz
  have hl := lv_entry ([.ref (ad 28)]) (n := 2) (Nat.le_of_ble_eq_true rfl)
  rw [lg_entry_eq]
  have hx := B.exec
  have hb := B.bytes
  have hr := B.returns
  exact b_X7_bestFrom l D ad cs vZ_players vZ_fill vZ_patience vZ_turn vZ_made vZ_out vZ_finishers vZ_thrown vZ_camp vZ_next vZ_far vZ_cells vZ_board vZ_level vZ_queue vZ_isEnd vZ_cheapest vZ_marbles Q hx hb hml (findClass_of_methodNamed B.named) (atoms_spec (ws := wsX7_bestFrom) B.pre) hN hP hK hD0.self (fun q h => Or.inr h) hl (fun r o0 o1 o2 o3 o4 o5 o6 H locs pc ls hq hP hD hS hd => W.iret (v := r) hx hb hr (fun t ht hW => ⟨⟨r, (o0, o1, o2, o3, o4, o5, o6), rfl, hq, by rw [ht]; exact hP, hD⟩, hS.F ht⟩) hS.2.2 hd) hw
abbrev rm_X7_bestTo : Room := { frames := 4, cells := 0, slots := 0, locals := 102 }
abbrev cl_X7_bestTo (ad : Nat → Nat) (cs : Nat → ClassId) (vZ_players vZ_fill vZ_patience vZ_turn vZ_made vZ_out vZ_finishers vZ_thrown : Int32) (vZ_camp vZ_next vZ_far vZ_cells vZ_board vZ_level vZ_queue vZ_isEnd vZ_cheapest vZ_marbles : Nat → Int32) : va_W := [((ad 28), .inr (7, [.ref (ad 29), .ref (ad 30), .ref (ad 31), .ref (ad 32), .ref (ad 33), .ref (ad 34), .int vZ_players, .int vZ_fill, .int vZ_patience, .ref (ad 35), .int vZ_turn, .int vZ_made, .int vZ_out, .ref (ad 36), .int vZ_finishers, .ref (ad 37), .ref (ad 38), .ref (ad 39), .ref (ad 40), .ref (ad 41), .ref (ad 42), .ref (ad 43), .ref (ad 44), .ref (ad 45), .ref (ad 46), .ref (ad 47), .int vZ_thrown])), ((ad 31), .inl ((cs 31), 121, .inl vZ_camp)), ((ad 32), .inl ((cs 32), 726, .inl vZ_next)), ((ad 33), .inl ((cs 33), 14641, .inl vZ_far)), ((ad 34), .inl ((cs 34), 60, .inl vZ_cells)), ((ad 35), .inl ((cs 35), 121, .inl vZ_board)), ((ad 43), .inl ((cs 43), 121, .inl vZ_level)), ((ad 44), .inl ((cs 44), 121, .inl vZ_queue)), ((ad 45), .inl ((cs 45), 121, .inl vZ_isEnd)), ((ad 46), .inl ((cs 46), 1024, .inl vZ_cheapest)), ((ad 47), .inl ((cs 47), 10, .inl vZ_marbles))]
abbrev ty_X7_bestTo (cs : Nat → ClassId) : List (ClassId × FieldType) := [((cs 31), .int), ((cs 32), .int), ((cs 33), .int), ((cs 34), .int), ((cs 35), .int), ((cs 43), .int), ((cs 44), .int), ((cs 45), .boolean), ((cs 46), .int), ((cs 47), .int)]
def wp_X7_bestTo (vZ_players vZ_fill vZ_patience vZ_turn vZ_made vZ_out vZ_finishers vZ_thrown : Int32) (vZ_camp vZ_next vZ_far vZ_cells vZ_board vZ_level vZ_queue vZ_isEnd vZ_cheapest vZ_marbles : Nat → Int32) (Q : Int32 → Int32 → (Nat → Int32) → (Nat → Int32) → (Nat → Int32) → (Nat → Int32) → (Nat → Int32) → (Nat → Int32) → Prop) : Prop :=
 wp_X7_best vZ_players vZ_fill vZ_patience vZ_turn vZ_made vZ_out vZ_finishers (0 : Int32) vZ_camp vZ_next vZ_far vZ_cells vZ_board vZ_level vZ_queue vZ_isEnd vZ_cheapest vZ_marbles (fun r_1 vZ_board_2 vZ_level_3 vZ_queue_4 vZ_isEnd_5 vZ_cheapest_6 vZ_marbles_7 =>
 ((¬ r_1 = (-1 : Int32) → Q (r_1 - r_1 / (121 : Int32) * (121 : Int32)) (0 : Int32) vZ_board_2 vZ_level_3 vZ_queue_4 vZ_isEnd_5 vZ_cheapest_6 vZ_marbles_7) ∧
 (r_1 = (-1 : Int32) → Q (-1 : Int32) (0 : Int32) vZ_board_2 vZ_level_3 vZ_queue_4 vZ_isEnd_5 vZ_cheapest_6 vZ_marbles_7)))
set_option maxHeartbeats 4000000 in
set_option maxRecDepth 100000 in
theorem b_X7_bestTo {p : Program} {e : Env} {s : State} {m : MethodId} {args : Array Value} {below : List Frame} {meth : Method} {c : Code} {QQ : State → Prop} {A : Nat → Prop} {ls : Array Slot} (l : Launch) (D : va_G) (ad : Nat → Nat) (cs : Nat → ClassId) (vZ_players vZ_fill vZ_patience vZ_turn vZ_made vZ_out vZ_finishers vZ_thrown : Int32) (vZ_camp vZ_next vZ_far vZ_cells vZ_board vZ_level vZ_queue vZ_isEnd vZ_cheapest vZ_marbles : Nat → Int32) (Q : Int32 → Int32 → (Nat → Int32) → (Nat → Int32) → (Nat → Int32) → (Nat → Int32) → (Nat → Int32) → (Nat → Int32) → Prop) (hx : p.tables.exec = Jvm.exec) (hb : c.code = cX7_bestTo) (hml : c.maxLocals = 2) (hown : s.vm.findClass RX7 = some m.cls) (hts : ∀ w ∈ wsX7_bestTo, w.before args s = true) (hN : NW s) (hP : va_P D vwCl (cl_X7_bestTo ad cs vZ_players vZ_fill vZ_patience vZ_turn vZ_made vZ_out vZ_finishers vZ_thrown vZ_camp vZ_next vZ_far vZ_cells vZ_board vZ_level vZ_queue vZ_isEnd vZ_cheapest vZ_marbles) s.heap) (hK : va_K D vwCl (ty_X7_bestTo cs) s) (hD : va_D A (cl_X7_bestTo ad cs vZ_players vZ_fill vZ_patience vZ_turn vZ_made vZ_out vZ_finishers vZ_thrown vZ_camp vZ_next vZ_far vZ_cells vZ_board vZ_level vZ_queue vZ_isEnd vZ_cheapest vZ_marbles)) (hA : ∀ q : Nat, s.heap.size ≤ q → A q) (hl : lv_has ls 2 [(0, .ref (ad 28))])
  (hret : ∀ (r : Int32) (o0 : Int32) (o1 : Nat → Int32) (o2 : Nat → Int32) (o3 : Nat → Int32) (o4 : Nat → Int32) (o5 : Nat → Int32) (o6 : Nat → Int32) (H : Heap) (locs : List Loc) (pc : Nat) (ls : Array Slot), Q r o0 o1 o2 o3 o4 o5 o6 → va_P D vwCl (cl_X7_bestTo ad cs vZ_players vZ_fill vZ_patience vZ_turn vZ_made vZ_out vZ_finishers o0 vZ_camp vZ_next vZ_far vZ_cells o1 o2 o3 o4 o5 o6) H → va_D A (cl_X7_bestTo ad cs vZ_players vZ_fill vZ_patience vZ_turn vZ_made vZ_out vZ_finishers o0 vZ_camp vZ_next vZ_far vZ_cells o1 o2 o3 o4 o5 o6) → va_S A s.heap H locs → decode cX7_bestTo pc = .ok (.ireturn, 1) → W p l e rm_X7_bestTo s m args below meth c H locs 0 0 QQ (F0 m pc ls [.int r]))
  (hw : wp_X7_bestTo vZ_players vZ_fill vZ_patience vZ_turn vZ_made vZ_out vZ_finishers vZ_thrown vZ_camp vZ_next vZ_far vZ_cells vZ_board vZ_level vZ_queue vZ_isEnd vZ_cheapest vZ_marbles Q) :
  W p l e rm_X7_bestTo s m args below meth c s.heap [] 0 0 QQ (F0 m 0 ls []) := by
  have S0 : CallFix p m c cX7_bestTo 2 s args wsX7_bestTo RX7 := ⟨hx, hb, hml, hown, hts⟩
  have inX7 : ∀ w ∈ u_ws RX7 TX7 27, w ∈ wsX7_bestTo := by decide +kernel
  have fl_86 := hts (.fieldLink RX7 86 "HopperCourtModel" "thrown" "I") (by decide +kernel)
  obtain ⟨H, hH⟩ : ∃ H : Heap, H = s.heap := ⟨_, rfl⟩
  have hS : va_S A s.heap H [] := by rw [hH]; exact va_S.rf
  rw [← hH] at hP ⊢
  unfold wp_X7_bestTo at hw
  refine lv_aload_n hx hb dX7_bestTo_0 rfl (lv_at hl 0 rfl) ?_
  refine lv_iconst (v := (0 : Int32)) hx hb dX7_bestTo_1 (by decide) ?_
  refine va_put (D := D) (ci := 7) (v := .int (0 : Int32)) (ty := .int) (C := RX7) (T := TX7) (N := 27) hx hb hts inX7 tyX7 tyX7_ok nmX7 hown hK hP hD hS 0 rfl rfl 26 (by decide) fl_86 (fun _ h9 => h9) rfl (by decide +kernel) rfl rfl (Nat.le_of_ble_eq_true rfl) dX7_bestTo_2 (fun H locs hP hD hS => ?_)
  have hP : va_P D vwCl (cl_X7_bestTo ad cs vZ_players vZ_fill vZ_patience vZ_turn vZ_made vZ_out vZ_finishers (0 : Int32) vZ_camp vZ_next vZ_far vZ_cells vZ_board vZ_level vZ_queue vZ_isEnd vZ_cheapest vZ_marbles) H := hP
  have hD : va_D A (cl_X7_bestTo ad cs vZ_players vZ_fill vZ_patience vZ_turn vZ_made vZ_out vZ_finishers (0 : Int32) vZ_camp vZ_next vZ_far vZ_cells vZ_board vZ_level vZ_queue vZ_isEnd vZ_cheapest vZ_marbles) := hD
  refine lv_aload_n hx hb dX7_bestTo_5 rfl (lv_at hl 0 rfl) ?_
  refine pcVi (rest := []) (wr := []) (ci := 7) S0 (c_X7_best l D ad cs H.size vZ_players vZ_fill vZ_patience vZ_turn vZ_made vZ_out vZ_finishers (0 : Int32) vZ_camp vZ_next vZ_far vZ_cells vZ_board vZ_level vZ_queue vZ_isEnd vZ_cheapest vZ_marbles _ hw) (cwV 0 hts gX7_bestTo_X7_best rfl rfl rfl (by decide +kernel) ⟨Nat.le_of_ble_eq_true rfl, Nat.le_of_ble_eq_true rfl⟩) hN hK hP hD hS hA [0, 1, 2, 3, 4, 5, 6, 7, 8, 9, 10] [] [0, 1, 2, 3, 4, 5, 6, 7, 8, 9] ⟨rfl, rfl, rfl, rfl, rfl, by decide⟩ 0 rfl rfl rfl rfl hl.1 (Nat.le_of_ble_eq_true rfl) ⟨Nat.le_of_ble_eq_true rfl, Nat.le_of_ble_eq_true rfl⟩ dX7_bestTo_6 (fun r_1 u H locs hw hP hD hS => ?_)
  obtain ⟨vZ_board_2, vZ_level_3, vZ_queue_4, vZ_isEnd_5, vZ_cheapest_6, vZ_marbles_7⟩ := u
  dsimp only at hw
  have hP : va_P D vwCl (cl_X7_bestTo ad cs vZ_players vZ_fill vZ_patience vZ_turn vZ_made vZ_out vZ_finishers (0 : Int32) vZ_camp vZ_next vZ_far vZ_cells vZ_board_2 vZ_level_3 vZ_queue_4 vZ_isEnd_5 vZ_cheapest_6 vZ_marbles_7) H := hP.sub [0, 1, 2, 3, 4, 5, 6, 7, 8, 9, 10] rfl
  have hD : va_D A (cl_X7_bestTo ad cs vZ_players vZ_fill vZ_patience vZ_turn vZ_made vZ_out vZ_finishers (0 : Int32) vZ_camp vZ_next vZ_far vZ_cells vZ_board_2 vZ_level_3 vZ_queue_4 vZ_isEnd_5 vZ_cheapest_6 vZ_marbles_7) := hD.sub [0, 1, 2, 3, 4, 5, 6, 7, 8, 9, 10] (by decide) rfl
  refine lv_istore_n (lv' := [(1, .int r_1), (0, .ref (ad 28))]) hx hb dX7_bestTo_9 rfl hl (by decide) rfl (fun ls hl => ?_)
  refine lv_iload_n hx hb dX7_bestTo_10 rfl (lv_at hl 0 rfl) ?_
  refine lv_iconst (v := (-1 : Int32)) hx hb dX7_bestTo_11 (by decide) ?_
  refine lv_icmp_ne (tgt := 19) hx hb dX7_bestTo_12 (by decide) (fun c_8 => ?_) (fun c_8 => ?_)
  · have hw := hw.1 c_8
    refine lv_iload_n hx hb dX7_bestTo_19 rfl (lv_at hl 0 rfl) ?_
    refine lv_bipush (v := (121 : Int32)) hx hb dX7_bestTo_20 (by decide) ?_
    refine lv_irem hx hb dX7_bestTo_22 (by decide) ?_
    exact hret _ _ _ _ _ _ _ _ _ _ _ _ hw hP hD hS dX7_bestTo_23
  · have hw := hw.2 c_8
    refine lv_iconst (v := (-1 : Int32)) hx hb dX7_bestTo_15 (by decide) ?_
    refine lv_goto (tgt := 23) hx hb dX7_bestTo_16 (by decide) ?_
    exact hret _ _ _ _ _ _ _ _ _ _ _ _ hw hP hD hS dX7_bestTo_23
set_option maxHeartbeats 4000000 in
set_option maxRecDepth 100000 in
theorem c_X7_bestTo (l : Launch) (D : va_G) (ad : Nat → Nat) (cs : Nat → ClassId) (sz : Nat) (vZ_players vZ_fill vZ_patience vZ_turn vZ_made vZ_out vZ_finishers vZ_thrown : Int32) (vZ_camp vZ_next vZ_far vZ_cells vZ_board vZ_level vZ_queue vZ_isEnd vZ_cheapest vZ_marbles : Nat → Int32) (Q : Int32 → Int32 → (Nat → Int32) → (Nat → Int32) → (Nat → Int32) → (Nat → Int32) → (Nat → Int32) → (Nat → Int32) → Prop) (hw : wp_X7_bestTo vZ_players vZ_fill vZ_patience vZ_turn vZ_made vZ_out vZ_finishers vZ_thrown vZ_camp vZ_next vZ_far vZ_cells vZ_board vZ_level vZ_queue vZ_isEnd vZ_cheapest vZ_marbles Q) :
  Met l yX7_bestTo wsX7_bestTo rm_X7_bestTo (va_Pc [.ref (ad 28)] (PX D (cl_X7_bestTo ad cs vZ_players vZ_fill vZ_patience vZ_turn vZ_made vZ_out vZ_finishers vZ_thrown vZ_camp vZ_next vZ_far vZ_cells vZ_board vZ_level vZ_queue vZ_isEnd vZ_cheapest vZ_marbles) (ty_X7_bestTo cs) sz)) (va_Qi (fun (r : Int32) (u : Int32 × (Nat → Int32) × (Nat → Int32) × (Nat → Int32) × (Nat → Int32) × (Nat → Int32) × (Nat → Int32)) => Q r u.1 u.2.1 u.2.2.1 u.2.2.2.1 u.2.2.2.2.1 u.2.2.2.2.2.1 u.2.2.2.2.2.2) (fun (u : Int32 × (Nat → Int32) × (Nat → Int32) × (Nat → Int32) × (Nat → Int32) × (Nat → Int32) × (Nat → Int32)) t => va_P D vwCl (cl_X7_bestTo ad cs vZ_players vZ_fill vZ_patience vZ_turn vZ_made vZ_out vZ_finishers u.1 vZ_camp vZ_next vZ_far vZ_cells u.2.1 u.2.2.1 u.2.2.2.1 u.2.2.2.2.1 u.2.2.2.2.2.1 u.2.2.2.2.2.2) t.heap ∧ va_D (va_A (cl_X7_bestTo ad cs vZ_players vZ_fill vZ_patience vZ_turn vZ_made vZ_out vZ_finishers vZ_thrown vZ_camp vZ_next vZ_far vZ_cells vZ_board vZ_level vZ_queue vZ_isEnd vZ_cheapest vZ_marbles) sz) (cl_X7_bestTo ad cs vZ_players vZ_fill vZ_patience vZ_turn vZ_made vZ_out vZ_finishers u.1 vZ_camp vZ_next vZ_far vZ_cells u.2.1 u.2.2.1 u.2.2.2.1 u.2.2.2.2.1 u.2.2.2.2.2.1 u.2.2.2.2.2.2)) (va_A (cl_X7_bestTo ad cs vZ_players vZ_fill vZ_patience vZ_turn vZ_made vZ_out vZ_finishers vZ_thrown vZ_camp vZ_next vZ_far vZ_cells vZ_board vZ_level vZ_queue vZ_isEnd vZ_cheapest vZ_marbles) sz)) 0 0 (va_A (cl_X7_bestTo ad cs vZ_players vZ_fill vZ_patience vZ_turn vZ_made vZ_out vZ_finishers vZ_thrown vZ_camp vZ_next vZ_far vZ_cells vZ_board vZ_level vZ_queue vZ_isEnd vZ_cheapest vZ_marbles) sz) := by
  refine Met.ofW (cc := cX7_bestTo) (maxL := 2) (ret := (some .int)) (by decide) rfl ?_
  intro p e s m args below meth c s₁ B hml hv
  obtain ⟨rfl, hsz, hP, hK, hD0, hN⟩ := hv
  subst hsz
  have hl := lv_entry ([.ref (ad 28)]) (n := 2) (Nat.le_of_ble_eq_true rfl)
  rw [lg_entry_eq]
  have hx := B.exec
  have hb := B.bytes
  have hr := B.returns
  exact b_X7_bestTo l D ad cs vZ_players vZ_fill vZ_patience vZ_turn vZ_made vZ_out vZ_finishers vZ_thrown vZ_camp vZ_next vZ_far vZ_cells vZ_board vZ_level vZ_queue vZ_isEnd vZ_cheapest vZ_marbles Q hx hb hml (findClass_of_methodNamed B.named) (atoms_spec (ws := wsX7_bestTo) B.pre) hN hP hK hD0.self (fun q h => Or.inr h) hl (fun r o0 o1 o2 o3 o4 o5 o6 H locs pc ls hq hP hD hS hd => W.iret (v := r) hx hb hr (fun t ht hW => ⟨⟨r, (o0, o1, o2, o3, o4, o5, o6), rfl, hq, by rw [ht]; exact hP, hD⟩, hS.F ht⟩) hS.2.2 hd) hw
