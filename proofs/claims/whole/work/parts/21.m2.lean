abbrev rm_X4_plays : Room := { frames := 1, cells := 0, slots := 0, locals := 20 }
abbrev cl_X4_plays (ad : Nat → Nat) (cs : Nat → ClassId) (vE_placed vE_playing vE_out vE_turn : Int32) : va_W := [((ad 19), .inr (4, [.ref (ad 6), .ref (ad 20), .ref (ad 21), .int vE_placed, .int vE_playing, .int vE_out, .int vE_turn]))]
abbrev ty_X4_plays (cs : Nat → ClassId) : List (ClassId × FieldType) := []
def wp_X4_plays (vE_placed vE_playing vE_out vE_turn x1 : Int32) (Q : Int32 → Prop) : Prop :=
 wp_X6_isCamp x1 (fun r_1 =>
 ((r_1 = 0 → Q (0 : Int32)) ∧
 (¬ r_1 = 0 → ((¬ ((vE_playing >>> (x1 &&& 31)) &&& (1 : Int32)) = (1 : Int32) → Q (0 : Int32)) ∧
 (((vE_playing >>> (x1 &&& 31)) &&& (1 : Int32)) = (1 : Int32) → Q (1 : Int32))))))
set_option maxHeartbeats 4000000 in
set_option maxRecDepth 100000 in
theorem b_X4_plays {p : Program} {e : Env} {s : State} {m : MethodId} {args : Array Value} {below : List Frame} {meth : Method} {c : Code} {QQ : State → Prop} {A : Nat → Prop} {ls : Array Slot} (l : Launch) (D : va_G) (ad : Nat → Nat) (cs : Nat → ClassId) (vE_placed vE_playing vE_out vE_turn x1 : Int32) (Q : Int32 → Prop) (hx : p.tables.exec = Jvm.exec) (hb : c.code = cX4_plays) (hml : c.maxLocals = 2) (hown : s.vm.findClass RX4 = some m.cls) (hts : ∀ w ∈ wsX4_plays, w.before args s = true) (hN : NW s) (hP : va_P D vwCl (cl_X4_plays ad cs vE_placed vE_playing vE_out vE_turn) s.heap) (hK : va_K D vwCl (ty_X4_plays cs) s) (hD : va_D A (cl_X4_plays ad cs vE_placed vE_playing vE_out vE_turn)) (hA : ∀ q : Nat, s.heap.size ≤ q → A q) (hl : lv_has ls 2 [(0, .ref (ad 19)), (1, .int x1)])
  (hret : ∀ (r : Int32) (pc : Nat) (ls : Array Slot), nb r → Q r → decode cX4_plays pc = .ok (.ireturn, 1) → W p l e rm_X4_plays s m args below meth c s.heap [] 0 0 QQ (F0 m pc ls [.int r]))
  (hw : wp_X4_plays vE_placed vE_playing vE_out vE_turn x1 Q) :
  W p l e rm_X4_plays s m args below meth c s.heap [] 0 0 QQ (F0 m 0 ls []) := by
  have S0 : CallFix p m c cX4_plays 2 s args wsX4_plays RX4 := ⟨hx, hb, hml, hown, hts⟩
  have inX4 : ∀ w ∈ u_ws RX4 TX4 7, w ∈ wsX4_plays := by decide +kernel
  have fl_26 := hts (.fieldLink RX4 26 "HopperCourt$Seats" "playing" "I") (by decide +kernel)
  unfold wp_X4_plays at hw
  refine lv_iload_n hx hb dX4_plays_0 rfl (lv_at hl 1 rfl) ?_
  refine pcSN (rest := []) S0 (c_X6_isCamp l D ad cs s.heap.size x1 _ hw) ⟨va_cnB (host := RX6) 1 hts gX4_plays_X6_isCamp_n39 rfl rfl rfl hN.2.2.2.2.2.1 (hts (.initialized RX6) (by decide +kernel)) (by decide +kernel) ⟨Nat.le_of_ble_eq_true rfl, Nat.le_of_ble_eq_true rfl⟩, hts (.static yX6_isCamp) (by decide +kernel), trivial⟩ hN hK hP hD [] [] rfl rfl rfl rfl rfl hl.1 (Nat.le_of_ble_eq_true rfl) ⟨Nat.le_of_ble_eq_true rfl, Nat.le_of_ble_eq_true rfl⟩ dX4_plays_1 (fun r_1 hw => ?_)
  refine lv_if_eq (tgt := 23) hx hb dX4_plays_4 (by decide) (fun c_2 => ?_) (fun c_2 => ?_)
  · have hw := hw.1 c_2
    refine lv_iconst (v := (0 : Int32)) hx hb dX4_plays_23 (by decide) ?_
    exact hret _ _ _ nb_0 hw dX4_plays_24
  · have hw := hw.2 c_2
    refine lv_aload_n hx hb dX4_plays_7 rfl (lv_at hl 0 rfl) ?_
    refine va_get (D := D) (ci := 4) (v := .int vE_playing) (C := RX4) (T := TX4) (N := 7) hx hb hts inX4 hown hK hP 0 rfl rfl 4 (by decide) fl_26 (fun _ h9 => h9) rfl dX4_plays_8 ?_
    refine lv_iload_n hx hb dX4_plays_11 rfl (lv_at hl 1 rfl) ?_
    refine lv_ishr hx hb dX4_plays_12 ?_
    refine lv_iconst (v := (1 : Int32)) hx hb dX4_plays_13 (by decide) ?_
    refine lv_iand hx hb dX4_plays_14 ?_
    refine lv_iconst (v := (1 : Int32)) hx hb dX4_plays_15 (by decide) ?_
    refine lv_icmp_ne (tgt := 23) hx hb dX4_plays_16 (by decide) (fun c_3 => ?_) (fun c_3 => ?_)
    · have hw := hw.1 c_3
      refine lv_iconst (v := (0 : Int32)) hx hb dX4_plays_23 (by decide) ?_
      exact hret _ _ _ nb_0 hw dX4_plays_24
    · have hw := hw.2 c_3
      refine lv_iconst (v := (1 : Int32)) hx hb dX4_plays_19 (by decide) ?_
      refine lv_goto (tgt := 24) hx hb dX4_plays_20 (by decide) ?_
      exact hret _ _ _ nb_1 hw dX4_plays_24
set_option maxHeartbeats 4000000 in
set_option maxRecDepth 100000 in
theorem c_X4_plays (l : Launch) (D : va_G) (ad : Nat → Nat) (cs : Nat → ClassId) (sz : Nat) (vE_placed vE_playing vE_out vE_turn x1 : Int32) (Q : Int32 → Prop) (hw : wp_X4_plays vE_placed vE_playing vE_out vE_turn x1 Q) :
  Met l yX4_plays wsX4_plays rm_X4_plays (va_Pc [.ref (ad 19), .int x1] (PX D (cl_X4_plays ad cs vE_placed vE_playing vE_out vE_turn) (ty_X4_plays cs) sz)) (vp_Si Q) 0 0 (fun _ => False) := by
  refine Met.ofW (cc := cX4_plays) (maxL := 2) (ret := (some .boolean)) (by decide) rfl ?_
  intro p e s m args below meth c s₁ B hml hv
  obtain ⟨rfl, hsz, hP, hK, hD0, hN⟩ := hv
  subst hsz
  have hl := lv_entry ([.ref (ad 19), .int x1]) (n := 2) (Nat.le_of_ble_eq_true rfl)
  rw [lg_entry_eq]
  have hx := B.exec
  have hb := B.bytes
  have hr := B.returns
  exact b_X4_plays l D ad cs vE_placed vE_playing vE_out vE_turn x1 Q hx hb hml (findClass_of_methodNamed B.named) (atoms_spec (ws := wsX4_plays) B.pre) hN hP hK hD0.self (fun q h => Or.inr h) hl (A := va_A (cl_X4_plays ad cs vE_placed vE_playing vE_out vE_turn) s.heap.size) (fun r pc ls hn hq hd => W.zret (v := r) hx hb hr hn (fun t ht hW => ⟨r, rfl, hq, ht⟩) (fun _ h => nomatch h) hd) hw
abbrev rm_X4_setUp : Room := { frames := 2, cells := 0, slots := 0, locals := 41 }
abbrev cl_X4_setUp (ad : Nat → Nat) (cs : Nat → ClassId) (vE_placed vE_playing vE_out vE_turn : Int32) (vE_madeBy : Nat → Int32) : va_W := [((ad 19), .inr (4, [.ref (ad 6), .ref (ad 20), .ref (ad 21), .int vE_placed, .int vE_playing, .int vE_out, .int vE_turn])), ((ad 20), .inl ((cs 20), 6, .inl vE_madeBy))]
abbrev ty_X4_setUp (cs : Nat → ClassId) : List (ClassId × FieldType) := [((cs 20), .int)]
def wb_X4_setUp_22 (vE_placed vE_playing vE_out : Int32) (K22 : Int32 → (Nat → Int32) → Prop) (P22 : Int32 → (Nat → Int32) → Int32 → Prop) (vE_turn : Int32) (vE_madeBy : Nat → Int32) (x2 : Int32) : Prop :=
 ((x2 < 0 → K22 vE_turn vE_madeBy) ∧
 (¬ x2 < 0 → (vp_in x2 6 ∧
 wp_X4_plays vE_placed vE_playing vE_out vE_turn x2 (fun r_3 =>
 ((r_3 = 0 → P22 vE_turn (upd vE_madeBy x2.toNatClampNeg (0 : Int32)) (x2 + (-1 : Int32))) ∧
 (¬ r_3 = 0 → P22 x2 (upd vE_madeBy x2.toNatClampNeg (0 : Int32)) (x2 + (-1 : Int32))))))))
def wl_X4_setUp_22 (vE_placed vE_playing vE_out : Int32) (K22 : Int32 → (Nat → Int32) → Prop) (vE_turn : Int32) (vE_madeBy : Nat → Int32) (x2 : Int32) : Prop := ∀ P22 : Int32 → (Nat → Int32) → Int32 → Prop, (∀ (vE_turn : Int32) (vE_madeBy : Nat → Int32) (x2 : Int32), wb_X4_setUp_22 vE_placed vE_playing vE_out K22 P22 vE_turn vE_madeBy x2 → P22 vE_turn vE_madeBy x2) → P22 vE_turn vE_madeBy x2
def wp_X4_setUp (vE_placed vE_playing vE_out vE_turn : Int32) (vE_madeBy : Nat → Int32) (x1 : Int32) (Q : Int32 → Int32 → Int32 → Int32 → (Nat → Int32) → Prop) : Prop :=
 wl_X4_setUp_22 (0 : Int32) x1 (0 : Int32) (fun vE_turn_5 vE_madeBy_6 => Q (0 : Int32) x1 (0 : Int32) vE_turn_5 vE_madeBy_6) (-1 : Int32) vE_madeBy (5 : Int32)
set_option maxHeartbeats 4000000 in
set_option maxRecDepth 100000 in
theorem b_X4_setUp {p : Program} {e : Env} {s : State} {m : MethodId} {args : Array Value} {below : List Frame} {meth : Method} {c : Code} {QQ : State → Prop} {A : Nat → Prop} {ls : Array Slot} (l : Launch) (D : va_G) (ad : Nat → Nat) (cs : Nat → ClassId) (vE_placed vE_playing vE_out vE_turn : Int32) (vE_madeBy : Nat → Int32) (x1 : Int32) (Q : Int32 → Int32 → Int32 → Int32 → (Nat → Int32) → Prop) (hx : p.tables.exec = Jvm.exec) (hb : c.code = cX4_setUp) (hml : c.maxLocals = 3) (hown : s.vm.findClass RX4 = some m.cls) (hts : ∀ w ∈ wsX4_setUp, w.before args s = true) (hN : NW s) (hP : va_P D vwCl (cl_X4_setUp ad cs vE_placed vE_playing vE_out vE_turn vE_madeBy) s.heap) (hK : va_K D vwCl (ty_X4_setUp cs) s) (hD : va_D A (cl_X4_setUp ad cs vE_placed vE_playing vE_out vE_turn vE_madeBy)) (hA : ∀ q : Nat, s.heap.size ≤ q → A q) (hl : lv_has ls 3 [(0, .ref (ad 19)), (1, .int x1)])
  (hret : ∀ (o0 : Int32) (o1 : Int32) (o2 : Int32) (o3 : Int32) (o4 : Nat → Int32) (H : Heap) (locs : List Loc) (pc : Nat) (ls : Array Slot), Q o0 o1 o2 o3 o4 → va_P D vwCl (cl_X4_setUp ad cs o0 o1 o2 o3 o4) H → va_D A (cl_X4_setUp ad cs o0 o1 o2 o3 o4) → va_S A s.heap H locs → decode cX4_setUp pc = .ok (.return_, 1) → W p l e rm_X4_setUp s m args below meth c H locs 0 0 QQ (F0 m pc ls []))
  (hw : wp_X4_setUp vE_placed vE_playing vE_out vE_turn vE_madeBy x1 Q) :
  W p l e rm_X4_setUp s m args below meth c s.heap [] 0 0 QQ (F0 m 0 ls []) := by
  have S0 : CallFix p m c cX4_setUp 3 s args wsX4_setUp RX4 := ⟨hx, hb, hml, hown, hts⟩
  have inX4 : ∀ w ∈ u_ws RX4 TX4 7, w ∈ wsX4_setUp := by decide +kernel
  have fl_22 := hts (.fieldLink RX4 22 "HopperCourt$Seats" "turn" "I") (by decide +kernel)
  have fl_26 := hts (.fieldLink RX4 26 "HopperCourt$Seats" "playing" "I") (by decide +kernel)
  have fl_29 := hts (.fieldLink RX4 29 "HopperCourt$Seats" "out" "I") (by decide +kernel)
  have fl_32 := hts (.fieldLink RX4 32 "HopperCourt$Seats" "placed" "I") (by decide +kernel)
  have fl_9 := hts (.fieldLink RX4 9 "HopperCourt$Seats" "madeBy" "[I") (by decide +kernel)
  have hL22 : ∀ (vE_placed vE_playing vE_out : Int32) (K22 : Int32 → (Nat → Int32) → Prop) (vE_turn : Int32) (vE_madeBy : Nat → Int32) (x2 : Int32), wl_X4_setUp_22 vE_placed vE_playing vE_out K22 vE_turn vE_madeBy x2 → (∀ (vE_turn : Int32) (vE_madeBy : Nat → Int32), K22 vE_turn vE_madeBy → ∀ (H : Heap) (locs : List Loc) (ls : Array Slot), va_P D vwCl (cl_X4_setUp ad cs vE_placed vE_playing vE_out vE_turn vE_madeBy) H → va_D A (cl_X4_setUp ad cs vE_placed vE_playing vE_out vE_turn vE_madeBy) → va_S A s.heap H locs → lv_has ls 3 [] → W p l e rm_X4_setUp s m args below meth c H locs 0 0 QQ (F0 m 52 ls [])) → ∀ (H : Heap) (locs : List Loc) (ls : Array Slot), va_P D vwCl (cl_X4_setUp ad cs vE_placed vE_playing vE_out vE_turn vE_madeBy) H → va_D A (cl_X4_setUp ad cs vE_placed vE_playing vE_out vE_turn vE_madeBy) → va_S A s.heap H locs → lv_has ls 3 [(0, .ref (ad 19)), (2, .int x2)] → W p l e rm_X4_setUp s m args below meth c H locs 0 0 QQ (F0 m 22 ls []) := by
    intro vE_placed vE_playing vE_out K22 vE_turn vE_madeBy x2 hw hK22
    unfold wl_X4_setUp_22 at hw
    refine hw (fun (vE_turn : Int32) (vE_madeBy : Nat → Int32) (x2 : Int32) => ∀ (H : Heap) (locs : List Loc) (ls : Array Slot), va_P D vwCl (cl_X4_setUp ad cs vE_placed vE_playing vE_out vE_turn vE_madeBy) H → va_D A (cl_X4_setUp ad cs vE_placed vE_playing vE_out vE_turn vE_madeBy) → va_S A s.heap H locs → lv_has ls 3 [(0, .ref (ad 19)), (2, .int x2)] → W p l e rm_X4_setUp s m args below meth c H locs 0 0 QQ (F0 m 22 ls [])) ?_
    intro vE_turn vE_madeBy x2 hw H locs ls hP hD hS hl
    unfold wb_X4_setUp_22 at hw
    refine lv_iload_n hx hb dX4_setUp_22 rfl (lv_at hl 1 rfl) ?_
    refine lv_if_lt (tgt := 52) hx hb dX4_setUp_23 (by decide) (fun c_1 => ?_) (fun c_1 => ?_)
    · have hw := hw.1 c_1
      exact hK22 vE_turn vE_madeBy hw _ _ _ hP hD hS (lv_sub hl [] rfl)
    · have hw := hw.2 c_1
      refine lv_aload_n hx hb dX4_setUp_26 rfl (lv_at hl 0 rfl) ?_
      refine va_get (D := D) (ci := 4) (v := .ref (ad 20)) (C := RX4) (T := TX4) (N := 7) hx hb hts inX4 hown hK hP 0 rfl rfl 1 (by decide) fl_9 (fun _ h9 => h9) rfl dX4_setUp_27 ?_
      refine lv_iload_n hx hb dX4_setUp_30 rfl (lv_at hl 1 rfl) ?_
      refine lv_iconst (v := (0 : Int32)) hx hb dX4_setUp_31 (by decide) ?_
      obtain ⟨h_2, hw⟩ := hw
      refine va_iast hx hb hK hP hD hS 1 0 rfl rfl h_2 dX4_setUp_32 (fun H locs hP hD hS => ?_)
      have hP : va_P D vwCl (cl_X4_setUp ad cs vE_placed vE_playing vE_out vE_turn (upd vE_madeBy x2.toNatClampNeg (0 : Int32))) H := hP
      have hD : va_D A (cl_X4_setUp ad cs vE_placed vE_playing vE_out vE_turn (upd vE_madeBy x2.toNatClampNeg (0 : Int32))) := hD
      refine lv_aload_n hx hb dX4_setUp_33 rfl (lv_at hl 0 rfl) ?_
      refine lv_iload_n hx hb dX4_setUp_34 rfl (lv_at hl 1 rfl) ?_
      refine pcV (rest := []) (ci := 4) S0 (c_X4_plays l D ad cs H.size vE_placed vE_playing vE_out vE_turn x2 _ hw) (cwV 1 hts gX4_setUp_X4_plays rfl rfl rfl (by decide +kernel) ⟨Nat.le_of_ble_eq_true rfl, Nat.le_of_ble_eq_true rfl⟩) hN hK hP hD [0] [] rfl rfl rfl 0 rfl rfl rfl rfl hl.1 (Nat.le_of_ble_eq_true rfl) ⟨Nat.le_of_ble_eq_true rfl, Nat.le_of_ble_eq_true rfl⟩ dX4_setUp_35 (fun r_3 hw => ?_)
      refine lv_if_eq (tgt := 46) hx hb dX4_setUp_38 (by decide) (fun c_4 => ?_) (fun c_4 => ?_)
      · have hw := hw.1 c_4
        refine lv_iinc (v := (x2 + (-1 : Int32))) (lv' := [(2, .int (x2 + (-1 : Int32))), (0, .ref (ad 19))]) hx hb dX4_setUp_46 hl (k := 1) rfl rfl (by decide) rfl (fun ls hl => ?_)
        refine lv_goto (tgt := 22) hx hb dX4_setUp_49 (by decide) ?_
        exact hw _ _ _ hP hD hS (lv_sub hl [1, 0] rfl)
      · have hw := hw.2 c_4
        refine lv_aload_n hx hb dX4_setUp_41 rfl (lv_at hl 0 rfl) ?_
        refine lv_iload_n hx hb dX4_setUp_42 rfl (lv_at hl 1 rfl) ?_
        refine va_put (D := D) (ci := 4) (v := .int x2) (ty := .int) (C := RX4) (T := TX4) (N := 7) hx hb hts inX4 tyX4 tyX4_ok nmX4 hown hK hP hD hS 0 rfl rfl 6 (by decide) fl_22 (fun _ h9 => h9) rfl (by decide +kernel) rfl rfl (Nat.le_of_ble_eq_true rfl) dX4_setUp_43 (fun H locs hP hD hS => ?_)
        have hP : va_P D vwCl (cl_X4_setUp ad cs vE_placed vE_playing vE_out x2 (upd vE_madeBy x2.toNatClampNeg (0 : Int32))) H := hP
        have hD : va_D A (cl_X4_setUp ad cs vE_placed vE_playing vE_out x2 (upd vE_madeBy x2.toNatClampNeg (0 : Int32))) := hD
        refine lv_iinc (v := (x2 + (-1 : Int32))) (lv' := [(2, .int (x2 + (-1 : Int32))), (0, .ref (ad 19))]) hx hb dX4_setUp_46 hl (k := 1) rfl rfl (by decide) rfl (fun ls hl => ?_)
        refine lv_goto (tgt := 22) hx hb dX4_setUp_49 (by decide) ?_
        exact hw _ _ _ hP hD hS (lv_sub hl [1, 0] rfl)
  obtain ⟨H, hH⟩ : ∃ H : Heap, H = s.heap := ⟨_, rfl⟩
  have hS : va_S A s.heap H [] := by rw [hH]; exact va_S.rf
  rw [← hH] at hP ⊢
  unfold wp_X4_setUp at hw
  refine lv_aload_n hx hb dX4_setUp_0 rfl (lv_at hl 0 rfl) ?_
  refine lv_iload_n hx hb dX4_setUp_1 rfl (lv_at hl 1 rfl) ?_
  refine va_put (D := D) (ci := 4) (v := .int x1) (ty := .int) (C := RX4) (T := TX4) (N := 7) hx hb hts inX4 tyX4 tyX4_ok nmX4 hown hK hP hD hS 0 rfl rfl 4 (by decide) fl_26 (fun _ h9 => h9) rfl (by decide +kernel) rfl rfl (Nat.le_of_ble_eq_true rfl) dX4_setUp_2 (fun H locs hP hD hS => ?_)
  have hP : va_P D vwCl (cl_X4_setUp ad cs vE_placed x1 vE_out vE_turn vE_madeBy) H := hP
  have hD : va_D A (cl_X4_setUp ad cs vE_placed x1 vE_out vE_turn vE_madeBy) := hD
  refine lv_aload_n hx hb dX4_setUp_5 rfl (lv_at hl 0 rfl) ?_
  refine lv_iconst (v := (0 : Int32)) hx hb dX4_setUp_6 (by decide) ?_
  refine va_put (D := D) (ci := 4) (v := .int (0 : Int32)) (ty := .int) (C := RX4) (T := TX4) (N := 7) hx hb hts inX4 tyX4 tyX4_ok nmX4 hown hK hP hD hS 0 rfl rfl 5 (by decide) fl_29 (fun _ h9 => h9) rfl (by decide +kernel) rfl rfl (Nat.le_of_ble_eq_true rfl) dX4_setUp_7 (fun H locs hP hD hS => ?_)
  have hP : va_P D vwCl (cl_X4_setUp ad cs vE_placed x1 (0 : Int32) vE_turn vE_madeBy) H := hP
  have hD : va_D A (cl_X4_setUp ad cs vE_placed x1 (0 : Int32) vE_turn vE_madeBy) := hD
  refine lv_aload_n hx hb dX4_setUp_10 rfl (lv_at hl 0 rfl) ?_
  refine lv_iconst (v := (0 : Int32)) hx hb dX4_setUp_11 (by decide) ?_
  refine va_put (D := D) (ci := 4) (v := .int (0 : Int32)) (ty := .int) (C := RX4) (T := TX4) (N := 7) hx hb hts inX4 tyX4 tyX4_ok nmX4 hown hK hP hD hS 0 rfl rfl 3 (by decide) fl_32 (fun _ h9 => h9) rfl (by decide +kernel) rfl rfl (Nat.le_of_ble_eq_true rfl) dX4_setUp_12 (fun H locs hP hD hS => ?_)
  have hP : va_P D vwCl (cl_X4_setUp ad cs (0 : Int32) x1 (0 : Int32) vE_turn vE_madeBy) H := hP
  have hD : va_D A (cl_X4_setUp ad cs (0 : Int32) x1 (0 : Int32) vE_turn vE_madeBy) := hD
  refine lv_aload_n hx hb dX4_setUp_15 rfl (lv_at hl 0 rfl) ?_
  refine lv_iconst (v := (-1 : Int32)) hx hb dX4_setUp_16 (by decide) ?_
  refine va_put (D := D) (ci := 4) (v := .int (-1 : Int32)) (ty := .int) (C := RX4) (T := TX4) (N := 7) hx hb hts inX4 tyX4 tyX4_ok nmX4 hown hK hP hD hS 0 rfl rfl 6 (by decide) fl_22 (fun _ h9 => h9) rfl (by decide +kernel) rfl rfl (Nat.le_of_ble_eq_true rfl) dX4_setUp_17 (fun H locs hP hD hS => ?_)
  have hP : va_P D vwCl (cl_X4_setUp ad cs (0 : Int32) x1 (0 : Int32) (-1 : Int32) vE_madeBy) H := hP
  have hD : va_D A (cl_X4_setUp ad cs (0 : Int32) x1 (0 : Int32) (-1 : Int32) vE_madeBy) := hD
  refine lv_iconst (v := (5 : Int32)) hx hb dX4_setUp_20 (by decide) ?_
  refine lv_istore_n (lv' := [(2, .int (5 : Int32)), (0, .ref (ad 19)), (1, .int x1)]) hx hb dX4_setUp_21 rfl hl (by decide) rfl (fun ls hl => ?_)
  refine hL22 (0 : Int32) x1 (0 : Int32) _ (-1 : Int32) vE_madeBy (5 : Int32) hw ?_ _ _ _ hP hD hS (lv_sub hl [1, 0] rfl)
  intro vE_turn_5 vE_madeBy_6 hw H locs ls hP hD hS hl
  exact hret _ _ _ _ _ _ _ _ _ hw hP hD hS dX4_setUp_52
set_option maxHeartbeats 4000000 in
set_option maxRecDepth 100000 in
theorem c_X4_setUp (l : Launch) (D : va_G) (ad : Nat → Nat) (cs : Nat → ClassId) (sz : Nat) (vE_placed vE_playing vE_out vE_turn : Int32) (vE_madeBy : Nat → Int32) (x1 : Int32) (Q : Int32 → Int32 → Int32 → Int32 → (Nat → Int32) → Prop) (hw : wp_X4_setUp vE_placed vE_playing vE_out vE_turn vE_madeBy x1 Q) :
  Met l yX4_setUp wsX4_setUp rm_X4_setUp (va_Pc [.ref (ad 19), .int x1] (PX D (cl_X4_setUp ad cs vE_placed vE_playing vE_out vE_turn vE_madeBy) (ty_X4_setUp cs) sz)) (va_Qv (fun (u : Int32 × Int32 × Int32 × Int32 × (Nat → Int32)) => Q u.1 u.2.1 u.2.2.1 u.2.2.2.1 u.2.2.2.2) (fun (u : Int32 × Int32 × Int32 × Int32 × (Nat → Int32)) t => va_P D vwCl (cl_X4_setUp ad cs u.1 u.2.1 u.2.2.1 u.2.2.2.1 u.2.2.2.2) t.heap ∧ va_D (va_A (cl_X4_setUp ad cs vE_placed vE_playing vE_out vE_turn vE_madeBy) sz) (cl_X4_setUp ad cs u.1 u.2.1 u.2.2.1 u.2.2.2.1 u.2.2.2.2)) (va_A (cl_X4_setUp ad cs vE_placed vE_playing vE_out vE_turn vE_madeBy) sz)) 0 0 (va_A (cl_X4_setUp ad cs vE_placed vE_playing vE_out vE_turn vE_madeBy) sz) := by
  refine Met.ofW (cc := cX4_setUp) (maxL := 3) (ret := none) (by decide) rfl ?_
  intro p e s m args below meth c s₁ B hml hv
  obtain ⟨rfl, hsz, hP, hK, hD0, hN⟩ := hv
  subst hsz
  have hl := lv_entry ([.ref (ad 19), .int x1]) (n := 3) (Nat.le_of_ble_eq_true rfl)
  rw [lg_entry_eq]
  have hx := B.exec
  have hb := B.bytes
  have hr := B.returns
  exact b_X4_setUp l D ad cs vE_placed vE_playing vE_out vE_turn vE_madeBy x1 Q hx hb hml (findClass_of_methodNamed B.named) (atoms_spec (ws := wsX4_setUp) B.pre) hN hP hK hD0.self (fun q h => Or.inr h) hl (fun o0 o1 o2 o3 o4 H locs pc ls hq hP hD hS hd => W.vret hx hb hr (fun t ht hW => ⟨⟨(o0, o1, o2, o3, o4), rfl, hq, by rw [ht]; exact hP, hD⟩, hS.F ht⟩) hS.2.2 hd) hw
abbrev rm_X0_clear : Room := { frames := 0, cells := 0, slots := 0, locals := 0 }
abbrev cl_X0_clear (ad : Nat → Nat) (cs : Nat → ClassId) (vL_size : Int32) : va_W := [((ad 22), .inr (0, [.ref (ad 23), .ref (ad 24), .ref (ad 25), .ref (ad 26), .ref (ad 27), .int vL_size]))]
abbrev ty_X0_clear (cs : Nat → ClassId) : List (ClassId × FieldType) := []
def wp_X0_clear (vL_size : Int32) (Q : Int32 → Prop) : Prop :=
 Q (0 : Int32)
set_option maxHeartbeats 4000000 in
set_option maxRecDepth 100000 in
theorem b_X0_clear {p : Program} {e : Env} {s : State} {m : MethodId} {args : Array Value} {below : List Frame} {meth : Method} {c : Code} {QQ : State → Prop} {A : Nat → Prop} {ls : Array Slot} (l : Launch) (D : va_G) (ad : Nat → Nat) (cs : Nat → ClassId) (vL_size : Int32) (Q : Int32 → Prop) (hx : p.tables.exec = Jvm.exec) (hb : c.code = cX0_clear) (hml : c.maxLocals = 1) (hown : s.vm.findClass RX0 = some m.cls) (hts : ∀ w ∈ wsX0_clear, w.before args s = true) (hN : NW s) (hP : va_P D vwCl (cl_X0_clear ad cs vL_size) s.heap) (hK : va_K D vwCl (ty_X0_clear cs) s) (hD : va_D A (cl_X0_clear ad cs vL_size)) (hA : ∀ q : Nat, s.heap.size ≤ q → A q) (hl : lv_has ls 1 [(0, .ref (ad 22))])
  (hret : ∀ (o0 : Int32) (H : Heap) (locs : List Loc) (pc : Nat) (ls : Array Slot), Q o0 → va_P D vwCl (cl_X0_clear ad cs o0) H → va_D A (cl_X0_clear ad cs o0) → va_S A s.heap H locs → decode cX0_clear pc = .ok (.return_, 1) → W p l e rm_X0_clear s m args below meth c H locs 0 0 QQ (F0 m pc ls []))
  (hw : wp_X0_clear vL_size Q) :
  W p l e rm_X0_clear s m args below meth c s.heap [] 0 0 QQ (F0 m 0 ls []) := by
  have S0 : CallFix p m c cX0_clear 1 s args wsX0_clear RX0 := ⟨hx, hb, hml, hown, hts⟩
  have inX0 : ∀ w ∈ u_ws RX0 TX0 6, w ∈ wsX0_clear := by decide +kernel
  have fl_27 := hts (.fieldLink RX0 27 "HopperCourt$Log" "size" "I") (by decide +kernel)
  obtain ⟨H, hH⟩ : ∃ H : Heap, H = s.heap := ⟨_, rfl⟩
  have hS : va_S A s.heap H [] := by rw [hH]; exact va_S.rf
  rw [← hH] at hP ⊢
  unfold wp_X0_clear at hw
  refine lv_aload_n hx hb dX0_clear_0 rfl (lv_at hl 0 rfl) ?_
  refine lv_iconst (v := (0 : Int32)) hx hb dX0_clear_1 (by decide) ?_
  refine va_put (D := D) (ci := 0) (v := .int (0 : Int32)) (ty := .int) (C := RX0) (T := TX0) (N := 6) hx hb hts inX0 tyX0 tyX0_ok nmX0 hown hK hP hD hS 0 rfl rfl 5 (by decide) fl_27 (fun _ h9 => h9) rfl (by decide +kernel) rfl rfl (Nat.le_of_ble_eq_true rfl) dX0_clear_2 (fun H locs hP hD hS => ?_)
  have hP : va_P D vwCl (cl_X0_clear ad cs (0 : Int32)) H := hP
  have hD : va_D A (cl_X0_clear ad cs (0 : Int32)) := hD
  exact hret _ _ _ _ _ hw hP hD hS dX0_clear_5
set_option maxHeartbeats 4000000 in
set_option maxRecDepth 100000 in
theorem c_X0_clear (l : Launch) (D : va_G) (ad : Nat → Nat) (cs : Nat → ClassId) (sz : Nat) (vL_size : Int32) (Q : Int32 → Prop) (hw : wp_X0_clear vL_size Q) :
  Met l yX0_clear wsX0_clear rm_X0_clear (va_Pc [.ref (ad 22)] (PX D (cl_X0_clear ad cs vL_size) (ty_X0_clear cs) sz)) (va_Qv (fun (u : Int32) => Q u) (fun (u : Int32) t => va_P D vwCl (cl_X0_clear ad cs u) t.heap ∧ va_D (va_A (cl_X0_clear ad cs vL_size) sz) (cl_X0_clear ad cs u)) (va_A (cl_X0_clear ad cs vL_size) sz)) 0 0 (va_A (cl_X0_clear ad cs vL_size) sz) := by
  refine Met.ofW (cc := cX0_clear) (maxL := 1) (ret := none) (by decide) rfl ?_
  intro p e s m args below meth c s₁ B hml hv
  obtain ⟨rfl, hsz, hP, hK, hD0, hN⟩ := hv
  subst hsz
  have hl := lv_entry ([.ref (ad 22)]) (n := 1) (Nat.le_of_ble_eq_true rfl)
  rw [lg_entry_eq]
  have hx := B.exec
  have hb := B.bytes
  have hr := B.returns
  exact b_X0_clear l D ad cs vL_size Q hx hb hml (findClass_of_methodNamed B.named) (atoms_spec (ws := wsX0_clear) B.pre) hN hP hK hD0.self (fun q h => Or.inr h) hl (fun o0 H locs pc ls hq hP hD hS hd => W.vret hx hb hr (fun t ht hW => ⟨⟨o0, rfl, hq, by rw [ht]; exact hP, hD⟩, hS.F ht⟩) hS.2.2 hd) hw
abbrev rm_X4_onTurn : Room := { frames := 0, cells := 0, slots := 0, locals := 0 }
abbrev cl_X4_onTurn (ad : Nat → Nat) (cs : Nat → ClassId) (vE_placed vE_playing vE_out vE_turn : Int32) : va_W := [((ad 19), .inr (4, [.ref (ad 6), .ref (ad 20), .ref (ad 21), .int vE_placed, .int vE_playing, .int vE_out, .int vE_turn]))]
abbrev ty_X4_onTurn (cs : Nat → ClassId) : List (ClassId × FieldType) := []
def wp_X4_onTurn (vE_placed vE_playing vE_out vE_turn : Int32) (Q : Int32 → Prop) : Prop :=
 Q vE_turn
set_option maxHeartbeats 4000000 in
set_option maxRecDepth 100000 in
theorem b_X4_onTurn {p : Program} {e : Env} {s : State} {m : MethodId} {args : Array Value} {below : List Frame} {meth : Method} {c : Code} {QQ : State → Prop} {A : Nat → Prop} {ls : Array Slot} (l : Launch) (D : va_G) (ad : Nat → Nat) (cs : Nat → ClassId) (vE_placed vE_playing vE_out vE_turn : Int32) (Q : Int32 → Prop) (hx : p.tables.exec = Jvm.exec) (hb : c.code = cX4_onTurn) (hml : c.maxLocals = 1) (hown : s.vm.findClass RX4 = some m.cls) (hts : ∀ w ∈ wsX4_onTurn, w.before args s = true) (hN : NW s) (hP : va_P D vwCl (cl_X4_onTurn ad cs vE_placed vE_playing vE_out vE_turn) s.heap) (hK : va_K D vwCl (ty_X4_onTurn cs) s) (hD : va_D A (cl_X4_onTurn ad cs vE_placed vE_playing vE_out vE_turn)) (hA : ∀ q : Nat, s.heap.size ≤ q → A q) (hl : lv_has ls 1 [(0, .ref (ad 19))])
  (hret : ∀ (r : Int32) (pc : Nat) (ls : Array Slot), Q r → decode cX4_onTurn pc = .ok (.ireturn, 1) → W p l e rm_X4_onTurn s m args below meth c s.heap [] 0 0 QQ (F0 m pc ls [.int r]))
  (hw : wp_X4_onTurn vE_placed vE_playing vE_out vE_turn Q) :
  W p l e rm_X4_onTurn s m args below meth c s.heap [] 0 0 QQ (F0 m 0 ls []) := by
  have S0 : CallFix p m c cX4_onTurn 1 s args wsX4_onTurn RX4 := ⟨hx, hb, hml, hown, hts⟩
  have inX4 : ∀ w ∈ u_ws RX4 TX4 7, w ∈ wsX4_onTurn := by decide +kernel
  have fl_22 := hts (.fieldLink RX4 22 "HopperCourt$Seats" "turn" "I") (by decide +kernel)
  unfold wp_X4_onTurn at hw
  refine lv_aload_n hx hb dX4_onTurn_0 rfl (lv_at hl 0 rfl) ?_
  refine va_get (D := D) (ci := 4) (v := .int vE_turn) (C := RX4) (T := TX4) (N := 7) hx hb hts inX4 hown hK hP 0 rfl rfl 6 (by decide) fl_22 (fun _ h9 => h9) rfl dX4_onTurn_1 ?_
  exact hret _ _ _ hw dX4_onTurn_4
set_option maxHeartbeats 4000000 in
set_option maxRecDepth 100000 in
theorem c_X4_onTurn (l : Launch) (D : va_G) (ad : Nat → Nat) (cs : Nat → ClassId) (sz : Nat) (vE_placed vE_playing vE_out vE_turn : Int32) (Q : Int32 → Prop) (hw : wp_X4_onTurn vE_placed vE_playing vE_out vE_turn Q) :
  Met l yX4_onTurn wsX4_onTurn rm_X4_onTurn (va_Pc [.ref (ad 19)] (PX D (cl_X4_onTurn ad cs vE_placed vE_playing vE_out vE_turn) (ty_X4_onTurn cs) sz)) (vp_Si Q) 0 0 (fun _ => False) := by
  refine Met.ofW (cc := cX4_onTurn) (maxL := 1) (ret := (some .int)) (by decide) rfl ?_
  intro p e s m args below meth c s₁ B hml hv
  obtain ⟨rfl, hsz, hP, hK, hD0, hN⟩ := hv
  subst hsz
  have hl := lv_entry ([.ref (ad 19)]) (n := 1) (Nat.le_of_ble_eq_true rfl)
  rw [lg_entry_eq]
  have hx := B.exec
  have hb := B.bytes
  have hr := B.returns
  exact b_X4_onTurn l D ad cs vE_placed vE_playing vE_out vE_turn Q hx hb hml (findClass_of_methodNamed B.named) (atoms_spec (ws := wsX4_onTurn) B.pre) hN hP hK hD0.self (fun q h => Or.inr h) hl (A := va_A (cl_X4_onTurn ad cs vE_placed vE_playing vE_out vE_turn) s.heap.size) (fun r pc ls hq hd => W.iret (v := r) hx hb hr (fun t ht hW => ⟨r, rfl, hq, ht⟩) (fun _ h => nomatch h) hd) hw
abbrev rm_X0_size : Room := { frames := 0, cells := 0, slots := 0, locals := 0 }
abbrev cl_X0_size (ad : Nat → Nat) (cs : Nat → ClassId) (vL_size : Int32) : va_W := [((ad 22), .inr (0, [.ref (ad 23), .ref (ad 24), .ref (ad 25), .ref (ad 26), .ref (ad 27), .int vL_size]))]
abbrev ty_X0_size (cs : Nat → ClassId) : List (ClassId × FieldType) := []
def wp_X0_size (vL_size : Int32) (Q : Int32 → Prop) : Prop :=
 Q vL_size
set_option maxHeartbeats 4000000 in
set_option maxRecDepth 100000 in
theorem b_X0_size {p : Program} {e : Env} {s : State} {m : MethodId} {args : Array Value} {below : List Frame} {meth : Method} {c : Code} {QQ : State → Prop} {A : Nat → Prop} {ls : Array Slot} (l : Launch) (D : va_G) (ad : Nat → Nat) (cs : Nat → ClassId) (vL_size : Int32) (Q : Int32 → Prop) (hx : p.tables.exec = Jvm.exec) (hb : c.code = cX0_size) (hml : c.maxLocals = 1) (hown : s.vm.findClass RX0 = some m.cls) (hts : ∀ w ∈ wsX0_size, w.before args s = true) (hN : NW s) (hP : va_P D vwCl (cl_X0_size ad cs vL_size) s.heap) (hK : va_K D vwCl (ty_X0_size cs) s) (hD : va_D A (cl_X0_size ad cs vL_size)) (hA : ∀ q : Nat, s.heap.size ≤ q → A q) (hl : lv_has ls 1 [(0, .ref (ad 22))])
  (hret : ∀ (r : Int32) (pc : Nat) (ls : Array Slot), Q r → decode cX0_size pc = .ok (.ireturn, 1) → W p l e rm_X0_size s m args below meth c s.heap [] 0 0 QQ (F0 m pc ls [.int r]))
  (hw : wp_X0_size vL_size Q) :
  W p l e rm_X0_size s m args below meth c s.heap [] 0 0 QQ (F0 m 0 ls []) := by
  have S0 : CallFix p m c cX0_size 1 s args wsX0_size RX0 := ⟨hx, hb, hml, hown, hts⟩
  have inX0 : ∀ w ∈ u_ws RX0 TX0 6, w ∈ wsX0_size := by decide +kernel
  have fl_27 := hts (.fieldLink RX0 27 "HopperCourt$Log" "size" "I") (by decide +kernel)
  unfold wp_X0_size at hw
  refine lv_aload_n hx hb dX0_size_0 rfl (lv_at hl 0 rfl) ?_
  refine va_get (D := D) (ci := 0) (v := .int vL_size) (C := RX0) (T := TX0) (N := 6) hx hb hts inX0 hown hK hP 0 rfl rfl 5 (by decide) fl_27 (fun _ h9 => h9) rfl dX0_size_1 ?_
  exact hret _ _ _ hw dX0_size_4
set_option maxHeartbeats 4000000 in
set_option maxRecDepth 100000 in
theorem c_X0_size (l : Launch) (D : va_G) (ad : Nat → Nat) (cs : Nat → ClassId) (sz : Nat) (vL_size : Int32) (Q : Int32 → Prop) (hw : wp_X0_size vL_size Q) :
  Met l yX0_size wsX0_size rm_X0_size (va_Pc [.ref (ad 22)] (PX D (cl_X0_size ad cs vL_size) (ty_X0_size cs) sz)) (vp_Si Q) 0 0 (fun _ => False) := by
  refine Met.ofW (cc := cX0_size) (maxL := 1) (ret := (some .int)) (by decide) rfl ?_
  intro p e s m args below meth c s₁ B hml hv
  obtain ⟨rfl, hsz, hP, hK, hD0, hN⟩ := hv
  subst hsz
  have hl := lv_entry ([.ref (ad 22)]) (n := 1) (Nat.le_of_ble_eq_true rfl)
  rw [lg_entry_eq]
  have hx := B.exec
  have hb := B.bytes
  have hr := B.returns
  exact b_X0_size l D ad cs vL_size Q hx hb hml (findClass_of_methodNamed B.named) (atoms_spec (ws := wsX0_size) B.pre) hN hP hK hD0.self (fun q h => Or.inr h) hl (A := va_A (cl_X0_size ad cs vL_size) s.heap.size) (fun r pc ls hq hd => W.iret (v := r) hx hb hr (fun t ht hW => ⟨r, rfl, hq, ht⟩) (fun _ h => nomatch h) hd) hw
abbrev rm_X4_outSet : Room := { frames := 0, cells := 0, slots := 0, locals := 0 }
abbrev cl_X4_outSet (ad : Nat → Nat) (cs : Nat → ClassId) (vE_placed vE_playing vE_out vE_turn : Int32) : va_W := [((ad 19), .inr (4, [.ref (ad 6), .ref (ad 20), .ref (ad 21), .int vE_placed, .int vE_playing, .int vE_out, .int vE_turn]))]
abbrev ty_X4_outSet (cs : Nat → ClassId) : List (ClassId × FieldType) := []
def wp_X4_outSet (vE_placed vE_playing vE_out vE_turn : Int32) (Q : Int32 → Prop) : Prop :=
 Q vE_out
set_option maxHeartbeats 4000000 in
set_option maxRecDepth 100000 in
theorem b_X4_outSet {p : Program} {e : Env} {s : State} {m : MethodId} {args : Array Value} {below : List Frame} {meth : Method} {c : Code} {QQ : State → Prop} {A : Nat → Prop} {ls : Array Slot} (l : Launch) (D : va_G) (ad : Nat → Nat) (cs : Nat → ClassId) (vE_placed vE_playing vE_out vE_turn : Int32) (Q : Int32 → Prop) (hx : p.tables.exec = Jvm.exec) (hb : c.code = cX4_outSet) (hml : c.maxLocals = 1) (hown : s.vm.findClass RX4 = some m.cls) (hts : ∀ w ∈ wsX4_outSet, w.before args s = true) (hN : NW s) (hP : va_P D vwCl (cl_X4_outSet ad cs vE_placed vE_playing vE_out vE_turn) s.heap) (hK : va_K D vwCl (ty_X4_outSet cs) s) (hD : va_D A (cl_X4_outSet ad cs vE_placed vE_playing vE_out vE_turn)) (hA : ∀ q : Nat, s.heap.size ≤ q → A q) (hl : lv_has ls 1 [(0, .ref (ad 19))])
  (hret : ∀ (r : Int32) (pc : Nat) (ls : Array Slot), Q r → decode cX4_outSet pc = .ok (.ireturn, 1) → W p l e rm_X4_outSet s m args below meth c s.heap [] 0 0 QQ (F0 m pc ls [.int r]))
  (hw : wp_X4_outSet vE_placed vE_playing vE_out vE_turn Q) :
  W p l e rm_X4_outSet s m args below meth c s.heap [] 0 0 QQ (F0 m 0 ls []) := by
  have S0 : CallFix p m c cX4_outSet 1 s args wsX4_outSet RX4 := ⟨hx, hb, hml, hown, hts⟩
  have inX4 : ∀ w ∈ u_ws RX4 TX4 7, w ∈ wsX4_outSet := by decide +kernel
  have fl_29 := hts (.fieldLink RX4 29 "HopperCourt$Seats" "out" "I") (by decide +kernel)
  unfold wp_X4_outSet at hw
  refine lv_aload_n hx hb dX4_outSet_0 rfl (lv_at hl 0 rfl) ?_
  refine va_get (D := D) (ci := 4) (v := .int vE_out) (C := RX4) (T := TX4) (N := 7) hx hb hts inX4 hown hK hP 0 rfl rfl 5 (by decide) fl_29 (fun _ h9 => h9) rfl dX4_outSet_1 ?_
  exact hret _ _ _ hw dX4_outSet_4
set_option maxHeartbeats 4000000 in
set_option maxRecDepth 100000 in
theorem c_X4_outSet (l : Launch) (D : va_G) (ad : Nat → Nat) (cs : Nat → ClassId) (sz : Nat) (vE_placed vE_playing vE_out vE_turn : Int32) (Q : Int32 → Prop) (hw : wp_X4_outSet vE_placed vE_playing vE_out vE_turn Q) :
  Met l yX4_outSet wsX4_outSet rm_X4_outSet (va_Pc [.ref (ad 19)] (PX D (cl_X4_outSet ad cs vE_placed vE_playing vE_out vE_turn) (ty_X4_outSet cs) sz)) (vp_Si Q) 0 0 (fun _ => False) := by
  refine Met.ofW (cc := cX4_outSet) (maxL := 1) (ret := (some .int)) (by decide) rfl ?_
  intro p e s m args below meth c s₁ B hml hv
  obtain ⟨rfl, hsz, hP, hK, hD0, hN⟩ := hv
  subst hsz
  have hl := lv_entry ([.ref (ad 19)]) (n := 1) (Nat.le_of_ble_eq_true rfl)
  rw [lg_entry_eq]
  have hx := B.exec
  have hb := B.bytes
  have hr := B.returns
  exact b_X4_outSet l D ad cs vE_placed vE_playing vE_out vE_turn Q hx hb hml (findClass_of_methodNamed B.named) (atoms_spec (ws := wsX4_outSet) B.pre) hN hP hK hD0.self (fun q h => Or.inr h) hl (A := va_A (cl_X4_outSet ad cs vE_placed vE_playing vE_out vE_turn) s.heap.size) (fun r pc ls hq hd => W.iret (v := r) hx hb hr (fun t ht hW => ⟨r, rfl, hq, ht⟩) (fun _ h => nomatch h) hd) hw
abbrev rm_X4_placedCount : Room := { frames := 0, cells := 0, slots := 0, locals := 0 }
abbrev cl_X4_placedCount (ad : Nat → Nat) (cs : Nat → ClassId) (vE_placed vE_playing vE_out vE_turn : Int32) : va_W := [((ad 19), .inr (4, [.ref (ad 6), .ref (ad 20), .ref (ad 21), .int vE_placed, .int vE_playing, .int vE_out, .int vE_turn]))]
abbrev ty_X4_placedCount (cs : Nat → ClassId) : List (ClassId × FieldType) := []
def wp_X4_placedCount (vE_placed vE_playing vE_out vE_turn : Int32) (Q : Int32 → Prop) : Prop :=
 Q vE_placed
set_option maxHeartbeats 4000000 in
set_option maxRecDepth 100000 in
theorem b_X4_placedCount {p : Program} {e : Env} {s : State} {m : MethodId} {args : Array Value} {below : List Frame} {meth : Method} {c : Code} {QQ : State → Prop} {A : Nat → Prop} {ls : Array Slot} (l : Launch) (D : va_G) (ad : Nat → Nat) (cs : Nat → ClassId) (vE_placed vE_playing vE_out vE_turn : Int32) (Q : Int32 → Prop) (hx : p.tables.exec = Jvm.exec) (hb : c.code = cX4_placedCount) (hml : c.maxLocals = 1) (hown : s.vm.findClass RX4 = some m.cls) (hts : ∀ w ∈ wsX4_placedCount, w.before args s = true) (hN : NW s) (hP : va_P D vwCl (cl_X4_placedCount ad cs vE_placed vE_playing vE_out vE_turn) s.heap) (hK : va_K D vwCl (ty_X4_placedCount cs) s) (hD : va_D A (cl_X4_placedCount ad cs vE_placed vE_playing vE_out vE_turn)) (hA : ∀ q : Nat, s.heap.size ≤ q → A q) (hl : lv_has ls 1 [(0, .ref (ad 19))])
  (hret : ∀ (r : Int32) (pc : Nat) (ls : Array Slot), Q r → decode cX4_placedCount pc = .ok (.ireturn, 1) → W p l e rm_X4_placedCount s m args below meth c s.heap [] 0 0 QQ (F0 m pc ls [.int r]))
  (hw : wp_X4_placedCount vE_placed vE_playing vE_out vE_turn Q) :
  W p l e rm_X4_placedCount s m args below meth c s.heap [] 0 0 QQ (F0 m 0 ls []) := by
  have S0 : CallFix p m c cX4_placedCount 1 s args wsX4_placedCount RX4 := ⟨hx, hb, hml, hown, hts⟩
  have inX4 : ∀ w ∈ u_ws RX4 TX4 7, w ∈ wsX4_placedCount := by decide +kernel
  have fl_32 := hts (.fieldLink RX4 32 "HopperCourt$Seats" "placed" "I") (by decide +kernel)
  unfold wp_X4_placedCount at hw
  refine lv_aload_n hx hb dX4_placedCount_0 rfl (lv_at hl 0 rfl) ?_
  refine va_get (D := D) (ci := 4) (v := .int vE_placed) (C := RX4) (T := TX4) (N := 7) hx hb hts inX4 hown hK hP 0 rfl rfl 3 (by decide) fl_32 (fun _ h9 => h9) rfl dX4_placedCount_1 ?_
  exact hret _ _ _ hw dX4_placedCount_4
set_option maxHeartbeats 4000000 in
set_option maxRecDepth 100000 in
theorem c_X4_placedCount (l : Launch) (D : va_G) (ad : Nat → Nat) (cs : Nat → ClassId) (sz : Nat) (vE_placed vE_playing vE_out vE_turn : Int32) (Q : Int32 → Prop) (hw : wp_X4_placedCount vE_placed vE_playing vE_out vE_turn Q) :
  Met l yX4_placedCount wsX4_placedCount rm_X4_placedCount (va_Pc [.ref (ad 19)] (PX D (cl_X4_placedCount ad cs vE_placed vE_playing vE_out vE_turn) (ty_X4_placedCount cs) sz)) (vp_Si Q) 0 0 (fun _ => False) := by
  refine Met.ofW (cc := cX4_placedCount) (maxL := 1) (ret := (some .int)) (by decide) rfl ?_
  intro p e s m args below meth c s₁ B hml hv
  obtain ⟨rfl, hsz, hP, hK, hD0, hN⟩ := hv
  subst hsz
  have hl := lv_entry ([.ref (ad 19)]) (n := 1) (Nat.le_of_ble_eq_true rfl)
  rw [lg_entry_eq]
  have hx := B.exec
  have hb := B.bytes
  have hr := B.returns
  exact b_X4_placedCount l D ad cs vE_placed vE_playing vE_out vE_turn Q hx hb hml (findClass_of_methodNamed B.named) (atoms_spec (ws := wsX4_placedCount) B.pre) hN hP hK hD0.self (fun q h => Or.inr h) hl (A := va_A (cl_X4_placedCount ad cs vE_placed vE_playing vE_out vE_turn) s.heap.size) (fun r pc ls hq hd => W.iret (v := r) hx hb hr (fun t ht hW => ⟨r, rfl, hq, ht⟩) (fun _ h => nomatch h) hd) hw
abbrev rm_X0_add : Room := { frames := 1, cells := 0, slots := 0, locals := 20 }
abbrev cl_X0_add (ad : Nat → Nat) (cs : Nat → ClassId) (vE_placed vE_playing vE_out vE_turn vL_size : Int32) (vL_froms vL_tos vL_turns vL_outs vL_placeds : Nat → Int32) : va_W := [((ad 19), .inr (4, [.ref (ad 6), .ref (ad 20), .ref (ad 21), .int vE_placed, .int vE_playing, .int vE_out, .int vE_turn])), ((ad 22), .inr (0, [.ref (ad 23), .ref (ad 24), .ref (ad 25), .ref (ad 26), .ref (ad 27), .int vL_size])), ((ad 23), .inl ((cs 23), 300, .inl vL_froms)), ((ad 24), .inl ((cs 24), 300, .inl vL_tos)), ((ad 25), .inl ((cs 25), 300, .inl vL_turns)), ((ad 26), .inl ((cs 26), 300, .inl vL_outs)), ((ad 27), .inl ((cs 27), 300, .inl vL_placeds))]
abbrev ty_X0_add (cs : Nat → ClassId) : List (ClassId × FieldType) := [((cs 23), .int), ((cs 24), .int), ((cs 25), .int), ((cs 26), .int), ((cs 27), .int)]
def wp_X0_add (vE_placed vE_playing vE_out vE_turn vL_size : Int32) (vL_froms vL_tos vL_turns vL_outs vL_placeds : Nat → Int32) (x1 x2 : Int32) (Q : Int32 → (Nat → Int32) → (Nat → Int32) → (Nat → Int32) → (Nat → Int32) → (Nat → Int32) → Prop) : Prop :=
 (((300 : Int32) ≤ vL_size → Q vL_size vL_froms vL_tos vL_turns vL_outs vL_placeds) ∧
 (¬ (300 : Int32) ≤ vL_size → (vp_in vL_size 300 ∧
 (vp_in vL_size 300 ∧
 wp_X4_onTurn vE_placed vE_playing vE_out vE_turn (fun r_4 =>
 (vp_in vL_size 300 ∧
 wp_X4_outSet vE_placed vE_playing vE_out vE_turn (fun r_6 =>
 (vp_in vL_size 300 ∧
 wp_X4_placedCount vE_placed vE_playing vE_out vE_turn (fun r_8 =>
 (vp_in vL_size 300 ∧
 Q (vL_size + (1 : Int32)) (upd vL_froms vL_size.toNatClampNeg x1) (upd vL_tos vL_size.toNatClampNeg x2) (upd vL_turns vL_size.toNatClampNeg r_4) (upd vL_outs vL_size.toNatClampNeg r_6) (upd vL_placeds vL_size.toNatClampNeg r_8)))))))))))
set_option maxHeartbeats 4000000 in
set_option maxRecDepth 100000 in
theorem b_X0_add {p : Program} {e : Env} {s : State} {m : MethodId} {args : Array Value} {below : List Frame} {meth : Method} {c : Code} {QQ : State → Prop} {A : Nat → Prop} {ls : Array Slot} (l : Launch) (D : va_G) (ad : Nat → Nat) (cs : Nat → ClassId) (vE_placed vE_playing vE_out vE_turn vL_size : Int32) (vL_froms vL_tos vL_turns vL_outs vL_placeds : Nat → Int32) (x1 x2 : Int32) (Q : Int32 → (Nat → Int32) → (Nat → Int32) → (Nat → Int32) → (Nat → Int32) → (Nat → Int32) → Prop) (hx : p.tables.exec = Jvm.exec) (hb : c.code = cX0_add) (hml : c.maxLocals = 4) (hown : s.vm.findClass RX0 = some m.cls) (hts : ∀ w ∈ wsX0_add, w.before args s = true) (hN : NW s) (hP : va_P D vwCl (cl_X0_add ad cs vE_placed vE_playing vE_out vE_turn vL_size vL_froms vL_tos vL_turns vL_outs vL_placeds) s.heap) (hK : va_K D vwCl (ty_X0_add cs) s) (hD : va_D A (cl_X0_add ad cs vE_placed vE_playing vE_out vE_turn vL_size vL_froms vL_tos vL_turns vL_outs vL_placeds)) (hA : ∀ q : Nat, s.heap.size ≤ q → A q) (hl : lv_has ls 4 [(0, .ref (ad 22)), (1, .int x1), (2, .int x2), (3, .ref (ad 19))])
  (hret : ∀ (o0 : Int32) (o1 : Nat → Int32) (o2 : Nat → Int32) (o3 : Nat → Int32) (o4 : Nat → Int32) (o5 : Nat → Int32) (H : Heap) (locs : List Loc) (pc : Nat) (ls : Array Slot), Q o0 o1 o2 o3 o4 o5 → va_P D vwCl (cl_X0_add ad cs vE_placed vE_playing vE_out vE_turn o0 o1 o2 o3 o4 o5) H → va_D A (cl_X0_add ad cs vE_placed vE_playing vE_out vE_turn o0 o1 o2 o3 o4 o5) → va_S A s.heap H locs → decode cX0_add pc = .ok (.return_, 1) → W p l e rm_X0_add s m args below meth c H locs 0 0 QQ (F0 m pc ls []))
  (hw : wp_X0_add vE_placed vE_playing vE_out vE_turn vL_size vL_froms vL_tos vL_turns vL_outs vL_placeds x1 x2 Q) :
  W p l e rm_X0_add s m args below meth c s.heap [] 0 0 QQ (F0 m 0 ls []) := by
  have S0 : CallFix p m c cX0_add 4 s args wsX0_add RX0 := ⟨hx, hb, hml, hown, hts⟩
  have inX0 : ∀ w ∈ u_ws RX0 TX0 6, w ∈ wsX0_add := by decide +kernel
  have fl_15 := hts (.fieldLink RX0 15 "HopperCourt$Log" "tos" "[I") (by decide +kernel)
  have fl_18 := hts (.fieldLink RX0 18 "HopperCourt$Log" "turns" "[I") (by decide +kernel)
  have fl_21 := hts (.fieldLink RX0 21 "HopperCourt$Log" "outs" "[I") (by decide +kernel)
  have fl_24 := hts (.fieldLink RX0 24 "HopperCourt$Log" "placeds" "[I") (by decide +kernel)
  have fl_27 := hts (.fieldLink RX0 27 "HopperCourt$Log" "size" "I") (by decide +kernel)
  have fl_9 := hts (.fieldLink RX0 9 "HopperCourt$Log" "froms" "[I") (by decide +kernel)
  obtain ⟨H, hH⟩ : ∃ H : Heap, H = s.heap := ⟨_, rfl⟩
  have hS : va_S A s.heap H [] := by rw [hH]; exact va_S.rf
  rw [← hH] at hP ⊢
  unfold wp_X0_add at hw
  refine lv_aload_n hx hb dX0_add_0 rfl (lv_at hl 0 rfl) ?_
  refine va_get (D := D) (ci := 0) (v := .int vL_size) (C := RX0) (T := TX0) (N := 6) hx hb hts inX0 hown hK hP 1 rfl rfl 5 (by decide) fl_27 (fun _ h9 => h9) rfl dX0_add_1 ?_
  refine lv_sipush (v := (300 : Int32)) hx hb dX0_add_4 (by decide) ?_
  refine lv_icmp_ge (tgt := 79) hx hb dX0_add_7 (by decide) (fun c_1 => ?_) (fun c_1 => ?_)
  · have hw := hw.1 c_1
    exact hret _ _ _ _ _ _ _ _ _ _ hw hP hD hS dX0_add_79
  · have hw := hw.2 c_1
    refine lv_aload_n hx hb dX0_add_10 rfl (lv_at hl 0 rfl) ?_
    refine va_get (D := D) (ci := 0) (v := .ref (ad 23)) (C := RX0) (T := TX0) (N := 6) hx hb hts inX0 hown hK hP 1 rfl rfl 0 (by decide) fl_9 (fun _ h9 => h9) rfl dX0_add_11 ?_
    refine lv_aload_n hx hb dX0_add_14 rfl (lv_at hl 0 rfl) ?_
    refine va_get (D := D) (ci := 0) (v := .int vL_size) (C := RX0) (T := TX0) (N := 6) hx hb hts inX0 hown hK hP 1 rfl rfl 5 (by decide) fl_27 (fun _ h9 => h9) rfl dX0_add_15 ?_
    refine lv_iload_n hx hb dX0_add_18 rfl (lv_at hl 1 rfl) ?_
    obtain ⟨h_2, hw⟩ := hw
    refine va_iast hx hb hK hP hD hS 2 0 rfl rfl h_2 dX0_add_19 (fun H locs hP hD hS => ?_)
    have hP : va_P D vwCl (cl_X0_add ad cs vE_placed vE_playing vE_out vE_turn vL_size (upd vL_froms vL_size.toNatClampNeg x1) vL_tos vL_turns vL_outs vL_placeds) H := hP
    have hD : va_D A (cl_X0_add ad cs vE_placed vE_playing vE_out vE_turn vL_size (upd vL_froms vL_size.toNatClampNeg x1) vL_tos vL_turns vL_outs vL_placeds) := hD
    refine lv_aload_n hx hb dX0_add_20 rfl (lv_at hl 0 rfl) ?_
    refine va_get (D := D) (ci := 0) (v := .ref (ad 24)) (C := RX0) (T := TX0) (N := 6) hx hb hts inX0 hown hK hP 1 rfl rfl 1 (by decide) fl_15 (fun _ h9 => h9) rfl dX0_add_21 ?_
    refine lv_aload_n hx hb dX0_add_24 rfl (lv_at hl 0 rfl) ?_
    refine va_get (D := D) (ci := 0) (v := .int vL_size) (C := RX0) (T := TX0) (N := 6) hx hb hts inX0 hown hK hP 1 rfl rfl 5 (by decide) fl_27 (fun _ h9 => h9) rfl dX0_add_25 ?_
    refine lv_iload_n hx hb dX0_add_28 rfl (lv_at hl 2 rfl) ?_
    obtain ⟨h_3, hw⟩ := hw
    refine va_iast hx hb hK hP hD hS 3 1 rfl rfl h_3 dX0_add_29 (fun H locs hP hD hS => ?_)
    have hP : va_P D vwCl (cl_X0_add ad cs vE_placed vE_playing vE_out vE_turn vL_size (upd vL_froms vL_size.toNatClampNeg x1) (upd vL_tos vL_size.toNatClampNeg x2) vL_turns vL_outs vL_placeds) H := hP
    have hD : va_D A (cl_X0_add ad cs vE_placed vE_playing vE_out vE_turn vL_size (upd vL_froms vL_size.toNatClampNeg x1) (upd vL_tos vL_size.toNatClampNeg x2) vL_turns vL_outs vL_placeds) := hD
    refine lv_aload_n hx hb dX0_add_30 rfl (lv_at hl 0 rfl) ?_
    refine va_get (D := D) (ci := 0) (v := .ref (ad 25)) (C := RX0) (T := TX0) (N := 6) hx hb hts inX0 hown hK hP 1 rfl rfl 2 (by decide) fl_18 (fun _ h9 => h9) rfl dX0_add_31 ?_
    refine lv_aload_n hx hb dX0_add_34 rfl (lv_at hl 0 rfl) ?_
    refine va_get (D := D) (ci := 0) (v := .int vL_size) (C := RX0) (T := TX0) (N := 6) hx hb hts inX0 hown hK hP 1 rfl rfl 5 (by decide) fl_27 (fun _ h9 => h9) rfl dX0_add_35 ?_
    refine lv_aload_n hx hb dX0_add_38 rfl (lv_at hl 3 rfl) ?_
    refine pcV (rest := [.int vL_size, .ref (ad 25)]) (ci := 4) S0 (c_X4_onTurn l D ad cs H.size vE_placed vE_playing vE_out vE_turn _ hw) (cwV 0 hts gX0_add_X4_onTurn rfl rfl rfl (by decide +kernel) ⟨Nat.le_of_ble_eq_true rfl, Nat.le_of_ble_eq_true rfl⟩) hN hK hP hD [0] [] rfl rfl rfl 0 rfl rfl rfl rfl hl.1 (Nat.le_of_ble_eq_true rfl) ⟨Nat.le_of_ble_eq_true rfl, Nat.le_of_ble_eq_true rfl⟩ dX0_add_39 (fun r_4 hw => ?_)
    obtain ⟨h_5, hw⟩ := hw
    refine va_iast hx hb hK hP hD hS 4 2 rfl rfl h_5 dX0_add_42 (fun H locs hP hD hS => ?_)
    have hP : va_P D vwCl (cl_X0_add ad cs vE_placed vE_playing vE_out vE_turn vL_size (upd vL_froms vL_size.toNatClampNeg x1) (upd vL_tos vL_size.toNatClampNeg x2) (upd vL_turns vL_size.toNatClampNeg r_4) vL_outs vL_placeds) H := hP
    have hD : va_D A (cl_X0_add ad cs vE_placed vE_playing vE_out vE_turn vL_size (upd vL_froms vL_size.toNatClampNeg x1) (upd vL_tos vL_size.toNatClampNeg x2) (upd vL_turns vL_size.toNatClampNeg r_4) vL_outs vL_placeds) := hD
    refine lv_aload_n hx hb dX0_add_43 rfl (lv_at hl 0 rfl) ?_
    refine va_get (D := D) (ci := 0) (v := .ref (ad 26)) (C := RX0) (T := TX0) (N := 6) hx hb hts inX0 hown hK hP 1 rfl rfl 3 (by decide) fl_21 (fun _ h9 => h9) rfl dX0_add_44 ?_
    refine lv_aload_n hx hb dX0_add_47 rfl (lv_at hl 0 rfl) ?_
    refine va_get (D := D) (ci := 0) (v := .int vL_size) (C := RX0) (T := TX0) (N := 6) hx hb hts inX0 hown hK hP 1 rfl rfl 5 (by decide) fl_27 (fun _ h9 => h9) rfl dX0_add_48 ?_
    refine lv_aload_n hx hb dX0_add_51 rfl (lv_at hl 3 rfl) ?_
    refine pcV (rest := [.int vL_size, .ref (ad 26)]) (ci := 4) S0 (c_X4_outSet l D ad cs H.size vE_placed vE_playing vE_out vE_turn _ hw) (cwV 0 hts gX0_add_X4_outSet rfl rfl rfl (by decide +kernel) ⟨Nat.le_of_ble_eq_true rfl, Nat.le_of_ble_eq_true rfl⟩) hN hK hP hD [0] [] rfl rfl rfl 0 rfl rfl rfl rfl hl.1 (Nat.le_of_ble_eq_true rfl) ⟨Nat.le_of_ble_eq_true rfl, Nat.le_of_ble_eq_true rfl⟩ dX0_add_52 (fun r_6 hw => ?_)
    obtain ⟨h_7, hw⟩ := hw
    refine va_iast hx hb hK hP hD hS 5 3 rfl rfl h_7 dX0_add_55 (fun H locs hP hD hS => ?_)
    have hP : va_P D vwCl (cl_X0_add ad cs vE_placed vE_playing vE_out vE_turn vL_size (upd vL_froms vL_size.toNatClampNeg x1) (upd vL_tos vL_size.toNatClampNeg x2) (upd vL_turns vL_size.toNatClampNeg r_4) (upd vL_outs vL_size.toNatClampNeg r_6) vL_placeds) H := hP
    have hD : va_D A (cl_X0_add ad cs vE_placed vE_playing vE_out vE_turn vL_size (upd vL_froms vL_size.toNatClampNeg x1) (upd vL_tos vL_size.toNatClampNeg x2) (upd vL_turns vL_size.toNatClampNeg r_4) (upd vL_outs vL_size.toNatClampNeg r_6) vL_placeds) := hD
    refine lv_aload_n hx hb dX0_add_56 rfl (lv_at hl 0 rfl) ?_
    refine va_get (D := D) (ci := 0) (v := .ref (ad 27)) (C := RX0) (T := TX0) (N := 6) hx hb hts inX0 hown hK hP 1 rfl rfl 4 (by decide) fl_24 (fun _ h9 => h9) rfl dX0_add_57 ?_
    refine lv_aload_n hx hb dX0_add_60 rfl (lv_at hl 0 rfl) ?_
    refine va_get (D := D) (ci := 0) (v := .int vL_size) (C := RX0) (T := TX0) (N := 6) hx hb hts inX0 hown hK hP 1 rfl rfl 5 (by decide) fl_27 (fun _ h9 => h9) rfl dX0_add_61 ?_
    refine lv_aload_n hx hb dX0_add_64 rfl (lv_at hl 3 rfl) ?_
    refine pcV (rest := [.int vL_size, .ref (ad 27)]) (ci := 4) S0 (c_X4_placedCount l D ad cs H.size vE_placed vE_playing vE_out vE_turn _ hw) (cwV 0 hts gX0_add_X4_placedCount rfl rfl rfl (by decide +kernel) ⟨Nat.le_of_ble_eq_true rfl, Nat.le_of_ble_eq_true rfl⟩) hN hK hP hD [0] [] rfl rfl rfl 0 rfl rfl rfl rfl hl.1 (Nat.le_of_ble_eq_true rfl) ⟨Nat.le_of_ble_eq_true rfl, Nat.le_of_ble_eq_true rfl⟩ dX0_add_65 (fun r_8 hw => ?_)
    obtain ⟨h_9, hw⟩ := hw
    refine va_iast hx hb hK hP hD hS 6 4 rfl rfl h_9 dX0_add_68 (fun H locs hP hD hS => ?_)
    have hP : va_P D vwCl (cl_X0_add ad cs vE_placed vE_playing vE_out vE_turn vL_size (upd vL_froms vL_size.toNatClampNeg x1) (upd vL_tos vL_size.toNatClampNeg x2) (upd vL_turns vL_size.toNatClampNeg r_4) (upd vL_outs vL_size.toNatClampNeg r_6) (upd vL_placeds vL_size.toNatClampNeg r_8)) H := hP
    have hD : va_D A (cl_X0_add ad cs vE_placed vE_playing vE_out vE_turn vL_size (upd vL_froms vL_size.toNatClampNeg x1) (upd vL_tos vL_size.toNatClampNeg x2) (upd vL_turns vL_size.toNatClampNeg r_4) (upd vL_outs vL_size.toNatClampNeg r_6) (upd vL_placeds vL_size.toNatClampNeg r_8)) := hD
    refine lv_aload_n hx hb dX0_add_69 rfl (lv_at hl 0 rfl) ?_
    refine lv_dup hx hb dX0_add_70 rfl ?_
    refine va_get (D := D) (ci := 0) (v := .int vL_size) (C := RX0) (T := TX0) (N := 6) hx hb hts inX0 hown hK hP 1 rfl rfl 5 (by decide) fl_27 (fun _ h9 => h9) rfl dX0_add_71 ?_
    refine lv_iconst (v := (1 : Int32)) hx hb dX0_add_74 (by decide) ?_
    refine lv_iadd hx hb dX0_add_75 ?_
    refine va_put (D := D) (ci := 0) (v := .int (vL_size + (1 : Int32))) (ty := .int) (C := RX0) (T := TX0) (N := 6) hx hb hts inX0 tyX0 tyX0_ok nmX0 hown hK hP hD hS 1 rfl rfl 5 (by decide) fl_27 (fun _ h9 => h9) rfl (by decide +kernel) rfl rfl (Nat.le_of_ble_eq_true rfl) dX0_add_76 (fun H locs hP hD hS => ?_)
    have hP : va_P D vwCl (cl_X0_add ad cs vE_placed vE_playing vE_out vE_turn (vL_size + (1 : Int32)) (upd vL_froms vL_size.toNatClampNeg x1) (upd vL_tos vL_size.toNatClampNeg x2) (upd vL_turns vL_size.toNatClampNeg r_4) (upd vL_outs vL_size.toNatClampNeg r_6) (upd vL_placeds vL_size.toNatClampNeg r_8)) H := hP
    have hD : va_D A (cl_X0_add ad cs vE_placed vE_playing vE_out vE_turn (vL_size + (1 : Int32)) (upd vL_froms vL_size.toNatClampNeg x1) (upd vL_tos vL_size.toNatClampNeg x2) (upd vL_turns vL_size.toNatClampNeg r_4) (upd vL_outs vL_size.toNatClampNeg r_6) (upd vL_placeds vL_size.toNatClampNeg r_8)) := hD
    exact hret _ _ _ _ _ _ _ _ _ _ hw hP hD hS dX0_add_79
set_option maxHeartbeats 4000000 in
set_option maxRecDepth 100000 in
theorem c_X0_add (l : Launch) (D : va_G) (ad : Nat → Nat) (cs : Nat → ClassId) (sz : Nat) (vE_placed vE_playing vE_out vE_turn vL_size : Int32) (vL_froms vL_tos vL_turns vL_outs vL_placeds : Nat → Int32) (x1 x2 : Int32) (Q : Int32 → (Nat → Int32) → (Nat → Int32) → (Nat → Int32) → (Nat → Int32) → (Nat → Int32) → Prop) (hw : wp_X0_add vE_placed vE_playing vE_out vE_turn vL_size vL_froms vL_tos vL_turns vL_outs vL_placeds x1 x2 Q) :
  Met l yX0_add wsX0_add rm_X0_add (va_Pc [.ref (ad 22), .int x1, .int x2, .ref (ad 19)] (PX D (cl_X0_add ad cs vE_placed vE_playing vE_out vE_turn vL_size vL_froms vL_tos vL_turns vL_outs vL_placeds) (ty_X0_add cs) sz)) (va_Qv (fun (u : Int32 × (Nat → Int32) × (Nat → Int32) × (Nat → Int32) × (Nat → Int32) × (Nat → Int32)) => Q u.1 u.2.1 u.2.2.1 u.2.2.2.1 u.2.2.2.2.1 u.2.2.2.2.2) (fun (u : Int32 × (Nat → Int32) × (Nat → Int32) × (Nat → Int32) × (Nat → Int32) × (Nat → Int32)) t => va_P D vwCl (cl_X0_add ad cs vE_placed vE_playing vE_out vE_turn u.1 u.2.1 u.2.2.1 u.2.2.2.1 u.2.2.2.2.1 u.2.2.2.2.2) t.heap ∧ va_D (va_A (cl_X0_add ad cs vE_placed vE_playing vE_out vE_turn vL_size vL_froms vL_tos vL_turns vL_outs vL_placeds) sz) (cl_X0_add ad cs vE_placed vE_playing vE_out vE_turn u.1 u.2.1 u.2.2.1 u.2.2.2.1 u.2.2.2.2.1 u.2.2.2.2.2)) (va_A (cl_X0_add ad cs vE_placed vE_playing vE_out vE_turn vL_size vL_froms vL_tos vL_turns vL_outs vL_placeds) sz)) 0 0 (va_A (cl_X0_add ad cs vE_placed vE_playing vE_out vE_turn vL_size vL_froms vL_tos vL_turns vL_outs vL_placeds) sz) := by
  refine Met.ofW (cc := cX0_add) (maxL := 4) (ret := none) (by decide) rfl ?_
  intro p e s m args below meth c s₁ B hml hv
  obtain ⟨rfl, hsz, hP, hK, hD0, hN⟩ := hv
  subst hsz
  have hl := lv_entry ([.ref (ad 22), .int x1, .int x2, .ref (ad 19)]) (n := 4) (Nat.le_of_ble_eq_true rfl)
  rw [lg_entry_eq]
  have hx := B.exec
  have hb := B.bytes
  have hr := B.returns
  exact b_X0_add l D ad cs vE_placed vE_playing vE_out vE_turn vL_size vL_froms vL_tos vL_turns vL_outs vL_placeds x1 x2 Q hx hb hml (findClass_of_methodNamed B.named) (atoms_spec (ws := wsX0_add) B.pre) hN hP hK hD0.self (fun q h => Or.inr h) hl (fun o0 o1 o2 o3 o4 o5 H locs pc ls hq hP hD hS hd => W.vret hx hb hr (fun t ht hW => ⟨⟨(o0, o1, o2, o3, o4, o5), rfl, hq, by rw [ht]; exact hP, hD⟩, hS.F ht⟩) hS.2.2 hd) hw
abbrev rm_X4_countMove : Room := { frames := 1, cells := 0, slots := 0, locals := 20 }
abbrev cl_X4_countMove (ad : Nat → Nat) (cs : Nat → ClassId) (vE_placed vE_playing vE_out vE_turn : Int32) (vE_madeBy : Nat → Int32) : va_W := [((ad 19), .inr (4, [.ref (ad 6), .ref (ad 20), .ref (ad 21), .int vE_placed, .int vE_playing, .int vE_out, .int vE_turn])), ((ad 20), .inl ((cs 20), 6, .inl vE_madeBy))]
abbrev ty_X4_countMove (cs : Nat → ClassId) : List (ClassId × FieldType) := [((cs 20), .int)]
def wp_X4_countMove (vE_placed vE_playing vE_out vE_turn : Int32) (vE_madeBy : Nat → Int32) (Q : (Nat → Int32) → Prop) : Prop :=
 wp_X6_isCamp vE_turn (fun r_1 =>
 ((r_1 = 0 → Q vE_madeBy) ∧
 (¬ r_1 = 0 → (vp_in vE_turn 6 ∧
 (vp_in vE_turn 6 ∧
 Q (upd vE_madeBy vE_turn.toNatClampNeg ((vE_madeBy vE_turn.toNatClampNeg) + (1 : Int32))))))))
set_option maxHeartbeats 4000000 in
set_option maxRecDepth 100000 in
theorem b_X4_countMove {p : Program} {e : Env} {s : State} {m : MethodId} {args : Array Value} {below : List Frame} {meth : Method} {c : Code} {QQ : State → Prop} {A : Nat → Prop} {ls : Array Slot} (l : Launch) (D : va_G) (ad : Nat → Nat) (cs : Nat → ClassId) (vE_placed vE_playing vE_out vE_turn : Int32) (vE_madeBy : Nat → Int32) (Q : (Nat → Int32) → Prop) (hx : p.tables.exec = Jvm.exec) (hb : c.code = cX4_countMove) (hml : c.maxLocals = 1) (hown : s.vm.findClass RX4 = some m.cls) (hts : ∀ w ∈ wsX4_countMove, w.before args s = true) (hN : NW s) (hP : va_P D vwCl (cl_X4_countMove ad cs vE_placed vE_playing vE_out vE_turn vE_madeBy) s.heap) (hK : va_K D vwCl (ty_X4_countMove cs) s) (hD : va_D A (cl_X4_countMove ad cs vE_placed vE_playing vE_out vE_turn vE_madeBy)) (hA : ∀ q : Nat, s.heap.size ≤ q → A q) (hl : lv_has ls 1 [(0, .ref (ad 19))])
  (hret : ∀ (o0 : Nat → Int32) (H : Heap) (locs : List Loc) (pc : Nat) (ls : Array Slot), Q o0 → va_P D vwCl (cl_X4_countMove ad cs vE_placed vE_playing vE_out vE_turn o0) H → va_D A (cl_X4_countMove ad cs vE_placed vE_playing vE_out vE_turn o0) → va_S A s.heap H locs → decode cX4_countMove pc = .ok (.return_, 1) → W p l e rm_X4_countMove s m args below meth c H locs 0 0 QQ (F0 m pc ls []))
  (hw : wp_X4_countMove vE_placed vE_playing vE_out vE_turn vE_madeBy Q) :
  W p l e rm_X4_countMove s m args below meth c s.heap [] 0 0 QQ (F0 m 0 ls []) := by
  have S0 : CallFix p m c cX4_countMove 1 s args wsX4_countMove RX4 := ⟨hx, hb, hml, hown, hts⟩
  have inX4 : ∀ w ∈ u_ws RX4 TX4 7, w ∈ wsX4_countMove := by decide +kernel
  have fl_22 := hts (.fieldLink RX4 22 "HopperCourt$Seats" "turn" "I") (by decide +kernel)
  have fl_9 := hts (.fieldLink RX4 9 "HopperCourt$Seats" "madeBy" "[I") (by decide +kernel)
  obtain ⟨H, hH⟩ : ∃ H : Heap, H = s.heap := ⟨_, rfl⟩
  have hS : va_S A s.heap H [] := by rw [hH]; exact va_S.rf
  rw [← hH] at hP ⊢
  unfold wp_X4_countMove at hw
  refine lv_aload_n hx hb dX4_countMove_0 rfl (lv_at hl 0 rfl) ?_
  refine va_get (D := D) (ci := 4) (v := .int vE_turn) (C := RX4) (T := TX4) (N := 7) hx hb hts inX4 hown hK hP 0 rfl rfl 6 (by decide) fl_22 (fun _ h9 => h9) rfl dX4_countMove_1 ?_
  refine pcSN (rest := []) S0 (c_X6_isCamp l D ad cs H.size vE_turn _ hw) ⟨va_cnB (host := RX6) 1 hts gX4_countMove_X6_isCamp_n39 rfl rfl rfl hN.2.2.2.2.2.1 (hts (.initialized RX6) (by decide +kernel)) (by decide +kernel) ⟨Nat.le_of_ble_eq_true rfl, Nat.le_of_ble_eq_true rfl⟩, hts (.static yX6_isCamp) (by decide +kernel), trivial⟩ hN hK hP hD [] [] rfl rfl rfl rfl rfl hl.1 (Nat.le_of_ble_eq_true rfl) ⟨Nat.le_of_ble_eq_true rfl, Nat.le_of_ble_eq_true rfl⟩ dX4_countMove_4 (fun r_1 hw => ?_)
  refine lv_if_eq (tgt := 23) hx hb dX4_countMove_7 (by decide) (fun c_2 => ?_) (fun c_2 => ?_)
  · have hw := hw.1 c_2
    exact hret _ _ _ _ _ hw hP hD hS dX4_countMove_23
  · have hw := hw.2 c_2
    refine lv_aload_n hx hb dX4_countMove_10 rfl (lv_at hl 0 rfl) ?_
    refine va_get (D := D) (ci := 4) (v := .ref (ad 20)) (C := RX4) (T := TX4) (N := 7) hx hb hts inX4 hown hK hP 0 rfl rfl 1 (by decide) fl_9 (fun _ h9 => h9) rfl dX4_countMove_11 ?_
    refine lv_aload_n hx hb dX4_countMove_14 rfl (lv_at hl 0 rfl) ?_
    refine va_get (D := D) (ci := 4) (v := .int vE_turn) (C := RX4) (T := TX4) (N := 7) hx hb hts inX4 hown hK hP 0 rfl rfl 6 (by decide) fl_22 (fun _ h9 => h9) rfl dX4_countMove_15 ?_
    refine lv_dup2_11 hx hb dX4_countMove_18 rfl rfl ?_
    obtain ⟨h_3, hw⟩ := hw
    refine va_iald hx hb hK hP 1 0 rfl rfl h_3 dX4_countMove_19 ?_
    refine lv_iconst (v := (1 : Int32)) hx hb dX4_countMove_20 (by decide) ?_
    refine lv_iadd hx hb dX4_countMove_21 ?_
    obtain ⟨h_4, hw⟩ := hw
    refine va_iast hx hb hK hP hD hS 1 0 rfl rfl h_4 dX4_countMove_22 (fun H locs hP hD hS => ?_)
    have hP : va_P D vwCl (cl_X4_countMove ad cs vE_placed vE_playing vE_out vE_turn (upd vE_madeBy vE_turn.toNatClampNeg ((vE_madeBy vE_turn.toNatClampNeg) + (1 : Int32)))) H := hP
    have hD : va_D A (cl_X4_countMove ad cs vE_placed vE_playing vE_out vE_turn (upd vE_madeBy vE_turn.toNatClampNeg ((vE_madeBy vE_turn.toNatClampNeg) + (1 : Int32)))) := hD
    exact hret _ _ _ _ _ hw hP hD hS dX4_countMove_23
set_option maxHeartbeats 4000000 in
set_option maxRecDepth 100000 in
theorem c_X4_countMove (l : Launch) (D : va_G) (ad : Nat → Nat) (cs : Nat → ClassId) (sz : Nat) (vE_placed vE_playing vE_out vE_turn : Int32) (vE_madeBy : Nat → Int32) (Q : (Nat → Int32) → Prop) (hw : wp_X4_countMove vE_placed vE_playing vE_out vE_turn vE_madeBy Q) :
  Met l yX4_countMove wsX4_countMove rm_X4_countMove (va_Pc [.ref (ad 19)] (PX D (cl_X4_countMove ad cs vE_placed vE_playing vE_out vE_turn vE_madeBy) (ty_X4_countMove cs) sz)) (va_Qv (fun (u : (Nat → Int32)) => Q u) (fun (u : (Nat → Int32)) t => va_P D vwCl (cl_X4_countMove ad cs vE_placed vE_playing vE_out vE_turn u) t.heap ∧ va_D (va_A (cl_X4_countMove ad cs vE_placed vE_playing vE_out vE_turn vE_madeBy) sz) (cl_X4_countMove ad cs vE_placed vE_playing vE_out vE_turn u)) (va_A (cl_X4_countMove ad cs vE_placed vE_playing vE_out vE_turn vE_madeBy) sz)) 0 0 (va_A (cl_X4_countMove ad cs vE_placed vE_playing vE_out vE_turn vE_madeBy) sz) := by
  refine Met.ofW (cc := cX4_countMove) (maxL := 1) (ret := none) (by decide) rfl ?_
  intro p e s m args below meth c s₁ B hml hv
  obtain ⟨rfl, hsz, hP, hK, hD0, hN⟩ := hv
  subst hsz
  have hl := lv_entry ([.ref (ad 19)]) (n := 1) (Nat.le_of_ble_eq_true rfl)
  rw [lg_entry_eq]
  have hx := B.exec
  have hb := B.bytes
  have hr := B.returns
  exact b_X4_countMove l D ad cs vE_placed vE_playing vE_out vE_turn vE_madeBy Q hx hb hml (findClass_of_methodNamed B.named) (atoms_spec (ws := wsX4_countMove) B.pre) hN hP hK hD0.self (fun q h => Or.inr h) hl (fun o0 H locs pc ls hq hP hD hS hd => W.vret hx hb hr (fun t ht hW => ⟨⟨o0, rfl, hq, by rw [ht]; exact hP, hD⟩, hS.F ht⟩) hS.2.2 hd) hw
abbrev rm_X4_hasDroppedOut : Room := { frames := 1, cells := 0, slots := 0, locals := 20 }
abbrev cl_X4_hasDroppedOut (ad : Nat → Nat) (cs : Nat → ClassId) (vE_placed vE_playing vE_out vE_turn : Int32) : va_W := [((ad 19), .inr (4, [.ref (ad 6), .ref (ad 20), .ref (ad 21), .int vE_placed, .int vE_playing, .int vE_out, .int vE_turn]))]
abbrev ty_X4_hasDroppedOut (cs : Nat → ClassId) : List (ClassId × FieldType) := []
def wp_X4_hasDroppedOut (vE_placed vE_playing vE_out vE_turn x1 : Int32) (Q : Int32 → Prop) : Prop :=
 wp_X6_isCamp x1 (fun r_1 =>
 ((r_1 = 0 → Q (0 : Int32)) ∧
 (¬ r_1 = 0 → ((¬ ((vE_out >>> (x1 &&& 31)) &&& (1 : Int32)) = (1 : Int32) → Q (0 : Int32)) ∧
 (((vE_out >>> (x1 &&& 31)) &&& (1 : Int32)) = (1 : Int32) → Q (1 : Int32))))))
set_option maxHeartbeats 4000000 in
set_option maxRecDepth 100000 in
theorem b_X4_hasDroppedOut {p : Program} {e : Env} {s : State} {m : MethodId} {args : Array Value} {below : List Frame} {meth : Method} {c : Code} {QQ : State → Prop} {A : Nat → Prop} {ls : Array Slot} (l : Launch) (D : va_G) (ad : Nat → Nat) (cs : Nat → ClassId) (vE_placed vE_playing vE_out vE_turn x1 : Int32) (Q : Int32 → Prop) (hx : p.tables.exec = Jvm.exec) (hb : c.code = cX4_hasDroppedOut) (hml : c.maxLocals = 2) (hown : s.vm.findClass RX4 = some m.cls) (hts : ∀ w ∈ wsX4_hasDroppedOut, w.before args s = true) (hN : NW s) (hP : va_P D vwCl (cl_X4_hasDroppedOut ad cs vE_placed vE_playing vE_out vE_turn) s.heap) (hK : va_K D vwCl (ty_X4_hasDroppedOut cs) s) (hD : va_D A (cl_X4_hasDroppedOut ad cs vE_placed vE_playing vE_out vE_turn)) (hA : ∀ q : Nat, s.heap.size ≤ q → A q) (hl : lv_has ls 2 [(0, .ref (ad 19)), (1, .int x1)])
  (hret : ∀ (r : Int32) (pc : Nat) (ls : Array Slot), nb r → Q r → decode cX4_hasDroppedOut pc = .ok (.ireturn, 1) → W p l e rm_X4_hasDroppedOut s m args below meth c s.heap [] 0 0 QQ (F0 m pc ls [.int r]))
  (hw : wp_X4_hasDroppedOut vE_placed vE_playing vE_out vE_turn x1 Q) :
  W p l e rm_X4_hasDroppedOut s m args below meth c s.heap [] 0 0 QQ (F0 m 0 ls []) := by
  have S0 : CallFix p m c cX4_hasDroppedOut 2 s args wsX4_hasDroppedOut RX4 := ⟨hx, hb, hml, hown, hts⟩
  have inX4 : ∀ w ∈ u_ws RX4 TX4 7, w ∈ wsX4_hasDroppedOut := by decide +kernel
  have fl_29 := hts (.fieldLink RX4 29 "HopperCourt$Seats" "out" "I") (by decide +kernel)
  unfold wp_X4_hasDroppedOut at hw
  refine lv_iload_n hx hb dX4_hasDroppedOut_0 rfl (lv_at hl 1 rfl) ?_
  refine pcSN (rest := []) S0 (c_X6_isCamp l D ad cs s.heap.size x1 _ hw) ⟨va_cnB (host := RX6) 1 hts gX4_hasDroppedOut_X6_isCamp_n39 rfl rfl rfl hN.2.2.2.2.2.1 (hts (.initialized RX6) (by decide +kernel)) (by decide +kernel) ⟨Nat.le_of_ble_eq_true rfl, Nat.le_of_ble_eq_true rfl⟩, hts (.static yX6_isCamp) (by decide +kernel), trivial⟩ hN hK hP hD [] [] rfl rfl rfl rfl rfl hl.1 (Nat.le_of_ble_eq_true rfl) ⟨Nat.le_of_ble_eq_true rfl, Nat.le_of_ble_eq_true rfl⟩ dX4_hasDroppedOut_1 (fun r_1 hw => ?_)
  refine lv_if_eq (tgt := 23) hx hb dX4_hasDroppedOut_4 (by decide) (fun c_2 => ?_) (fun c_2 => ?_)
  · have hw := hw.1 c_2
    refine lv_iconst (v := (0 : Int32)) hx hb dX4_hasDroppedOut_23 (by decide) ?_
    exact hret _ _ _ nb_0 hw dX4_hasDroppedOut_24
  · have hw := hw.2 c_2
    refine lv_aload_n hx hb dX4_hasDroppedOut_7 rfl (lv_at hl 0 rfl) ?_
    refine va_get (D := D) (ci := 4) (v := .int vE_out) (C := RX4) (T := TX4) (N := 7) hx hb hts inX4 hown hK hP 0 rfl rfl 5 (by decide) fl_29 (fun _ h9 => h9) rfl dX4_hasDroppedOut_8 ?_
    refine lv_iload_n hx hb dX4_hasDroppedOut_11 rfl (lv_at hl 1 rfl) ?_
    refine lv_ishr hx hb dX4_hasDroppedOut_12 ?_
    refine lv_iconst (v := (1 : Int32)) hx hb dX4_hasDroppedOut_13 (by decide) ?_
    refine lv_iand hx hb dX4_hasDroppedOut_14 ?_
    refine lv_iconst (v := (1 : Int32)) hx hb dX4_hasDroppedOut_15 (by decide) ?_
    refine lv_icmp_ne (tgt := 23) hx hb dX4_hasDroppedOut_16 (by decide) (fun c_3 => ?_) (fun c_3 => ?_)
    · have hw := hw.1 c_3
      refine lv_iconst (v := (0 : Int32)) hx hb dX4_hasDroppedOut_23 (by decide) ?_
      exact hret _ _ _ nb_0 hw dX4_hasDroppedOut_24
    · have hw := hw.2 c_3
      refine lv_iconst (v := (1 : Int32)) hx hb dX4_hasDroppedOut_19 (by decide) ?_
      refine lv_goto (tgt := 24) hx hb dX4_hasDroppedOut_20 (by decide) ?_
      exact hret _ _ _ nb_1 hw dX4_hasDroppedOut_24
set_option maxHeartbeats 4000000 in
set_option maxRecDepth 100000 in
theorem c_X4_hasDroppedOut (l : Launch) (D : va_G) (ad : Nat → Nat) (cs : Nat → ClassId) (sz : Nat) (vE_placed vE_playing vE_out vE_turn x1 : Int32) (Q : Int32 → Prop) (hw : wp_X4_hasDroppedOut vE_placed vE_playing vE_out vE_turn x1 Q) :
  Met l yX4_hasDroppedOut wsX4_hasDroppedOut rm_X4_hasDroppedOut (va_Pc [.ref (ad 19), .int x1] (PX D (cl_X4_hasDroppedOut ad cs vE_placed vE_playing vE_out vE_turn) (ty_X4_hasDroppedOut cs) sz)) (vp_Si Q) 0 0 (fun _ => False) := by
  refine Met.ofW (cc := cX4_hasDroppedOut) (maxL := 2) (ret := (some .boolean)) (by decide) rfl ?_
  intro p e s m args below meth c s₁ B hml hv
  obtain ⟨rfl, hsz, hP, hK, hD0, hN⟩ := hv
  subst hsz
  have hl := lv_entry ([.ref (ad 19), .int x1]) (n := 2) (Nat.le_of_ble_eq_true rfl)
  rw [lg_entry_eq]
  have hx := B.exec
  have hb := B.bytes
  have hr := B.returns
  exact b_X4_hasDroppedOut l D ad cs vE_placed vE_playing vE_out vE_turn x1 Q hx hb hml (findClass_of_methodNamed B.named) (atoms_spec (ws := wsX4_hasDroppedOut) B.pre) hN hP hK hD0.self (fun q h => Or.inr h) hl (A := va_A (cl_X4_hasDroppedOut ad cs vE_placed vE_playing vE_out vE_turn) s.heap.size) (fun r pc ls hn hq hd => W.zret (v := r) hx hb hr hn (fun t ht hW => ⟨r, rfl, hq, ht⟩) (fun _ h => nomatch h) hd) hw
abbrev rm_X4_isPlaced : Room := { frames := 0, cells := 0, slots := 0, locals := 0 }
abbrev cl_X4_isPlaced (ad : Nat → Nat) (cs : Nat → ClassId) (vE_placed vE_playing vE_out vE_turn : Int32) (vE_places : Nat → Int32) : va_W := [((ad 19), .inr (4, [.ref (ad 6), .ref (ad 20), .ref (ad 21), .int vE_placed, .int vE_playing, .int vE_out, .int vE_turn])), ((ad 21), .inl ((cs 21), 6, .inl vE_places))]
abbrev ty_X4_isPlaced (cs : Nat → ClassId) : List (ClassId × FieldType) := [((cs 21), .int)]
def wb_X4_isPlaced_2 (vE_placed : Int32) (vE_places : Nat → Int32) (x1 : Int32) (Q : Int32 → Prop) (K2 : Prop) (P2 : Int32 → Prop) (x2 : Int32) : Prop :=
 ((vE_placed ≤ x2 → K2 ) ∧
 (¬ vE_placed ≤ x2 → (((6 : Int32) ≤ x2 → K2 ) ∧
 (¬ (6 : Int32) ≤ x2 → (vp_in x2 6 ∧
 ((¬ (vE_places x2.toNatClampNeg) = x1 → P2 (x2 + (1 : Int32))) ∧
 ((vE_places x2.toNatClampNeg) = x1 → Q (1 : Int32))))))))
def wl_X4_isPlaced_2 (vE_placed : Int32) (vE_places : Nat → Int32) (x1 : Int32) (Q : Int32 → Prop) (K2 : Prop) (x2 : Int32) : Prop := ∀ P2 : Int32 → Prop, (∀ (x2 : Int32), wb_X4_isPlaced_2 vE_placed vE_places x1 Q K2 P2 x2 → P2 x2) → P2 x2
def wp_X4_isPlaced (vE_placed vE_playing vE_out vE_turn : Int32) (vE_places : Nat → Int32) (x1 : Int32) (Q : Int32 → Prop) : Prop :=
 wl_X4_isPlaced_2 vE_placed vE_places x1 Q (Q (0 : Int32)) (0 : Int32)
set_option maxHeartbeats 4000000 in
set_option maxRecDepth 100000 in
theorem b_X4_isPlaced {p : Program} {e : Env} {s : State} {m : MethodId} {args : Array Value} {below : List Frame} {meth : Method} {c : Code} {QQ : State → Prop} {A : Nat → Prop} {ls : Array Slot} (l : Launch) (D : va_G) (ad : Nat → Nat) (cs : Nat → ClassId) (vE_placed vE_playing vE_out vE_turn : Int32) (vE_places : Nat → Int32) (x1 : Int32) (Q : Int32 → Prop) (hx : p.tables.exec = Jvm.exec) (hb : c.code = cX4_isPlaced) (hml : c.maxLocals = 3) (hown : s.vm.findClass RX4 = some m.cls) (hts : ∀ w ∈ wsX4_isPlaced, w.before args s = true) (hN : NW s) (hP : va_P D vwCl (cl_X4_isPlaced ad cs vE_placed vE_playing vE_out vE_turn vE_places) s.heap) (hK : va_K D vwCl (ty_X4_isPlaced cs) s) (hD : va_D A (cl_X4_isPlaced ad cs vE_placed vE_playing vE_out vE_turn vE_places)) (hA : ∀ q : Nat, s.heap.size ≤ q → A q) (hl : lv_has ls 3 [(0, .ref (ad 19)), (1, .int x1)])
  (hret : ∀ (r : Int32) (pc : Nat) (ls : Array Slot), nb r → Q r → decode cX4_isPlaced pc = .ok (.ireturn, 1) → W p l e rm_X4_isPlaced s m args below meth c s.heap [] 0 0 QQ (F0 m pc ls [.int r]))
  (hw : wp_X4_isPlaced vE_placed vE_playing vE_out vE_turn vE_places x1 Q) :
  W p l e rm_X4_isPlaced s m args below meth c s.heap [] 0 0 QQ (F0 m 0 ls []) := by
  have S0 : CallFix p m c cX4_isPlaced 3 s args wsX4_isPlaced RX4 := ⟨hx, hb, hml, hown, hts⟩
  have inX4 : ∀ w ∈ u_ws RX4 TX4 7, w ∈ wsX4_isPlaced := by decide +kernel
  have fl_15 := hts (.fieldLink RX4 15 "HopperCourt$Seats" "places" "[I") (by decide +kernel)
  have fl_32 := hts (.fieldLink RX4 32 "HopperCourt$Seats" "placed" "I") (by decide +kernel)
  have hL2 : ∀ (x1 : Int32) (K2 : Prop) (x2 : Int32), wl_X4_isPlaced_2 vE_placed vE_places x1 Q K2 x2 → (K2 → ∀ (ls : Array Slot), lv_has ls 3 [] → W p l e rm_X4_isPlaced s m args below meth c s.heap [] 0 0 QQ (F0 m 34 ls [])) → ∀ (ls : Array Slot), lv_has ls 3 [(0, .ref (ad 19)), (1, .int x1), (2, .int x2)] → W p l e rm_X4_isPlaced s m args below meth c s.heap [] 0 0 QQ (F0 m 2 ls []) := by
    intro x1 K2 x2 hw hK2
    unfold wl_X4_isPlaced_2 at hw
    refine hw (fun (x2 : Int32) => ∀ (ls : Array Slot), lv_has ls 3 [(0, .ref (ad 19)), (1, .int x1), (2, .int x2)] → W p l e rm_X4_isPlaced s m args below meth c s.heap [] 0 0 QQ (F0 m 2 ls [])) ?_
    intro x2 hw ls hl
    unfold wb_X4_isPlaced_2 at hw
    refine lv_iload_n hx hb dX4_isPlaced_2 rfl (lv_at hl 2 rfl) ?_
    refine lv_aload_n hx hb dX4_isPlaced_3 rfl (lv_at hl 0 rfl) ?_
    refine va_get (D := D) (ci := 4) (v := .int vE_placed) (C := RX4) (T := TX4) (N := 7) hx hb hts inX4 hown hK hP 0 rfl rfl 3 (by decide) fl_32 (fun _ h9 => h9) rfl dX4_isPlaced_4 ?_
    refine lv_icmp_ge (tgt := 34) hx hb dX4_isPlaced_7 (by decide) (fun c_1 => ?_) (fun c_1 => ?_)
    · have hw := hw.1 c_1
      exact hK2  hw _ (lv_sub hl [] rfl)
    · have hw := hw.2 c_1
      refine lv_iload_n hx hb dX4_isPlaced_10 rfl (lv_at hl 2 rfl) ?_
      refine lv_bipush (v := (6 : Int32)) hx hb dX4_isPlaced_11 (by decide) ?_
      refine lv_icmp_ge (tgt := 34) hx hb dX4_isPlaced_13 (by decide) (fun c_2 => ?_) (fun c_2 => ?_)
      · have hw := hw.1 c_2
        exact hK2  hw _ (lv_sub hl [] rfl)
      · have hw := hw.2 c_2
        refine lv_aload_n hx hb dX4_isPlaced_16 rfl (lv_at hl 0 rfl) ?_
        refine va_get (D := D) (ci := 4) (v := .ref (ad 21)) (C := RX4) (T := TX4) (N := 7) hx hb hts inX4 hown hK hP 0 rfl rfl 2 (by decide) fl_15 (fun _ h9 => h9) rfl dX4_isPlaced_17 ?_
        refine lv_iload_n hx hb dX4_isPlaced_20 rfl (lv_at hl 2 rfl) ?_
        obtain ⟨h_3, hw⟩ := hw
        refine va_iald hx hb hK hP 1 0 rfl rfl h_3 dX4_isPlaced_21 ?_
        refine lv_iload_n hx hb dX4_isPlaced_22 rfl (lv_at hl 1 rfl) ?_
        refine lv_icmp_ne (tgt := 28) hx hb dX4_isPlaced_23 (by decide) (fun c_4 => ?_) (fun c_4 => ?_)
        · have hw := hw.1 c_4
          refine lv_iinc (v := (x2 + (1 : Int32))) (lv' := [(2, .int (x2 + (1 : Int32))), (0, .ref (ad 19)), (1, .int x1)]) hx hb dX4_isPlaced_28 hl (k := 2) rfl rfl (by decide) rfl (fun ls hl => ?_)
          refine lv_goto (tgt := 2) hx hb dX4_isPlaced_31 (by decide) ?_
          exact hw _ (lv_sub hl [1, 2, 0] rfl)
        · have hw := hw.2 c_4
          refine lv_iconst (v := (1 : Int32)) hx hb dX4_isPlaced_26 (by decide) ?_
          exact hret _ _ _ nb_1 hw dX4_isPlaced_27
  unfold wp_X4_isPlaced at hw
  refine lv_iconst (v := (0 : Int32)) hx hb dX4_isPlaced_0 (by decide) ?_
  refine lv_istore_n (lv' := [(2, .int (0 : Int32)), (0, .ref (ad 19)), (1, .int x1)]) hx hb dX4_isPlaced_1 rfl hl (by decide) rfl (fun ls hl => ?_)
  refine hL2 x1 _ (0 : Int32) hw ?_ _ (lv_sub hl [1, 2, 0] rfl)
  intro  hw ls hl
  refine lv_iconst (v := (0 : Int32)) hx hb dX4_isPlaced_34 (by decide) ?_
  exact hret _ _ _ nb_0 hw dX4_isPlaced_35
set_option maxHeartbeats 4000000 in
set_option maxRecDepth 100000 in
theorem c_X4_isPlaced (l : Launch) (D : va_G) (ad : Nat → Nat) (cs : Nat → ClassId) (sz : Nat) (vE_placed vE_playing vE_out vE_turn : Int32) (vE_places : Nat → Int32) (x1 : Int32) (Q : Int32 → Prop) (hw : wp_X4_isPlaced vE_placed vE_playing vE_out vE_turn vE_places x1 Q) :
  Met l yX4_isPlaced wsX4_isPlaced rm_X4_isPlaced (va_Pc [.ref (ad 19), .int x1] (PX D (cl_X4_isPlaced ad cs vE_placed vE_playing vE_out vE_turn vE_places) (ty_X4_isPlaced cs) sz)) (vp_Si Q) 0 0 (fun _ => False) := by
  refine Met.ofW (cc := cX4_isPlaced) (maxL := 3) (ret := (some .boolean)) (by decide) rfl ?_
  intro p e s m args below meth c s₁ B hml hv
  obtain ⟨rfl, hsz, hP, hK, hD0, hN⟩ := hv
  subst hsz
  have hl := lv_entry ([.ref (ad 19), .int x1]) (n := 3) (Nat.le_of_ble_eq_true rfl)
  rw [lg_entry_eq]
  have hx := B.exec
  have hb := B.bytes
  have hr := B.returns
  exact b_X4_isPlaced l D ad cs vE_placed vE_playing vE_out vE_turn vE_places x1 Q hx hb hml (findClass_of_methodNamed B.named) (atoms_spec (ws := wsX4_isPlaced) B.pre) hN hP hK hD0.self (fun q h => Or.inr h) hl (A := va_A (cl_X4_isPlaced ad cs vE_placed vE_playing vE_out vE_turn vE_places) s.heap.size) (fun r pc ls hn hq hd => W.zret (v := r) hx hb hr hn (fun t ht hW => ⟨r, rfl, hq, ht⟩) (fun _ h => nomatch h) hd) hw
abbrev rm_X4_isStillIn : Room := { frames := 2, cells := 0, slots := 0, locals := 41 }
abbrev cl_X4_isStillIn (ad : Nat → Nat) (cs : Nat → ClassId) (vE_placed vE_playing vE_out vE_turn : Int32) (vE_places : Nat → Int32) : va_W := [((ad 19), .inr (4, [.ref (ad 6), .ref (ad 20), .ref (ad 21), .int vE_placed, .int vE_playing, .int vE_out, .int vE_turn])), ((ad 21), .inl ((cs 21), 6, .inl vE_places))]
abbrev ty_X4_isStillIn (cs : Nat → ClassId) : List (ClassId × FieldType) := [((cs 21), .int)]
def wp_X4_isStillIn (vE_placed vE_playing vE_out vE_turn : Int32) (vE_places : Nat → Int32) (x1 : Int32) (Q : Int32 → Prop) : Prop :=
 wp_X4_plays vE_placed vE_playing vE_out vE_turn x1 (fun r_1 =>
 ((r_1 = 0 → Q (0 : Int32)) ∧
 (¬ r_1 = 0 → wp_X4_hasDroppedOut vE_placed vE_playing vE_out vE_turn x1 (fun r_3 =>
 ((¬ r_3 = 0 → Q (0 : Int32)) ∧
 (r_3 = 0 → wp_X4_isPlaced vE_placed vE_playing vE_out vE_turn vE_places x1 (fun r_5 =>
 ((¬ r_5 = 0 → Q (0 : Int32)) ∧
 (r_5 = 0 → Q (1 : Int32))))))))))
set_option maxHeartbeats 4000000 in
set_option maxRecDepth 100000 in
theorem b_X4_isStillIn {p : Program} {e : Env} {s : State} {m : MethodId} {args : Array Value} {below : List Frame} {meth : Method} {c : Code} {QQ : State → Prop} {A : Nat → Prop} {ls : Array Slot} (l : Launch) (D : va_G) (ad : Nat → Nat) (cs : Nat → ClassId) (vE_placed vE_playing vE_out vE_turn : Int32) (vE_places : Nat → Int32) (x1 : Int32) (Q : Int32 → Prop) (hx : p.tables.exec = Jvm.exec) (hb : c.code = cX4_isStillIn) (hml : c.maxLocals = 2) (hown : s.vm.findClass RX4 = some m.cls) (hts : ∀ w ∈ wsX4_isStillIn, w.before args s = true) (hN : NW s) (hP : va_P D vwCl (cl_X4_isStillIn ad cs vE_placed vE_playing vE_out vE_turn vE_places) s.heap) (hK : va_K D vwCl (ty_X4_isStillIn cs) s) (hD : va_D A (cl_X4_isStillIn ad cs vE_placed vE_playing vE_out vE_turn vE_places)) (hA : ∀ q : Nat, s.heap.size ≤ q → A q) (hl : lv_has ls 2 [(0, .ref (ad 19)), (1, .int x1)])
  (hret : ∀ (r : Int32) (pc : Nat) (ls : Array Slot), nb r → Q r → decode cX4_isStillIn pc = .ok (.ireturn, 1) → W p l e rm_X4_isStillIn s m args below meth c s.heap [] 0 0 QQ (F0 m pc ls [.int r]))
  (hw : wp_X4_isStillIn vE_placed vE_playing vE_out vE_turn vE_places x1 Q) :
  W p l e rm_X4_isStillIn s m args below meth c s.heap [] 0 0 QQ (F0 m 0 ls []) := by
  have S0 : CallFix p m c cX4_isStillIn 2 s args wsX4_isStillIn RX4 := ⟨hx, hb, hml, hown, hts⟩
  unfold wp_X4_isStillIn at hw
  refine lv_aload_n hx hb dX4_isStillIn_0 rfl (lv_at hl 0 rfl) ?_
  refine lv_iload_n hx hb dX4_isStillIn_1 rfl (lv_at hl 1 rfl) ?_
  refine pcV (rest := []) (ci := 4) S0 (c_X4_plays l D ad cs s.heap.size vE_placed vE_playing vE_out vE_turn x1 _ hw) (cwV 1 hts gX4_isStillIn_X4_plays rfl rfl rfl (by decide +kernel) ⟨Nat.le_of_ble_eq_true rfl, Nat.le_of_ble_eq_true rfl⟩) hN hK hP hD [0] [] rfl rfl rfl 0 rfl rfl rfl rfl hl.1 (Nat.le_of_ble_eq_true rfl) ⟨Nat.le_of_ble_eq_true rfl, Nat.le_of_ble_eq_true rfl⟩ dX4_isStillIn_2 (fun r_1 hw => ?_)
  refine lv_if_eq (tgt := 28) hx hb dX4_isStillIn_5 (by decide) (fun c_2 => ?_) (fun c_2 => ?_)
  · have hw := hw.1 c_2
    refine lv_iconst (v := (0 : Int32)) hx hb dX4_isStillIn_28 (by decide) ?_
    exact hret _ _ _ nb_0 hw dX4_isStillIn_29
  · have hw := hw.2 c_2
    refine lv_aload_n hx hb dX4_isStillIn_8 rfl (lv_at hl 0 rfl) ?_
    refine lv_iload_n hx hb dX4_isStillIn_9 rfl (lv_at hl 1 rfl) ?_
    refine pcV (rest := []) (ci := 4) S0 (c_X4_hasDroppedOut l D ad cs s.heap.size vE_placed vE_playing vE_out vE_turn x1 _ hw) (cwV 1 hts gX4_isStillIn_X4_hasDroppedOut rfl rfl rfl (by decide +kernel) ⟨Nat.le_of_ble_eq_true rfl, Nat.le_of_ble_eq_true rfl⟩) hN hK hP hD [0] [] rfl rfl rfl 0 rfl rfl rfl rfl hl.1 (Nat.le_of_ble_eq_true rfl) ⟨Nat.le_of_ble_eq_true rfl, Nat.le_of_ble_eq_true rfl⟩ dX4_isStillIn_10 (fun r_3 hw => ?_)
    refine lv_if_ne (tgt := 28) hx hb dX4_isStillIn_13 (by decide) (fun c_4 => ?_) (fun c_4 => ?_)
    · have hw := hw.1 c_4
      refine lv_iconst (v := (0 : Int32)) hx hb dX4_isStillIn_28 (by decide) ?_
      exact hret _ _ _ nb_0 hw dX4_isStillIn_29
    · have hw := hw.2 c_4
      refine lv_aload_n hx hb dX4_isStillIn_16 rfl (lv_at hl 0 rfl) ?_
      refine lv_iload_n hx hb dX4_isStillIn_17 rfl (lv_at hl 1 rfl) ?_
      refine pcV (rest := []) (ci := 4) S0 (c_X4_isPlaced l D ad cs s.heap.size vE_placed vE_playing vE_out vE_turn vE_places x1 _ hw) (cwV 1 hts gX4_isStillIn_X4_isPlaced rfl rfl rfl (by decide +kernel) ⟨Nat.le_of_ble_eq_true rfl, Nat.le_of_ble_eq_true rfl⟩) hN hK hP hD [0, 1] [0] rfl rfl rfl 0 rfl rfl rfl rfl hl.1 (Nat.le_of_ble_eq_true rfl) ⟨Nat.le_of_ble_eq_true rfl, Nat.le_of_ble_eq_true rfl⟩ dX4_isStillIn_18 (fun r_5 hw => ?_)
      refine lv_if_ne (tgt := 28) hx hb dX4_isStillIn_21 (by decide) (fun c_6 => ?_) (fun c_6 => ?_)
      · have hw := hw.1 c_6
        refine lv_iconst (v := (0 : Int32)) hx hb dX4_isStillIn_28 (by decide) ?_
        exact hret _ _ _ nb_0 hw dX4_isStillIn_29
      · have hw := hw.2 c_6
        refine lv_iconst (v := (1 : Int32)) hx hb dX4_isStillIn_24 (by decide) ?_
        refine lv_goto (tgt := 29) hx hb dX4_isStillIn_25 (by decide) ?_
        exact hret _ _ _ nb_1 hw dX4_isStillIn_29
set_option maxHeartbeats 4000000 in
set_option maxRecDepth 100000 in
theorem c_X4_isStillIn (l : Launch) (D : va_G) (ad : Nat → Nat) (cs : Nat → ClassId) (sz : Nat) (vE_placed vE_playing vE_out vE_turn : Int32) (vE_places : Nat → Int32) (x1 : Int32) (Q : Int32 → Prop) (hw : wp_X4_isStillIn vE_placed vE_playing vE_out vE_turn vE_places x1 Q) :
  Met l yX4_isStillIn wsX4_isStillIn rm_X4_isStillIn (va_Pc [.ref (ad 19), .int x1] (PX D (cl_X4_isStillIn ad cs vE_placed vE_playing vE_out vE_turn vE_places) (ty_X4_isStillIn cs) sz)) (vp_Si Q) 0 0 (fun _ => False) := by
  refine Met.ofW (cc := cX4_isStillIn) (maxL := 2) (ret := (some .boolean)) (by decide) rfl ?_
  intro p e s m args below meth c s₁ B hml hv
  obtain ⟨rfl, hsz, hP, hK, hD0, hN⟩ := hv
  subst hsz
  have hl := lv_entry ([.ref (ad 19), .int x1]) (n := 2) (Nat.le_of_ble_eq_true rfl)
  rw [lg_entry_eq]
  have hx := B.exec
  have hb := B.bytes
  have hr := B.returns
  exact b_X4_isStillIn l D ad cs vE_placed vE_playing vE_out vE_turn vE_places x1 Q hx hb hml (findClass_of_methodNamed B.named) (atoms_spec (ws := wsX4_isStillIn) B.pre) hN hP hK hD0.self (fun q h => Or.inr h) hl (A := va_A (cl_X4_isStillIn ad cs vE_placed vE_playing vE_out vE_turn vE_places) s.heap.size) (fun r pc ls hn hq hd => W.zret (v := r) hx hb hr hn (fun t ht hW => ⟨r, rfl, hq, ht⟩) (fun _ h => nomatch h) hd) hw
abbrev rm_X4_fillsGoal : Room := { frames := 3, cells := 0, slots := 0, locals := 65 }
abbrev cl_X4_fillsGoal (ad : Nat → Nat) (cs : Nat → ClassId) (vS_camps vM_owners : Nat → Int32) (vE_placed vE_playing vE_out vE_turn : Int32) : va_W := [((ad 1), .inr (5, [.ref (ad 2), .ref (ad 3), .ref (ad 4), .ref (ad 5)])), ((ad 4), .inl ((cs 4), 121, .inl vS_camps)), ((ad 6), .inr (1, [.ref (ad 1), .ref (ad 7)])), ((ad 7), .inl ((cs 7), 121, .inl vM_owners)), ((ad 19), .inr (4, [.ref (ad 6), .ref (ad 20), .ref (ad 21), .int vE_placed, .int vE_playing, .int vE_out, .int vE_turn]))]
abbrev ty_X4_fillsGoal (cs : Nat → ClassId) : List (ClassId × FieldType) := [((cs 4), .int), ((cs 7), .int)]
def wp_X4_fillsGoal (vS_camps vM_owners : Nat → Int32) (vE_placed vE_playing vE_out vE_turn x1 x2 : Int32) (Q : Int32 → Prop) : Prop :=
 wp_X6_goalOf x1 (fun r_1 =>
 wp_X1_countInCamp vS_camps vM_owners r_1 (-1 : Int32) (fun r_2 =>
 ((¬ r_2 = 0 → Q (0 : Int32)) ∧
 (r_2 = 0 → wp_X1_countInCamp vS_camps vM_owners r_1 x1 (fun r_4 =>
 ((r_4 < x2 → Q (0 : Int32)) ∧
 (¬ r_4 < x2 → Q (1 : Int32))))))))
set_option maxHeartbeats 4000000 in
set_option maxRecDepth 100000 in
theorem b_X4_fillsGoal {p : Program} {e : Env} {s : State} {m : MethodId} {args : Array Value} {below : List Frame} {meth : Method} {c : Code} {QQ : State → Prop} {A : Nat → Prop} {ls : Array Slot} (l : Launch) (D : va_G) (ad : Nat → Nat) (cs : Nat → ClassId) (vS_camps vM_owners : Nat → Int32) (vE_placed vE_playing vE_out vE_turn x1 x2 : Int32) (Q : Int32 → Prop) (hx : p.tables.exec = Jvm.exec) (hb : c.code = cX4_fillsGoal) (hml : c.maxLocals = 4) (hown : s.vm.findClass RX4 = some m.cls) (hts : ∀ w ∈ wsX4_fillsGoal, w.before args s = true) (hN : NW s) (hP : va_P D vwCl (cl_X4_fillsGoal ad cs vS_camps vM_owners vE_placed vE_playing vE_out vE_turn) s.heap) (hK : va_K D vwCl (ty_X4_fillsGoal cs) s) (hD : va_D A (cl_X4_fillsGoal ad cs vS_camps vM_owners vE_placed vE_playing vE_out vE_turn)) (hA : ∀ q : Nat, s.heap.size ≤ q → A q) (hl : lv_has ls 4 [(0, .ref (ad 19)), (1, .int x1), (2, .int x2)])
  (hret : ∀ (r : Int32) (pc : Nat) (ls : Array Slot), nb r → Q r → decode cX4_fillsGoal pc = .ok (.ireturn, 1) → W p l e rm_X4_fillsGoal s m args below meth c s.heap [] 0 0 QQ (F0 m pc ls [.int r]))
  (hw : wp_X4_fillsGoal vS_camps vM_owners vE_placed vE_playing vE_out vE_turn x1 x2 Q) :
  W p l e rm_X4_fillsGoal s m args below meth c s.heap [] 0 0 QQ (F0 m 0 ls []) := by
  have S0 : CallFix p m c cX4_fillsGoal 4 s args wsX4_fillsGoal RX4 := ⟨hx, hb, hml, hown, hts⟩
  have inX4 : ∀ w ∈ u_ws RX4 TX4 7, w ∈ wsX4_fillsGoal := by decide +kernel
  have fl_18 := hts (.fieldLink RX4 18 "HopperCourt$Seats" "marbles" "LHopperCourt$Marbles;") (by decide +kernel)
  unfold wp_X4_fillsGoal at hw
  refine lv_iload_n hx hb dX4_fillsGoal_0 rfl (lv_at hl 1 rfl) ?_
  refine pcSN (rest := []) S0 (c_X6_goalOf l D ad cs s.heap.size x1 _ hw) ⟨va_cnB (host := RX6) 1 hts gX4_fillsGoal_X6_goalOf_n58 rfl rfl rfl hN.2.2.2.2.2.2.1 (hts (.initialized RX6) (by decide +kernel)) (by decide +kernel) ⟨Nat.le_of_ble_eq_true rfl, Nat.le_of_ble_eq_true rfl⟩, hts (.static yX6_goalOf) (by decide +kernel), trivial⟩ hN hK hP hD [] [] rfl rfl rfl rfl rfl hl.1 (Nat.le_of_ble_eq_true rfl) ⟨Nat.le_of_ble_eq_true rfl, Nat.le_of_ble_eq_true rfl⟩ dX4_fillsGoal_1 (fun r_1 hw => ?_)
  refine lv_istore_n (lv' := [(3, .int r_1), (0, .ref (ad 19)), (1, .int x1), (2, .int x2)]) hx hb dX4_fillsGoal_4 rfl hl (by decide) rfl (fun ls hl => ?_)
  refine lv_aload_n hx hb dX4_fillsGoal_5 rfl (lv_at hl 1 rfl) ?_
  refine va_get (D := D) (ci := 4) (v := .ref (ad 6)) (C := RX4) (T := TX4) (N := 7) hx hb hts inX4 hown hK hP 4 rfl rfl 0 (by decide) fl_18 (fun _ h9 => h9) rfl dX4_fillsGoal_6 ?_
  refine lv_iload_n hx hb dX4_fillsGoal_9 rfl (lv_at hl 0 rfl) ?_
  refine lv_iconst (v := (-1 : Int32)) hx hb dX4_fillsGoal_10 (by decide) ?_
  refine pcV (rest := []) (ci := 1) S0 (c_X1_countInCamp l D ad cs s.heap.size vS_camps vM_owners r_1 (-1 : Int32) _ hw) (cwV 2 hts gX4_fillsGoal_X1_countInCamp rfl rfl rfl (by decide +kernel) ⟨Nat.le_of_ble_eq_true rfl, Nat.le_of_ble_eq_true rfl⟩) hN hK hP hD [0, 1, 2, 3] [0, 1] rfl rfl rfl 2 rfl rfl rfl rfl hl.1 (Nat.le_of_ble_eq_true rfl) ⟨Nat.le_of_ble_eq_true rfl, Nat.le_of_ble_eq_true rfl⟩ dX4_fillsGoal_11 (fun r_2 hw => ?_)
  refine lv_if_ne (tgt := 34) hx hb dX4_fillsGoal_14 (by decide) (fun c_3 => ?_) (fun c_3 => ?_)
  · have hw := hw.1 c_3
    refine lv_iconst (v := (0 : Int32)) hx hb dX4_fillsGoal_34 (by decide) ?_
    exact hret _ _ _ nb_0 hw dX4_fillsGoal_35
  · have hw := hw.2 c_3
    refine lv_aload_n hx hb dX4_fillsGoal_17 rfl (lv_at hl 1 rfl) ?_
    refine va_get (D := D) (ci := 4) (v := .ref (ad 6)) (C := RX4) (T := TX4) (N := 7) hx hb hts inX4 hown hK hP 4 rfl rfl 0 (by decide) fl_18 (fun _ h9 => h9) rfl dX4_fillsGoal_18 ?_
    refine lv_iload_n hx hb dX4_fillsGoal_21 rfl (lv_at hl 0 rfl) ?_
    refine lv_iload_n hx hb dX4_fillsGoal_22 rfl (lv_at hl 2 rfl) ?_
    refine pcV (rest := []) (ci := 1) S0 (c_X1_countInCamp l D ad cs s.heap.size vS_camps vM_owners r_1 x1 _ hw) (cwV 2 hts gX4_fillsGoal_X1_countInCamp rfl rfl rfl (by decide +kernel) ⟨Nat.le_of_ble_eq_true rfl, Nat.le_of_ble_eq_true rfl⟩) hN hK hP hD [0, 1, 2, 3] [0, 1] rfl rfl rfl 2 rfl rfl rfl rfl hl.1 (Nat.le_of_ble_eq_true rfl) ⟨Nat.le_of_ble_eq_true rfl, Nat.le_of_ble_eq_true rfl⟩ dX4_fillsGoal_23 (fun r_4 hw => ?_)
    refine lv_iload_n hx hb dX4_fillsGoal_26 rfl (lv_at hl 3 rfl) ?_
    refine lv_icmp_lt (tgt := 34) hx hb dX4_fillsGoal_27 (by decide) (fun c_5 => ?_) (fun c_5 => ?_)
    · have hw := hw.1 c_5
      refine lv_iconst (v := (0 : Int32)) hx hb dX4_fillsGoal_34 (by decide) ?_
      exact hret _ _ _ nb_0 hw dX4_fillsGoal_35
    · have hw := hw.2 c_5
      refine lv_iconst (v := (1 : Int32)) hx hb dX4_fillsGoal_30 (by decide) ?_
      refine lv_goto (tgt := 35) hx hb dX4_fillsGoal_31 (by decide) ?_
      exact hret _ _ _ nb_1 hw dX4_fillsGoal_35
set_option maxHeartbeats 4000000 in
set_option maxRecDepth 100000 in
theorem c_X4_fillsGoal (l : Launch) (D : va_G) (ad : Nat → Nat) (cs : Nat → ClassId) (sz : Nat) (vS_camps vM_owners : Nat → Int32) (vE_placed vE_playing vE_out vE_turn x1 x2 : Int32) (Q : Int32 → Prop) (hw : wp_X4_fillsGoal vS_camps vM_owners vE_placed vE_playing vE_out vE_turn x1 x2 Q) :
  Met l yX4_fillsGoal wsX4_fillsGoal rm_X4_fillsGoal (va_Pc [.ref (ad 19), .int x1, .int x2] (PX D (cl_X4_fillsGoal ad cs vS_camps vM_owners vE_placed vE_playing vE_out vE_turn) (ty_X4_fillsGoal cs) sz)) (vp_Si Q) 0 0 (fun _ => False) := by
  refine Met.ofW (cc := cX4_fillsGoal) (maxL := 4) (ret := (some .boolean)) (by decide) rfl ?_
  intro p e s m args below meth c s₁ B hml hv
  obtain ⟨rfl, hsz, hP, hK, hD0, hN⟩ := hv
  subst hsz
  have hl := lv_entry ([.ref (ad 19), .int x1, .int x2]) (n := 4) (Nat.le_of_ble_eq_true rfl)
  rw [lg_entry_eq]
  have hx := B.exec
  have hb := B.bytes
  have hr := B.returns
  exact b_X4_fillsGoal l D ad cs vS_camps vM_owners vE_placed vE_playing vE_out vE_turn x1 x2 Q hx hb hml (findClass_of_methodNamed B.named) (atoms_spec (ws := wsX4_fillsGoal) B.pre) hN hP hK hD0.self (fun q h => Or.inr h) hl (A := va_A (cl_X4_fillsGoal ad cs vS_camps vM_owners vE_placed vE_playing vE_out vE_turn) s.heap.size) (fun r pc ls hn hq hd => W.zret (v := r) hx hb hr hn (fun t ht hW => ⟨r, rfl, hq, ht⟩) (fun _ h => nomatch h) hd) hw
abbrev rm_X4_placeFinishers : Room := { frames := 4, cells := 0, slots := 0, locals := 88 }
abbrev cl_X4_placeFinishers (ad : Nat → Nat) (cs : Nat → ClassId) (vS_camps vM_owners : Nat → Int32) (vE_placed vE_playing vE_out vE_turn : Int32) (vE_places : Nat → Int32) : va_W := [((ad 1), .inr (5, [.ref (ad 2), .ref (ad 3), .ref (ad 4), .ref (ad 5)])), ((ad 4), .inl ((cs 4), 121, .inl vS_camps)), ((ad 6), .inr (1, [.ref (ad 1), .ref (ad 7)])), ((ad 7), .inl ((cs 7), 121, .inl vM_owners)), ((ad 19), .inr (4, [.ref (ad 6), .ref (ad 20), .ref (ad 21), .int vE_placed, .int vE_playing, .int vE_out, .int vE_turn])), ((ad 21), .inl ((cs 21), 6, .inl vE_places))]
abbrev ty_X4_placeFinishers (cs : Nat → ClassId) : List (ClassId × FieldType) := [((cs 4), .int), ((cs 7), .int), ((cs 21), .int)]
def wb_X4_placeFinishers_2 (vS_camps vM_owners : Nat → Int32) (vE_playing vE_out vE_turn x1 : Int32) (K2 : Int32 → (Nat → Int32) → Prop) (P2 : Int32 → (Nat → Int32) → Int32 → Prop) (vE_placed : Int32) (vE_places : Nat → Int32) (x2 : Int32) : Prop :=
 (((6 : Int32) ≤ x2 → K2 vE_placed vE_places) ∧
 (¬ (6 : Int32) ≤ x2 → wp_X4_isStillIn vE_placed vE_playing vE_out vE_turn vE_places x2 (fun r_2 =>
 ((r_2 = 0 → P2 vE_placed vE_places (x2 + (1 : Int32))) ∧
 (¬ r_2 = 0 → wp_X4_fillsGoal vS_camps vM_owners vE_placed vE_playing vE_out vE_turn x2 x1 (fun r_4 =>
 ((r_4 = 0 → P2 vE_placed vE_places (x2 + (1 : Int32))) ∧
 (¬ r_4 = 0 → (((6 : Int32) ≤ vE_placed → P2 vE_placed vE_places (x2 + (1 : Int32))) ∧
 (¬ (6 : Int32) ≤ vE_placed → (vp_in vE_placed 6 ∧
 P2 (vE_placed + (1 : Int32)) (upd vE_places vE_placed.toNatClampNeg x2) (x2 + (1 : Int32)))))))))))))
def wl_X4_placeFinishers_2 (vS_camps vM_owners : Nat → Int32) (vE_playing vE_out vE_turn x1 : Int32) (K2 : Int32 → (Nat → Int32) → Prop) (vE_placed : Int32) (vE_places : Nat → Int32) (x2 : Int32) : Prop := ∀ P2 : Int32 → (Nat → Int32) → Int32 → Prop, (∀ (vE_placed : Int32) (vE_places : Nat → Int32) (x2 : Int32), wb_X4_placeFinishers_2 vS_camps vM_owners vE_playing vE_out vE_turn x1 K2 P2 vE_placed vE_places x2 → P2 vE_placed vE_places x2) → P2 vE_placed vE_places x2
def wp_X4_placeFinishers (vS_camps vM_owners : Nat → Int32) (vE_placed vE_playing vE_out vE_turn : Int32) (vE_places : Nat → Int32) (x1 : Int32) (Q : Int32 → (Nat → Int32) → Prop) : Prop :=
 wl_X4_placeFinishers_2 vS_camps vM_owners vE_playing vE_out vE_turn x1 (fun vE_placed_8 vE_places_9 => Q vE_placed_8 vE_places_9) vE_placed vE_places (0 : Int32)
set_option maxHeartbeats 4000000 in
set_option maxRecDepth 100000 in
theorem b_X4_placeFinishers {p : Program} {e : Env} {s : State} {m : MethodId} {args : Array Value} {below : List Frame} {meth : Method} {c : Code} {QQ : State → Prop} {A : Nat → Prop} {ls : Array Slot} (l : Launch) (D : va_G) (ad : Nat → Nat) (cs : Nat → ClassId) (vS_camps vM_owners : Nat → Int32) (vE_placed vE_playing vE_out vE_turn : Int32) (vE_places : Nat → Int32) (x1 : Int32) (Q : Int32 → (Nat → Int32) → Prop) (hx : p.tables.exec = Jvm.exec) (hb : c.code = cX4_placeFinishers) (hml : c.maxLocals = 3) (hown : s.vm.findClass RX4 = some m.cls) (hts : ∀ w ∈ wsX4_placeFinishers, w.before args s = true) (hN : NW s) (hP : va_P D vwCl (cl_X4_placeFinishers ad cs vS_camps vM_owners vE_placed vE_playing vE_out vE_turn vE_places) s.heap) (hK : va_K D vwCl (ty_X4_placeFinishers cs) s) (hD : va_D A (cl_X4_placeFinishers ad cs vS_camps vM_owners vE_placed vE_playing vE_out vE_turn vE_places)) (hA : ∀ q : Nat, s.heap.size ≤ q → A q) (hl : lv_has ls 3 [(0, .ref (ad 19)), (1, .int x1)])
  (hret : ∀ (o0 : Int32) (o1 : Nat → Int32) (H : Heap) (locs : List Loc) (pc : Nat) (ls : Array Slot), Q o0 o1 → va_P D vwCl (cl_X4_placeFinishers ad cs vS_camps vM_owners o0 vE_playing vE_out vE_turn o1) H → va_D A (cl_X4_placeFinishers ad cs vS_camps vM_owners o0 vE_playing vE_out vE_turn o1) → va_S A s.heap H locs → decode cX4_placeFinishers pc = .ok (.return_, 1) → W p l e rm_X4_placeFinishers s m args below meth c H locs 0 0 QQ (F0 m pc ls []))
  (hw : wp_X4_placeFinishers vS_camps vM_owners vE_placed vE_playing vE_out vE_turn vE_places x1 Q) :
  W p l e rm_X4_placeFinishers s m args below meth c s.heap [] 0 0 QQ (F0 m 0 ls []) := by
  have S0 : CallFix p m c cX4_placeFinishers 3 s args wsX4_placeFinishers RX4 := ⟨hx, hb, hml, hown, hts⟩
  have inX4 : ∀ w ∈ u_ws RX4 TX4 7, w ∈ wsX4_placeFinishers := by decide +kernel
  have fl_15 := hts (.fieldLink RX4 15 "HopperCourt$Seats" "places" "[I") (by decide +kernel)
  have fl_32 := hts (.fieldLink RX4 32 "HopperCourt$Seats" "placed" "I") (by decide +kernel)
  have hL2 : ∀ (x1 : Int32) (K2 : Int32 → (Nat → Int32) → Prop) (vE_placed : Int32) (vE_places : Nat → Int32) (x2 : Int32), wl_X4_placeFinishers_2 vS_camps vM_owners vE_playing vE_out vE_turn x1 K2 vE_placed vE_places x2 → (∀ (vE_placed : Int32) (vE_places : Nat → Int32), K2 vE_placed vE_places → ∀ (H : Heap) (locs : List Loc) (ls : Array Slot), va_P D vwCl (cl_X4_placeFinishers ad cs vS_camps vM_owners vE_placed vE_playing vE_out vE_turn vE_places) H → va_D A (cl_X4_placeFinishers ad cs vS_camps vM_owners vE_placed vE_playing vE_out vE_turn vE_places) → va_S A s.heap H locs → lv_has ls 3 [] → W p l e rm_X4_placeFinishers s m args below meth c H locs 0 0 QQ (F0 m 60 ls [])) → ∀ (H : Heap) (locs : List Loc) (ls : Array Slot), va_P D vwCl (cl_X4_placeFinishers ad cs vS_camps vM_owners vE_placed vE_playing vE_out vE_turn vE_places) H → va_D A (cl_X4_placeFinishers ad cs vS_camps vM_owners vE_placed vE_playing vE_out vE_turn vE_places) → va_S A s.heap H locs → lv_has ls 3 [(0, .ref (ad 19)), (1, .int x1), (2, .int x2)] → W p l e rm_X4_placeFinishers s m args below meth c H locs 0 0 QQ (F0 m 2 ls []) := by
    intro x1 K2 vE_placed vE_places x2 hw hK2
    unfold wl_X4_placeFinishers_2 at hw
    refine hw (fun (vE_placed : Int32) (vE_places : Nat → Int32) (x2 : Int32) => ∀ (H : Heap) (locs : List Loc) (ls : Array Slot), va_P D vwCl (cl_X4_placeFinishers ad cs vS_camps vM_owners vE_placed vE_playing vE_out vE_turn vE_places) H → va_D A (cl_X4_placeFinishers ad cs vS_camps vM_owners vE_placed vE_playing vE_out vE_turn vE_places) → va_S A s.heap H locs → lv_has ls 3 [(0, .ref (ad 19)), (1, .int x1), (2, .int x2)] → W p l e rm_X4_placeFinishers s m args below meth c H locs 0 0 QQ (F0 m 2 ls [])) ?_
    intro vE_placed vE_places x2 hw H locs ls hP hD hS hl
    unfold wb_X4_placeFinishers_2 at hw
    refine lv_iload_n hx hb dX4_placeFinishers_2 rfl (lv_at hl 2 rfl) ?_
    refine lv_bipush (v := (6 : Int32)) hx hb dX4_placeFinishers_3 (by decide) ?_
    refine lv_icmp_ge (tgt := 60) hx hb dX4_placeFinishers_5 (by decide) (fun c_1 => ?_) (fun c_1 => ?_)
    · have hw := hw.1 c_1
      exact hK2 vE_placed vE_places hw _ _ _ hP hD hS (lv_sub hl [] rfl)
    · have hw := hw.2 c_1
      refine lv_aload_n hx hb dX4_placeFinishers_8 rfl (lv_at hl 0 rfl) ?_
      refine lv_iload_n hx hb dX4_placeFinishers_9 rfl (lv_at hl 2 rfl) ?_
      refine pcV (rest := []) (ci := 4) S0 (c_X4_isStillIn l D ad cs H.size vE_placed vE_playing vE_out vE_turn vE_places x2 _ hw) (cwV 1 hts gX4_placeFinishers_X4_isStillIn rfl rfl rfl (by decide +kernel) ⟨Nat.le_of_ble_eq_true rfl, Nat.le_of_ble_eq_true rfl⟩) hN hK hP hD [4, 5] [2] rfl rfl rfl 4 rfl rfl rfl rfl hl.1 (Nat.le_of_ble_eq_true rfl) ⟨Nat.le_of_ble_eq_true rfl, Nat.le_of_ble_eq_true rfl⟩ dX4_placeFinishers_10 (fun r_2 hw => ?_)
      refine lv_if_eq (tgt := 54) hx hb dX4_placeFinishers_13 (by decide) (fun c_3 => ?_) (fun c_3 => ?_)
      · have hw := hw.1 c_3
        refine lv_iinc (v := (x2 + (1 : Int32))) (lv' := [(2, .int (x2 + (1 : Int32))), (0, .ref (ad 19)), (1, .int x1)]) hx hb dX4_placeFinishers_54 hl (k := 2) rfl rfl (by decide) rfl (fun ls hl => ?_)
        refine lv_goto (tgt := 2) hx hb dX4_placeFinishers_57 (by decide) ?_
        exact hw _ _ _ hP hD hS (lv_sub hl [1, 2, 0] rfl)
      · have hw := hw.2 c_3
        refine lv_aload_n hx hb dX4_placeFinishers_16 rfl (lv_at hl 0 rfl) ?_
        refine lv_iload_n hx hb dX4_placeFinishers_17 rfl (lv_at hl 2 rfl) ?_
        refine lv_iload_n hx hb dX4_placeFinishers_18 rfl (lv_at hl 1 rfl) ?_
        refine pcV (rest := []) (ci := 4) S0 (c_X4_fillsGoal l D ad cs H.size vS_camps vM_owners vE_placed vE_playing vE_out vE_turn x2 x1 _ hw) (cwV 2 hts gX4_placeFinishers_X4_fillsGoal rfl rfl rfl (by decide +kernel) ⟨Nat.le_of_ble_eq_true rfl, Nat.le_of_ble_eq_true rfl⟩) hN hK hP hD [0, 1, 2, 3, 4] [0, 1] rfl rfl rfl 4 rfl rfl rfl rfl hl.1 (Nat.le_of_ble_eq_true rfl) ⟨Nat.le_of_ble_eq_true rfl, Nat.le_of_ble_eq_true rfl⟩ dX4_placeFinishers_19 (fun r_4 hw => ?_)
        refine lv_if_eq (tgt := 54) hx hb dX4_placeFinishers_22 (by decide) (fun c_5 => ?_) (fun c_5 => ?_)
        · have hw := hw.1 c_5
          refine lv_iinc (v := (x2 + (1 : Int32))) (lv' := [(2, .int (x2 + (1 : Int32))), (0, .ref (ad 19)), (1, .int x1)]) hx hb dX4_placeFinishers_54 hl (k := 2) rfl rfl (by decide) rfl (fun ls hl => ?_)
          refine lv_goto (tgt := 2) hx hb dX4_placeFinishers_57 (by decide) ?_
          exact hw _ _ _ hP hD hS (lv_sub hl [1, 2, 0] rfl)
        · have hw := hw.2 c_5
          refine lv_aload_n hx hb dX4_placeFinishers_25 rfl (lv_at hl 0 rfl) ?_
          refine va_get (D := D) (ci := 4) (v := .int vE_placed) (C := RX4) (T := TX4) (N := 7) hx hb hts inX4 hown hK hP 4 rfl rfl 3 (by decide) fl_32 (fun _ h9 => h9) rfl dX4_placeFinishers_26 ?_
          refine lv_bipush (v := (6 : Int32)) hx hb dX4_placeFinishers_29 (by decide) ?_
          refine lv_icmp_ge (tgt := 54) hx hb dX4_placeFinishers_31 (by decide) (fun c_6 => ?_) (fun c_6 => ?_)
          · have hw := hw.1 c_6
            refine lv_iinc (v := (x2 + (1 : Int32))) (lv' := [(2, .int (x2 + (1 : Int32))), (0, .ref (ad 19)), (1, .int x1)]) hx hb dX4_placeFinishers_54 hl (k := 2) rfl rfl (by decide) rfl (fun ls hl => ?_)
            refine lv_goto (tgt := 2) hx hb dX4_placeFinishers_57 (by decide) ?_
            exact hw _ _ _ hP hD hS (lv_sub hl [1, 2, 0] rfl)
          · have hw := hw.2 c_6
            refine lv_aload_n hx hb dX4_placeFinishers_34 rfl (lv_at hl 0 rfl) ?_
            refine va_get (D := D) (ci := 4) (v := .ref (ad 21)) (C := RX4) (T := TX4) (N := 7) hx hb hts inX4 hown hK hP 4 rfl rfl 2 (by decide) fl_15 (fun _ h9 => h9) rfl dX4_placeFinishers_35 ?_
            refine lv_aload_n hx hb dX4_placeFinishers_38 rfl (lv_at hl 0 rfl) ?_
            refine va_get (D := D) (ci := 4) (v := .int vE_placed) (C := RX4) (T := TX4) (N := 7) hx hb hts inX4 hown hK hP 4 rfl rfl 3 (by decide) fl_32 (fun _ h9 => h9) rfl dX4_placeFinishers_39 ?_
            refine lv_iload_n hx hb dX4_placeFinishers_42 rfl (lv_at hl 2 rfl) ?_
            obtain ⟨h_7, hw⟩ := hw
            refine va_iast hx hb hK hP hD hS 5 2 rfl rfl h_7 dX4_placeFinishers_43 (fun H locs hP hD hS => ?_)
            have hP : va_P D vwCl (cl_X4_placeFinishers ad cs vS_camps vM_owners vE_placed vE_playing vE_out vE_turn (upd vE_places vE_placed.toNatClampNeg x2)) H := hP
            have hD : va_D A (cl_X4_placeFinishers ad cs vS_camps vM_owners vE_placed vE_playing vE_out vE_turn (upd vE_places vE_placed.toNatClampNeg x2)) := hD
            refine lv_aload_n hx hb dX4_placeFinishers_44 rfl (lv_at hl 0 rfl) ?_
            refine lv_dup hx hb dX4_placeFinishers_45 rfl ?_
            refine va_get (D := D) (ci := 4) (v := .int vE_placed) (C := RX4) (T := TX4) (N := 7) hx hb hts inX4 hown hK hP 4 rfl rfl 3 (by decide) fl_32 (fun _ h9 => h9) rfl dX4_placeFinishers_46 ?_
            refine lv_iconst (v := (1 : Int32)) hx hb dX4_placeFinishers_49 (by decide) ?_
            refine lv_iadd hx hb dX4_placeFinishers_50 ?_
            refine va_put (D := D) (ci := 4) (v := .int (vE_placed + (1 : Int32))) (ty := .int) (C := RX4) (T := TX4) (N := 7) hx hb hts inX4 tyX4 tyX4_ok nmX4 hown hK hP hD hS 4 rfl rfl 3 (by decide) fl_32 (fun _ h9 => h9) rfl (by decide +kernel) rfl rfl (Nat.le_of_ble_eq_true rfl) dX4_placeFinishers_51 (fun H locs hP hD hS => ?_)
            have hP : va_P D vwCl (cl_X4_placeFinishers ad cs vS_camps vM_owners (vE_placed + (1 : Int32)) vE_playing vE_out vE_turn (upd vE_places vE_placed.toNatClampNeg x2)) H := hP
            have hD : va_D A (cl_X4_placeFinishers ad cs vS_camps vM_owners (vE_placed + (1 : Int32)) vE_playing vE_out vE_turn (upd vE_places vE_placed.toNatClampNeg x2)) := hD
            refine lv_iinc (v := (x2 + (1 : Int32))) (lv' := [(2, .int (x2 + (1 : Int32))), (0, .ref (ad 19)), (1, .int x1)]) hx hb dX4_placeFinishers_54 hl (k := 2) rfl rfl (by decide) rfl (fun ls hl => ?_)
            refine lv_goto (tgt := 2) hx hb dX4_placeFinishers_57 (by decide) ?_
            exact hw _ _ _ hP hD hS (lv_sub hl [1, 2, 0] rfl)
  obtain ⟨H, hH⟩ : ∃ H : Heap, H = s.heap := ⟨_, rfl⟩
  have hS : va_S A s.heap H [] := by rw [hH]; exact va_S.rf
  rw [← hH] at hP ⊢
  unfold wp_X4_placeFinishers at hw
  refine lv_iconst (v := (0 : Int32)) hx hb dX4_placeFinishers_0 (by decide) ?_
  refine lv_istore_n (lv' := [(2, .int (0 : Int32)), (0, .ref (ad 19)), (1, .int x1)]) hx hb dX4_placeFinishers_1 rfl hl (by decide) rfl (fun ls hl => ?_)
  refine hL2 x1 _ vE_placed vE_places (0 : Int32) hw ?_ _ _ _ hP hD hS (lv_sub hl [1, 2, 0] rfl)
  intro vE_placed_8 vE_places_9 hw H locs ls hP hD hS hl
  exact hret _ _ _ _ _ _ hw hP hD hS dX4_placeFinishers_60
set_option maxHeartbeats 4000000 in
set_option maxRecDepth 100000 in
theorem c_X4_placeFinishers (l : Launch) (D : va_G) (ad : Nat → Nat) (cs : Nat → ClassId) (sz : Nat) (vS_camps vM_owners : Nat → Int32) (vE_placed vE_playing vE_out vE_turn : Int32) (vE_places : Nat → Int32) (x1 : Int32) (Q : Int32 → (Nat → Int32) → Prop) (hw : wp_X4_placeFinishers vS_camps vM_owners vE_placed vE_playing vE_out vE_turn vE_places x1 Q) :
  Met l yX4_placeFinishers wsX4_placeFinishers rm_X4_placeFinishers (va_Pc [.ref (ad 19), .int x1] (PX D (cl_X4_placeFinishers ad cs vS_camps vM_owners vE_placed vE_playing vE_out vE_turn vE_places) (ty_X4_placeFinishers cs) sz)) (va_Qv (fun (u : Int32 × (Nat → Int32)) => Q u.1 u.2) (fun (u : Int32 × (Nat → Int32)) t => va_P D vwCl (cl_X4_placeFinishers ad cs vS_camps vM_owners u.1 vE_playing vE_out vE_turn u.2) t.heap ∧ va_D (va_A (cl_X4_placeFinishers ad cs vS_camps vM_owners vE_placed vE_playing vE_out vE_turn vE_places) sz) (cl_X4_placeFinishers ad cs vS_camps vM_owners u.1 vE_playing vE_out vE_turn u.2)) (va_A (cl_X4_placeFinishers ad cs vS_camps vM_owners vE_placed vE_playing vE_out vE_turn vE_places) sz)) 0 0 (va_A (cl_X4_placeFinishers ad cs vS_camps vM_owners vE_placed vE_playing vE_out vE_turn vE_places) sz) := by
  refine Met.ofW (cc := cX4_placeFinishers) (maxL := 3) (ret := none) (by decide) rfl ?_
  intro p e s m args below meth c s₁ B hml hv
  obtain ⟨rfl, hsz, hP, hK, hD0, hN⟩ := hv
  subst hsz
  have hl := lv_entry ([.ref (ad 19), .int x1]) (n := 3) (Nat.le_of_ble_eq_true rfl)
  rw [lg_entry_eq]
  have hx := B.exec
  have hb := B.bytes
  have hr := B.returns
  exact b_X4_placeFinishers l D ad cs vS_camps vM_owners vE_placed vE_playing vE_out vE_turn vE_places x1 Q hx hb hml (findClass_of_methodNamed B.named) (atoms_spec (ws := wsX4_placeFinishers) B.pre) hN hP hK hD0.self (fun q h => Or.inr h) hl (fun o0 o1 H locs pc ls hq hP hD hS hd => W.vret hx hb hr (fun t ht hW => ⟨⟨(o0, o1), rfl, hq, by rw [ht]; exact hP, hD⟩, hS.F ht⟩) hS.2.2 hd) hw
abbrev rm_X4_isTooLate : Room := { frames := 3, cells := 0, slots := 0, locals := 65 }
abbrev cl_X4_isTooLate (ad : Nat → Nat) (cs : Nat → ClassId) (vS_camps vM_owners : Nat → Int32) (vE_placed vE_playing vE_out vE_turn : Int32) (vE_madeBy : Nat → Int32) : va_W := [((ad 1), .inr (5, [.ref (ad 2), .ref (ad 3), .ref (ad 4), .ref (ad 5)])), ((ad 4), .inl ((cs 4), 121, .inl vS_camps)), ((ad 6), .inr (1, [.ref (ad 1), .ref (ad 7)])), ((ad 7), .inl ((cs 7), 121, .inl vM_owners)), ((ad 19), .inr (4, [.ref (ad 6), .ref (ad 20), .ref (ad 21), .int vE_placed, .int vE_playing, .int vE_out, .int vE_turn])), ((ad 20), .inl ((cs 20), 6, .inl vE_madeBy))]
abbrev ty_X4_isTooLate (cs : Nat → ClassId) : List (ClassId × FieldType) := [((cs 4), .int), ((cs 7), .int), ((cs 20), .int)]
def wp_X4_isTooLate (vS_camps vM_owners : Nat → Int32) (vE_placed vE_playing vE_out vE_turn : Int32) (vE_madeBy : Nat → Int32) (x1 x2 : Int32) (Q : Int32 → Prop) : Prop :=
 ((x2 ≤ 0 → Q (0 : Int32)) ∧
 (¬ x2 ≤ 0 → wp_X6_isCamp x1 (fun r_2 =>
 ((r_2 = 0 → Q (0 : Int32)) ∧
 (¬ r_2 = 0 → (vp_in x1 6 ∧
 (((vE_madeBy x1.toNatClampNeg) < x2 → Q (0 : Int32)) ∧
 (¬ (vE_madeBy x1.toNatClampNeg) < x2 → wp_X1_countInCamp vS_camps vM_owners x1 x1 (fun r_6 =>
 ((r_6 ≤ 0 → Q (0 : Int32)) ∧
 (¬ r_6 ≤ 0 → Q (1 : Int32))))))))))))
set_option maxHeartbeats 4000000 in
set_option maxRecDepth 100000 in
theorem b_X4_isTooLate {p : Program} {e : Env} {s : State} {m : MethodId} {args : Array Value} {below : List Frame} {meth : Method} {c : Code} {QQ : State → Prop} {A : Nat → Prop} {ls : Array Slot} (l : Launch) (D : va_G) (ad : Nat → Nat) (cs : Nat → ClassId) (vS_camps vM_owners : Nat → Int32) (vE_placed vE_playing vE_out vE_turn : Int32) (vE_madeBy : Nat → Int32) (x1 x2 : Int32) (Q : Int32 → Prop) (hx : p.tables.exec = Jvm.exec) (hb : c.code = cX4_isTooLate) (hml : c.maxLocals = 3) (hown : s.vm.findClass RX4 = some m.cls) (hts : ∀ w ∈ wsX4_isTooLate, w.before args s = true) (hN : NW s) (hP : va_P D vwCl (cl_X4_isTooLate ad cs vS_camps vM_owners vE_placed vE_playing vE_out vE_turn vE_madeBy) s.heap) (hK : va_K D vwCl (ty_X4_isTooLate cs) s) (hD : va_D A (cl_X4_isTooLate ad cs vS_camps vM_owners vE_placed vE_playing vE_out vE_turn vE_madeBy)) (hA : ∀ q : Nat, s.heap.size ≤ q → A q) (hl : lv_has ls 3 [(0, .ref (ad 19)), (1, .int x1), (2, .int x2)])
  (hret : ∀ (r : Int32) (pc : Nat) (ls : Array Slot), nb r → Q r → decode cX4_isTooLate pc = .ok (.ireturn, 1) → W p l e rm_X4_isTooLate s m args below meth c s.heap [] 0 0 QQ (F0 m pc ls [.int r]))
  (hw : wp_X4_isTooLate vS_camps vM_owners vE_placed vE_playing vE_out vE_turn vE_madeBy x1 x2 Q) :
  W p l e rm_X4_isTooLate s m args below meth c s.heap [] 0 0 QQ (F0 m 0 ls []) := by
  have S0 : CallFix p m c cX4_isTooLate 3 s args wsX4_isTooLate RX4 := ⟨hx, hb, hml, hown, hts⟩
  have inX4 : ∀ w ∈ u_ws RX4 TX4 7, w ∈ wsX4_isTooLate := by decide +kernel
  have fl_18 := hts (.fieldLink RX4 18 "HopperCourt$Seats" "marbles" "LHopperCourt$Marbles;") (by decide +kernel)
  have fl_9 := hts (.fieldLink RX4 9 "HopperCourt$Seats" "madeBy" "[I") (by decide +kernel)
  unfold wp_X4_isTooLate at hw
  refine lv_iload_n hx hb dX4_isTooLate_0 rfl (lv_at hl 2 rfl) ?_
  refine lv_if_le (tgt := 37) hx hb dX4_isTooLate_1 (by decide) (fun c_1 => ?_) (fun c_1 => ?_)
  · have hw := hw.1 c_1
    refine lv_iconst (v := (0 : Int32)) hx hb dX4_isTooLate_37 (by decide) ?_
    exact hret _ _ _ nb_0 hw dX4_isTooLate_38
  · have hw := hw.2 c_1
    refine lv_iload_n hx hb dX4_isTooLate_4 rfl (lv_at hl 1 rfl) ?_
    refine pcSN (rest := []) S0 (c_X6_isCamp l D ad cs s.heap.size x1 _ hw) ⟨va_cnB (host := RX6) 1 hts gX4_isTooLate_X6_isCamp_n39 rfl rfl rfl hN.2.2.2.2.2.1 (hts (.initialized RX6) (by decide +kernel)) (by decide +kernel) ⟨Nat.le_of_ble_eq_true rfl, Nat.le_of_ble_eq_true rfl⟩, hts (.static yX6_isCamp) (by decide +kernel), trivial⟩ hN hK hP hD [] [] rfl rfl rfl rfl rfl hl.1 (Nat.le_of_ble_eq_true rfl) ⟨Nat.le_of_ble_eq_true rfl, Nat.le_of_ble_eq_true rfl⟩ dX4_isTooLate_5 (fun r_2 hw => ?_)
    refine lv_if_eq (tgt := 37) hx hb dX4_isTooLate_8 (by decide) (fun c_3 => ?_) (fun c_3 => ?_)
    · have hw := hw.1 c_3
      refine lv_iconst (v := (0 : Int32)) hx hb dX4_isTooLate_37 (by decide) ?_
      exact hret _ _ _ nb_0 hw dX4_isTooLate_38
    · have hw := hw.2 c_3
      refine lv_aload_n hx hb dX4_isTooLate_11 rfl (lv_at hl 0 rfl) ?_
      refine va_get (D := D) (ci := 4) (v := .ref (ad 20)) (C := RX4) (T := TX4) (N := 7) hx hb hts inX4 hown hK hP 4 rfl rfl 1 (by decide) fl_9 (fun _ h9 => h9) rfl dX4_isTooLate_12 ?_
      refine lv_iload_n hx hb dX4_isTooLate_15 rfl (lv_at hl 1 rfl) ?_
      obtain ⟨h_4, hw⟩ := hw
      refine va_iald hx hb hK hP 5 2 rfl rfl h_4 dX4_isTooLate_16 ?_
      refine lv_iload_n hx hb dX4_isTooLate_17 rfl (lv_at hl 2 rfl) ?_
      refine lv_icmp_lt (tgt := 37) hx hb dX4_isTooLate_18 (by decide) (fun c_5 => ?_) (fun c_5 => ?_)
      · have hw := hw.1 c_5
        refine lv_iconst (v := (0 : Int32)) hx hb dX4_isTooLate_37 (by decide) ?_
        exact hret _ _ _ nb_0 hw dX4_isTooLate_38
      · have hw := hw.2 c_5
        refine lv_aload_n hx hb dX4_isTooLate_21 rfl (lv_at hl 0 rfl) ?_
        refine va_get (D := D) (ci := 4) (v := .ref (ad 6)) (C := RX4) (T := TX4) (N := 7) hx hb hts inX4 hown hK hP 4 rfl rfl 0 (by decide) fl_18 (fun _ h9 => h9) rfl dX4_isTooLate_22 ?_
        refine lv_iload_n hx hb dX4_isTooLate_25 rfl (lv_at hl 1 rfl) ?_
        refine lv_iload_n hx hb dX4_isTooLate_26 rfl (lv_at hl 1 rfl) ?_
        refine pcV (rest := []) (ci := 1) S0 (c_X1_countInCamp l D ad cs s.heap.size vS_camps vM_owners x1 x1 _ hw) (cwV 2 hts gX4_isTooLate_X1_countInCamp rfl rfl rfl (by decide +kernel) ⟨Nat.le_of_ble_eq_true rfl, Nat.le_of_ble_eq_true rfl⟩) hN hK hP hD [0, 1, 2, 3] [0, 1] rfl rfl rfl 2 rfl rfl rfl rfl hl.1 (Nat.le_of_ble_eq_true rfl) ⟨Nat.le_of_ble_eq_true rfl, Nat.le_of_ble_eq_true rfl⟩ dX4_isTooLate_27 (fun r_6 hw => ?_)
        refine lv_if_le (tgt := 37) hx hb dX4_isTooLate_30 (by decide) (fun c_7 => ?_) (fun c_7 => ?_)
        · have hw := hw.1 c_7
          refine lv_iconst (v := (0 : Int32)) hx hb dX4_isTooLate_37 (by decide) ?_
          exact hret _ _ _ nb_0 hw dX4_isTooLate_38
        · have hw := hw.2 c_7
          refine lv_iconst (v := (1 : Int32)) hx hb dX4_isTooLate_33 (by decide) ?_
          refine lv_goto (tgt := 38) hx hb dX4_isTooLate_34 (by decide) ?_
          exact hret _ _ _ nb_1 hw dX4_isTooLate_38
set_option maxHeartbeats 4000000 in
set_option maxRecDepth 100000 in
theorem c_X4_isTooLate (l : Launch) (D : va_G) (ad : Nat → Nat) (cs : Nat → ClassId) (sz : Nat) (vS_camps vM_owners : Nat → Int32) (vE_placed vE_playing vE_out vE_turn : Int32) (vE_madeBy : Nat → Int32) (x1 x2 : Int32) (Q : Int32 → Prop) (hw : wp_X4_isTooLate vS_camps vM_owners vE_placed vE_playing vE_out vE_turn vE_madeBy x1 x2 Q) :
  Met l yX4_isTooLate wsX4_isTooLate rm_X4_isTooLate (va_Pc [.ref (ad 19), .int x1, .int x2] (PX D (cl_X4_isTooLate ad cs vS_camps vM_owners vE_placed vE_playing vE_out vE_turn vE_madeBy) (ty_X4_isTooLate cs) sz)) (vp_Si Q) 0 0 (fun _ => False) := by
  refine Met.ofW (cc := cX4_isTooLate) (maxL := 3) (ret := (some .boolean)) (by decide) rfl ?_
  intro p e s m args below meth c s₁ B hml hv
  obtain ⟨rfl, hsz, hP, hK, hD0, hN⟩ := hv
  subst hsz
  have hl := lv_entry ([.ref (ad 19), .int x1, .int x2]) (n := 3) (Nat.le_of_ble_eq_true rfl)
  rw [lg_entry_eq]
  have hx := B.exec
  have hb := B.bytes
  have hr := B.returns
  exact b_X4_isTooLate l D ad cs vS_camps vM_owners vE_placed vE_playing vE_out vE_turn vE_madeBy x1 x2 Q hx hb hml (findClass_of_methodNamed B.named) (atoms_spec (ws := wsX4_isTooLate) B.pre) hN hP hK hD0.self (fun q h => Or.inr h) hl (A := va_A (cl_X4_isTooLate ad cs vS_camps vM_owners vE_placed vE_playing vE_out vE_turn vE_madeBy) s.heap.size) (fun r pc ls hn hq hd => W.zret (v := r) hx hb hr hn (fun t ht hW => ⟨r, rfl, hq, ht⟩) (fun _ h => nomatch h) hd) hw
abbrev rm_X4_goOn : Room := { frames := 4, cells := 0, slots := 0, locals := 87 }
abbrev cl_X4_goOn (ad : Nat → Nat) (cs : Nat → ClassId) (vS_camps vM_owners : Nat → Int32) (vE_placed vE_playing vE_out vE_turn : Int32) (vE_madeBy vE_places : Nat → Int32) : va_W := [((ad 1), .inr (5, [.ref (ad 2), .ref (ad 3), .ref (ad 4), .ref (ad 5)])), ((ad 4), .inl ((cs 4), 121, .inl vS_camps)), ((ad 6), .inr (1, [.ref (ad 1), .ref (ad 7)])), ((ad 7), .inl ((cs 7), 121, .inl vM_owners)), ((ad 19), .inr (4, [.ref (ad 6), .ref (ad 20), .ref (ad 21), .int vE_placed, .int vE_playing, .int vE_out, .int vE_turn])), ((ad 20), .inl ((cs 20), 6, .inl vE_madeBy)), ((ad 21), .inl ((cs 21), 6, .inl vE_places))]
abbrev ty_X4_goOn (cs : Nat → ClassId) : List (ClassId × FieldType) := [((cs 4), .int), ((cs 7), .int), ((cs 20), .int), ((cs 21), .int)]
def wb_X4_goOn_12 (vS_camps vM_owners : Nat → Int32) (vE_placed vE_playing : Int32) (vE_madeBy vE_places : Nat → Int32) (x1 x2 : Int32) (K12 : Int32 → Int32 → Prop) (P12 : Int32 → Int32 → Int32 → Prop) (vE_out vE_turn x3 : Int32) : Prop :=
 (((6 : Int32) < x3 → K12 vE_out vE_turn) ∧
 (¬ (6 : Int32) < x3 → ((¬ vE_turn = (-1 : Int32) → K12 vE_out vE_turn) ∧
 (vE_turn = (-1 : Int32) → wp_X4_isStillIn vE_placed vE_playing vE_out vE_turn vE_places ((x2 + x3) - (x2 + x3) / (6 : Int32) * (6 : Int32)) (fun r_3 =>
 ((¬ r_3 = 0 → wp_X4_isTooLate vS_camps vM_owners vE_placed vE_playing vE_out vE_turn vE_madeBy ((x2 + x3) - (x2 + x3) / (6 : Int32) * (6 : Int32)) x1 (fun r_5 =>
 ((r_5 = 0 → P12 vE_out ((x2 + x3) - (x2 + x3) / (6 : Int32) * (6 : Int32)) (x3 + (1 : Int32))) ∧
 (¬ r_5 = 0 → P12 (vE_out ||| ((1 : Int32) <<< (((x2 + x3) - (x2 + x3) / (6 : Int32) * (6 : Int32)) &&& 31))) vE_turn (x3 + (1 : Int32)))))) ∧
 (r_3 = 0 → P12 vE_out vE_turn (x3 + (1 : Int32)))))))))
def wl_X4_goOn_12 (vS_camps vM_owners : Nat → Int32) (vE_placed vE_playing : Int32) (vE_madeBy vE_places : Nat → Int32) (x1 x2 : Int32) (K12 : Int32 → Int32 → Prop) (vE_out vE_turn x3 : Int32) : Prop := ∀ P12 : Int32 → Int32 → Int32 → Prop, (∀ (vE_out vE_turn x3 : Int32), wb_X4_goOn_12 vS_camps vM_owners vE_placed vE_playing vE_madeBy vE_places x1 x2 K12 P12 vE_out vE_turn x3 → P12 vE_out vE_turn x3) → P12 vE_out vE_turn x3
def wp_X4_goOn (vS_camps vM_owners : Nat → Int32) (vE_placed vE_playing vE_out vE_turn : Int32) (vE_madeBy vE_places : Nat → Int32) (x1 : Int32) (Q : Int32 → Int32 → Prop) : Prop :=
 wl_X4_goOn_12 vS_camps vM_owners vE_placed vE_playing vE_madeBy vE_places x1 vE_turn (fun vE_out_7 vE_turn_8 => Q vE_out_7 vE_turn_8) vE_out (-1 : Int32) (1 : Int32)
set_option maxHeartbeats 4000000 in
set_option maxRecDepth 100000 in
theorem b_X4_goOn {p : Program} {e : Env} {s : State} {m : MethodId} {args : Array Value} {below : List Frame} {meth : Method} {c : Code} {QQ : State → Prop} {A : Nat → Prop} {ls : Array Slot} (l : Launch) (D : va_G) (ad : Nat → Nat) (cs : Nat → ClassId) (vS_camps vM_owners : Nat → Int32) (vE_placed vE_playing vE_out vE_turn : Int32) (vE_madeBy vE_places : Nat → Int32) (x1 : Int32) (Q : Int32 → Int32 → Prop) (hx : p.tables.exec = Jvm.exec) (hb : c.code = cX4_goOn) (hml : c.maxLocals = 5) (hown : s.vm.findClass RX4 = some m.cls) (hts : ∀ w ∈ wsX4_goOn, w.before args s = true) (hN : NW s) (hP : va_P D vwCl (cl_X4_goOn ad cs vS_camps vM_owners vE_placed vE_playing vE_out vE_turn vE_madeBy vE_places) s.heap) (hK : va_K D vwCl (ty_X4_goOn cs) s) (hD : va_D A (cl_X4_goOn ad cs vS_camps vM_owners vE_placed vE_playing vE_out vE_turn vE_madeBy vE_places)) (hA : ∀ q : Nat, s.heap.size ≤ q → A q) (hl : lv_has ls 5 [(0, .ref (ad 19)), (1, .int x1)])
  (hret : ∀ (o0 : Int32) (o1 : Int32) (H : Heap) (locs : List Loc) (pc : Nat) (ls : Array Slot), Q o0 o1 → va_P D vwCl (cl_X4_goOn ad cs vS_camps vM_owners vE_placed vE_playing o0 o1 vE_madeBy vE_places) H → va_D A (cl_X4_goOn ad cs vS_camps vM_owners vE_placed vE_playing o0 o1 vE_madeBy vE_places) → va_S A s.heap H locs → decode cX4_goOn pc = .ok (.return_, 1) → W p l e rm_X4_goOn s m args below meth c H locs 0 0 QQ (F0 m pc ls []))
  (hw : wp_X4_goOn vS_camps vM_owners vE_placed vE_playing vE_out vE_turn vE_madeBy vE_places x1 Q) :
  W p l e rm_X4_goOn s m args below meth c s.heap [] 0 0 QQ (F0 m 0 ls []) := by
  have S0 : CallFix p m c cX4_goOn 5 s args wsX4_goOn RX4 := ⟨hx, hb, hml, hown, hts⟩
  have inX4 : ∀ w ∈ u_ws RX4 TX4 7, w ∈ wsX4_goOn := by decide +kernel
  have fl_22 := hts (.fieldLink RX4 22 "HopperCourt$Seats" "turn" "I") (by decide +kernel)
  have fl_29 := hts (.fieldLink RX4 29 "HopperCourt$Seats" "out" "I") (by decide +kernel)
  have hL12 : ∀ (x1 x2 : Int32) (K12 : Int32 → Int32 → Prop) (vE_out vE_turn x3 : Int32), wl_X4_goOn_12 vS_camps vM_owners vE_placed vE_playing vE_madeBy vE_places x1 x2 K12 vE_out vE_turn x3 → (∀ (vE_out vE_turn : Int32), K12 vE_out vE_turn → ∀ (H : Heap) (locs : List Loc) (ls : Array Slot), va_P D vwCl (cl_X4_goOn ad cs vS_camps vM_owners vE_placed vE_playing vE_out vE_turn vE_madeBy vE_places) H → va_D A (cl_X4_goOn ad cs vS_camps vM_owners vE_placed vE_playing vE_out vE_turn vE_madeBy vE_places) → va_S A s.heap H locs → lv_has ls 5 [] → W p l e rm_X4_goOn s m args below meth c H locs 0 0 QQ (F0 m 84 ls [])) → ∀ (H : Heap) (locs : List Loc) (ls : Array Slot), va_P D vwCl (cl_X4_goOn ad cs vS_camps vM_owners vE_placed vE_playing vE_out vE_turn vE_madeBy vE_places) H → va_D A (cl_X4_goOn ad cs vS_camps vM_owners vE_placed vE_playing vE_out vE_turn vE_madeBy vE_places) → va_S A s.heap H locs → lv_has ls 5 [(0, .ref (ad 19)), (1, .int x1), (2, .int x2), (3, .int x3)] → W p l e rm_X4_goOn s m args below meth c H locs 0 0 QQ (F0 m 12 ls []) := by
    intro x1 x2 K12 vE_out vE_turn x3 hw hK12
    unfold wl_X4_goOn_12 at hw
    refine hw (fun (vE_out vE_turn x3 : Int32) => ∀ (H : Heap) (locs : List Loc) (ls : Array Slot), va_P D vwCl (cl_X4_goOn ad cs vS_camps vM_owners vE_placed vE_playing vE_out vE_turn vE_madeBy vE_places) H → va_D A (cl_X4_goOn ad cs vS_camps vM_owners vE_placed vE_playing vE_out vE_turn vE_madeBy vE_places) → va_S A s.heap H locs → lv_has ls 5 [(0, .ref (ad 19)), (1, .int x1), (2, .int x2), (3, .int x3)] → W p l e rm_X4_goOn s m args below meth c H locs 0 0 QQ (F0 m 12 ls [])) ?_
    intro vE_out vE_turn x3 hw H locs ls hP hD hS hl
    unfold wb_X4_goOn_12 at hw
    refine lv_iload_n hx hb dX4_goOn_12 rfl (lv_at hl 3 rfl) ?_
    refine lv_bipush (v := (6 : Int32)) hx hb dX4_goOn_13 (by decide) ?_
    refine lv_icmp_gt (tgt := 84) hx hb dX4_goOn_15 (by decide) (fun c_1 => ?_) (fun c_1 => ?_)
    · have hw := hw.1 c_1
      exact hK12 vE_out vE_turn hw _ _ _ hP hD hS (lv_sub hl [] rfl)
    · have hw := hw.2 c_1
      refine lv_aload_n hx hb dX4_goOn_18 rfl (lv_at hl 0 rfl) ?_
      refine va_get (D := D) (ci := 4) (v := .int vE_turn) (C := RX4) (T := TX4) (N := 7) hx hb hts inX4 hown hK hP 4 rfl rfl 6 (by decide) fl_22 (fun _ h9 => h9) rfl dX4_goOn_19 ?_
      refine lv_iconst (v := (-1 : Int32)) hx hb dX4_goOn_22 (by decide) ?_
      refine lv_icmp_ne (tgt := 84) hx hb dX4_goOn_23 (by decide) (fun c_2 => ?_) (fun c_2 => ?_)
      · have hw := hw.1 c_2
        exact hK12 vE_out vE_turn hw _ _ _ hP hD hS (lv_sub hl [] rfl)
      · have hw := hw.2 c_2
        refine lv_iload_n hx hb dX4_goOn_26 rfl (lv_at hl 2 rfl) ?_
        refine lv_iload_n hx hb dX4_goOn_27 rfl (lv_at hl 3 rfl) ?_
        refine lv_iadd hx hb dX4_goOn_28 ?_
        refine lv_bipush (v := (6 : Int32)) hx hb dX4_goOn_29 (by decide) ?_
        refine lv_irem hx hb dX4_goOn_31 (by decide) ?_
        refine lv_istore (lv' := [(4, .int ((x2 + x3) - (x2 + x3) / (6 : Int32) * (6 : Int32))), (0, .ref (ad 19)), (1, .int x1), (2, .int x2), (3, .int x3)]) hx hb dX4_goOn_32 hl (by decide) rfl (fun ls hl => ?_)
        refine lv_aload_n hx hb dX4_goOn_34 rfl (lv_at hl 1 rfl) ?_
        refine lv_iload hx hb dX4_goOn_35 (lv_at hl 0 rfl) ?_
        refine pcV (rest := []) (ci := 4) S0 (c_X4_isStillIn l D ad cs H.size vE_placed vE_playing vE_out vE_turn vE_places ((x2 + x3) - (x2 + x3) / (6 : Int32) * (6 : Int32)) _ hw) (cwV 1 hts gX4_goOn_X4_isStillIn rfl rfl rfl (by decide +kernel) ⟨Nat.le_of_ble_eq_true rfl, Nat.le_of_ble_eq_true rfl⟩) hN hK hP hD [4, 6] [3] rfl rfl rfl 4 rfl rfl rfl rfl hl.1 (Nat.le_of_ble_eq_true rfl) ⟨Nat.le_of_ble_eq_true rfl, Nat.le_of_ble_eq_true rfl⟩ dX4_goOn_37 (fun r_3 hw => ?_)
        refine lv_if_ne (tgt := 46) hx hb dX4_goOn_40 (by decide) (fun c_4 => ?_) (fun c_4 => ?_)
        · have hw := hw.1 c_4
          refine lv_aload_n hx hb dX4_goOn_46 rfl (lv_at hl 1 rfl) ?_
          refine lv_iload hx hb dX4_goOn_47 (lv_at hl 0 rfl) ?_
          refine lv_iload_n hx hb dX4_goOn_49 rfl (lv_at hl 2 rfl) ?_
          refine pcV (rest := []) (ci := 4) S0 (c_X4_isTooLate l D ad cs H.size vS_camps vM_owners vE_placed vE_playing vE_out vE_turn vE_madeBy ((x2 + x3) - (x2 + x3) / (6 : Int32) * (6 : Int32)) x1 _ hw) (cwV 2 hts gX4_goOn_X4_isTooLate rfl rfl rfl (by decide +kernel) ⟨Nat.le_of_ble_eq_true rfl, Nat.le_of_ble_eq_true rfl⟩) hN hK hP hD [0, 1, 2, 3, 4, 5] [0, 1, 2] rfl rfl rfl 4 rfl rfl rfl rfl hl.1 (Nat.le_of_ble_eq_true rfl) ⟨Nat.le_of_ble_eq_true rfl, Nat.le_of_ble_eq_true rfl⟩ dX4_goOn_50 (fun r_5 hw => ?_)
          refine lv_if_eq (tgt := 72) hx hb dX4_goOn_53 (by decide) (fun c_6 => ?_) (fun c_6 => ?_)
          · have hw := hw.1 c_6
            refine lv_aload_n hx hb dX4_goOn_72 rfl (lv_at hl 1 rfl) ?_
            refine lv_iload hx hb dX4_goOn_73 (lv_at hl 0 rfl) ?_
            refine va_put (D := D) (ci := 4) (v := .int ((x2 + x3) - (x2 + x3) / (6 : Int32) * (6 : Int32))) (ty := .int) (C := RX4) (T := TX4) (N := 7) hx hb hts inX4 tyX4 tyX4_ok nmX4 hown hK hP hD hS 4 rfl rfl 6 (by decide) fl_22 (fun _ h9 => h9) rfl (by decide +kernel) rfl rfl (Nat.le_of_ble_eq_true rfl) dX4_goOn_75 (fun H locs hP hD hS => ?_)
            have hP : va_P D vwCl (cl_X4_goOn ad cs vS_camps vM_owners vE_placed vE_playing vE_out ((x2 + x3) - (x2 + x3) / (6 : Int32) * (6 : Int32)) vE_madeBy vE_places) H := hP
            have hD : va_D A (cl_X4_goOn ad cs vS_camps vM_owners vE_placed vE_playing vE_out ((x2 + x3) - (x2 + x3) / (6 : Int32) * (6 : Int32)) vE_madeBy vE_places) := hD
            refine lv_iinc (v := (x3 + (1 : Int32))) (lv' := [(3, .int (x3 + (1 : Int32))), (4, .int ((x2 + x3) - (x2 + x3) / (6 : Int32) * (6 : Int32))), (0, .ref (ad 19)), (1, .int x1), (2, .int x2)]) hx hb dX4_goOn_78 hl (k := 4) rfl rfl (by decide) rfl (fun ls hl => ?_)
            refine lv_goto (tgt := 12) hx hb dX4_goOn_81 (by decide) ?_
            exact hw _ _ _ hP hD hS (lv_sub hl [2, 3, 4, 0] rfl)
          · have hw := hw.2 c_6
            refine lv_aload_n hx hb dX4_goOn_56 rfl (lv_at hl 1 rfl) ?_
            refine lv_dup hx hb dX4_goOn_57 rfl ?_
            refine va_get (D := D) (ci := 4) (v := .int vE_out) (C := RX4) (T := TX4) (N := 7) hx hb hts inX4 hown hK hP 4 rfl rfl 5 (by decide) fl_29 (fun _ h9 => h9) rfl dX4_goOn_58 ?_
            refine lv_iconst (v := (1 : Int32)) hx hb dX4_goOn_61 (by decide) ?_
            refine lv_iload hx hb dX4_goOn_62 (lv_at hl 0 rfl) ?_
            refine lv_ishl hx hb dX4_goOn_64 ?_
            refine lv_ior hx hb dX4_goOn_65 ?_
            refine va_put (D := D) (ci := 4) (v := .int (vE_out ||| ((1 : Int32) <<< (((x2 + x3) - (x2 + x3) / (6 : Int32) * (6 : Int32)) &&& 31)))) (ty := .int) (C := RX4) (T := TX4) (N := 7) hx hb hts inX4 tyX4 tyX4_ok nmX4 hown hK hP hD hS 4 rfl rfl 5 (by decide) fl_29 (fun _ h9 => h9) rfl (by decide +kernel) rfl rfl (Nat.le_of_ble_eq_true rfl) dX4_goOn_66 (fun H locs hP hD hS => ?_)
            have hP : va_P D vwCl (cl_X4_goOn ad cs vS_camps vM_owners vE_placed vE_playing (vE_out ||| ((1 : Int32) <<< (((x2 + x3) - (x2 + x3) / (6 : Int32) * (6 : Int32)) &&& 31))) vE_turn vE_madeBy vE_places) H := hP
            have hD : va_D A (cl_X4_goOn ad cs vS_camps vM_owners vE_placed vE_playing (vE_out ||| ((1 : Int32) <<< (((x2 + x3) - (x2 + x3) / (6 : Int32) * (6 : Int32)) &&& 31))) vE_turn vE_madeBy vE_places) := hD
            refine lv_goto (tgt := 78) hx hb dX4_goOn_69 (by decide) ?_
            refine lv_iinc (v := (x3 + (1 : Int32))) (lv' := [(3, .int (x3 + (1 : Int32))), (4, .int ((x2 + x3) - (x2 + x3) / (6 : Int32) * (6 : Int32))), (0, .ref (ad 19)), (1, .int x1), (2, .int x2)]) hx hb dX4_goOn_78 hl (k := 4) rfl rfl (by decide) rfl (fun ls hl => ?_)
            refine lv_goto (tgt := 12) hx hb dX4_goOn_81 (by decide) ?_
            exact hw _ _ _ hP hD hS (lv_sub hl [2, 3, 4, 0] rfl)
        · have hw := hw.2 c_4
          refine lv_goto (tgt := 78) hx hb dX4_goOn_43 (by decide) ?_
          refine lv_iinc (v := (x3 + (1 : Int32))) (lv' := [(3, .int (x3 + (1 : Int32))), (4, .int ((x2 + x3) - (x2 + x3) / (6 : Int32) * (6 : Int32))), (0, .ref (ad 19)), (1, .int x1), (2, .int x2)]) hx hb dX4_goOn_78 hl (k := 4) rfl rfl (by decide) rfl (fun ls hl => ?_)
          refine lv_goto (tgt := 12) hx hb dX4_goOn_81 (by decide) ?_
          exact hw _ _ _ hP hD hS (lv_sub hl [2, 3, 4, 0] rfl)
  obtain ⟨H, hH⟩ : ∃ H : Heap, H = s.heap := ⟨_, rfl⟩
  have hS : va_S A s.heap H [] := by rw [hH]; exact va_S.rf
  rw [← hH] at hP ⊢
  unfold wp_X4_goOn at hw
  refine lv_aload_n hx hb dX4_goOn_0 rfl (lv_at hl 0 rfl) ?_
  refine va_get (D := D) (ci := 4) (v := .int vE_turn) (C := RX4) (T := TX4) (N := 7) hx hb hts inX4 hown hK hP 4 rfl rfl 6 (by decide) fl_22 (fun _ h9 => h9) rfl dX4_goOn_1 ?_
  refine lv_istore_n (lv' := [(2, .int vE_turn), (0, .ref (ad 19)), (1, .int x1)]) hx hb dX4_goOn_4 rfl hl (by decide) rfl (fun ls hl => ?_)
  refine lv_aload_n hx hb dX4_goOn_5 rfl (lv_at hl 1 rfl) ?_
  refine lv_iconst (v := (-1 : Int32)) hx hb dX4_goOn_6 (by decide) ?_
  refine va_put (D := D) (ci := 4) (v := .int (-1 : Int32)) (ty := .int) (C := RX4) (T := TX4) (N := 7) hx hb hts inX4 tyX4 tyX4_ok nmX4 hown hK hP hD hS 4 rfl rfl 6 (by decide) fl_22 (fun _ h9 => h9) rfl (by decide +kernel) rfl rfl (Nat.le_of_ble_eq_true rfl) dX4_goOn_7 (fun H locs hP hD hS => ?_)
  have hP : va_P D vwCl (cl_X4_goOn ad cs vS_camps vM_owners vE_placed vE_playing vE_out (-1 : Int32) vE_madeBy vE_places) H := hP
  have hD : va_D A (cl_X4_goOn ad cs vS_camps vM_owners vE_placed vE_playing vE_out (-1 : Int32) vE_madeBy vE_places) := hD
  refine lv_iconst (v := (1 : Int32)) hx hb dX4_goOn_10 (by decide) ?_
  refine lv_istore_n (lv' := [(3, .int (1 : Int32)), (2, .int vE_turn), (0, .ref (ad 19)), (1, .int x1)]) hx hb dX4_goOn_11 rfl hl (by decide) rfl (fun ls hl => ?_)
  refine hL12 x1 vE_turn _ vE_out (-1 : Int32) (1 : Int32) hw ?_ _ _ _ hP hD hS (lv_sub hl [2, 3, 1, 0] rfl)
  intro vE_out_7 vE_turn_8 hw H locs ls hP hD hS hl
  exact hret _ _ _ _ _ _ hw hP hD hS dX4_goOn_84
set_option maxHeartbeats 4000000 in
set_option maxRecDepth 100000 in
theorem c_X4_goOn (l : Launch) (D : va_G) (ad : Nat → Nat) (cs : Nat → ClassId) (sz : Nat) (vS_camps vM_owners : Nat → Int32) (vE_placed vE_playing vE_out vE_turn : Int32) (vE_madeBy vE_places : Nat → Int32) (x1 : Int32) (Q : Int32 → Int32 → Prop) (hw : wp_X4_goOn vS_camps vM_owners vE_placed vE_playing vE_out vE_turn vE_madeBy vE_places x1 Q) :
  Met l yX4_goOn wsX4_goOn rm_X4_goOn (va_Pc [.ref (ad 19), .int x1] (PX D (cl_X4_goOn ad cs vS_camps vM_owners vE_placed vE_playing vE_out vE_turn vE_madeBy vE_places) (ty_X4_goOn cs) sz)) (va_Qv (fun (u : Int32 × Int32) => Q u.1 u.2) (fun (u : Int32 × Int32) t => va_P D vwCl (cl_X4_goOn ad cs vS_camps vM_owners vE_placed vE_playing u.1 u.2 vE_madeBy vE_places) t.heap ∧ va_D (va_A (cl_X4_goOn ad cs vS_camps vM_owners vE_placed vE_playing vE_out vE_turn vE_madeBy vE_places) sz) (cl_X4_goOn ad cs vS_camps vM_owners vE_placed vE_playing u.1 u.2 vE_madeBy vE_places)) (va_A (cl_X4_goOn ad cs vS_camps vM_owners vE_placed vE_playing vE_out vE_turn vE_madeBy vE_places) sz)) 0 0 (va_A (cl_X4_goOn ad cs vS_camps vM_owners vE_placed vE_playing vE_out vE_turn vE_madeBy vE_places) sz) := by
  refine Met.ofW (cc := cX4_goOn) (maxL := 5) (ret := none) (by decide) rfl ?_
  intro p e s m args below meth c s₁ B hml hv
  obtain ⟨rfl, hsz, hP, hK, hD0, hN⟩ := hv
  subst hsz
  have hl := lv_entry ([.ref (ad 19), .int x1]) (n := 5) (Nat.le_of_ble_eq_true rfl)
  rw [lg_entry_eq]
  have hx := B.exec
  have hb := B.bytes
  have hr := B.returns
  exact b_X4_goOn l D ad cs vS_camps vM_owners vE_placed vE_playing vE_out vE_turn vE_madeBy vE_places x1 Q hx hb hml (findClass_of_methodNamed B.named) (atoms_spec (ws := wsX4_goOn) B.pre) hN hP hK hD0.self (fun q h => Or.inr h) hl (fun o0 o1 H locs pc ls hq hP hD hS hd => W.vret hx hb hr (fun t ht hW => ⟨⟨(o0, o1), rfl, hq, by rw [ht]; exact hP, hD⟩, hS.F ht⟩) hS.2.2 hd) hw
abbrev rm_X4_restore : Room := { frames := 1, cells := 0, slots := 0, locals := 20 }
abbrev cl_X4_restore (ad : Nat → Nat) (cs : Nat → ClassId) (vE_placed vE_playing vE_out vE_turn : Int32) (vE_madeBy : Nat → Int32) : va_W := [((ad 19), .inr (4, [.ref (ad 6), .ref (ad 20), .ref (ad 21), .int vE_placed, .int vE_playing, .int vE_out, .int vE_turn])), ((ad 20), .inl ((cs 20), 6, .inl vE_madeBy))]
abbrev ty_X4_restore (cs : Nat → ClassId) : List (ClassId × FieldType) := [((cs 20), .int)]
def wp_X4_restore (vE_placed vE_playing vE_out vE_turn : Int32) (vE_madeBy : Nat → Int32) (x1 x2 x3 : Int32) (Q : Int32 → Int32 → Int32 → (Nat → Int32) → Prop) : Prop :=
 wp_X6_isCamp x1 (fun r_1 =>
 ((r_1 = 0 → Q x3 x2 x1 vE_madeBy) ∧
 (¬ r_1 = 0 → (vp_in x1 6 ∧
 (vp_in x1 6 ∧
 Q x3 x2 x1 (upd vE_madeBy x1.toNatClampNeg ((vE_madeBy x1.toNatClampNeg) - (1 : Int32))))))))
set_option maxHeartbeats 4000000 in
set_option maxRecDepth 100000 in
theorem b_X4_restore {p : Program} {e : Env} {s : State} {m : MethodId} {args : Array Value} {below : List Frame} {meth : Method} {c : Code} {QQ : State → Prop} {A : Nat → Prop} {ls : Array Slot} (l : Launch) (D : va_G) (ad : Nat → Nat) (cs : Nat → ClassId) (vE_placed vE_playing vE_out vE_turn : Int32) (vE_madeBy : Nat → Int32) (x1 x2 x3 : Int32) (Q : Int32 → Int32 → Int32 → (Nat → Int32) → Prop) (hx : p.tables.exec = Jvm.exec) (hb : c.code = cX4_restore) (hml : c.maxLocals = 4) (hown : s.vm.findClass RX4 = some m.cls) (hts : ∀ w ∈ wsX4_restore, w.before args s = true) (hN : NW s) (hP : va_P D vwCl (cl_X4_restore ad cs vE_placed vE_playing vE_out vE_turn vE_madeBy) s.heap) (hK : va_K D vwCl (ty_X4_restore cs) s) (hD : va_D A (cl_X4_restore ad cs vE_placed vE_playing vE_out vE_turn vE_madeBy)) (hA : ∀ q : Nat, s.heap.size ≤ q → A q) (hl : lv_has ls 4 [(0, .ref (ad 19)), (1, .int x1), (2, .int x2), (3, .int x3)])
  (hret : ∀ (o0 : Int32) (o1 : Int32) (o2 : Int32) (o3 : Nat → Int32) (H : Heap) (locs : List Loc) (pc : Nat) (ls : Array Slot), Q o0 o1 o2 o3 → va_P D vwCl (cl_X4_restore ad cs o0 vE_playing o1 o2 o3) H → va_D A (cl_X4_restore ad cs o0 vE_playing o1 o2 o3) → va_S A s.heap H locs → decode cX4_restore pc = .ok (.return_, 1) → W p l e rm_X4_restore s m args below meth c H locs 0 0 QQ (F0 m pc ls []))
  (hw : wp_X4_restore vE_placed vE_playing vE_out vE_turn vE_madeBy x1 x2 x3 Q) :
  W p l e rm_X4_restore s m args below meth c s.heap [] 0 0 QQ (F0 m 0 ls []) := by
  have S0 : CallFix p m c cX4_restore 4 s args wsX4_restore RX4 := ⟨hx, hb, hml, hown, hts⟩
  have inX4 : ∀ w ∈ u_ws RX4 TX4 7, w ∈ wsX4_restore := by decide +kernel
  have fl_22 := hts (.fieldLink RX4 22 "HopperCourt$Seats" "turn" "I") (by decide +kernel)
  have fl_29 := hts (.fieldLink RX4 29 "HopperCourt$Seats" "out" "I") (by decide +kernel)
  have fl_32 := hts (.fieldLink RX4 32 "HopperCourt$Seats" "placed" "I") (by decide +kernel)
  have fl_9 := hts (.fieldLink RX4 9 "HopperCourt$Seats" "madeBy" "[I") (by decide +kernel)
  obtain ⟨H, hH⟩ : ∃ H : Heap, H = s.heap := ⟨_, rfl⟩
  have hS : va_S A s.heap H [] := by rw [hH]; exact va_S.rf
  rw [← hH] at hP ⊢
  unfold wp_X4_restore at hw
  refine lv_aload_n hx hb dX4_restore_0 rfl (lv_at hl 0 rfl) ?_
  refine lv_iload_n hx hb dX4_restore_1 rfl (lv_at hl 1 rfl) ?_
  refine va_put (D := D) (ci := 4) (v := .int x1) (ty := .int) (C := RX4) (T := TX4) (N := 7) hx hb hts inX4 tyX4 tyX4_ok nmX4 hown hK hP hD hS 0 rfl rfl 6 (by decide) fl_22 (fun _ h9 => h9) rfl (by decide +kernel) rfl rfl (Nat.le_of_ble_eq_true rfl) dX4_restore_2 (fun H locs hP hD hS => ?_)
  have hP : va_P D vwCl (cl_X4_restore ad cs vE_placed vE_playing vE_out x1 vE_madeBy) H := hP
  have hD : va_D A (cl_X4_restore ad cs vE_placed vE_playing vE_out x1 vE_madeBy) := hD
  refine lv_aload_n hx hb dX4_restore_5 rfl (lv_at hl 0 rfl) ?_
  refine lv_iload_n hx hb dX4_restore_6 rfl (lv_at hl 2 rfl) ?_
  refine va_put (D := D) (ci := 4) (v := .int x2) (ty := .int) (C := RX4) (T := TX4) (N := 7) hx hb hts inX4 tyX4 tyX4_ok nmX4 hown hK hP hD hS 0 rfl rfl 5 (by decide) fl_29 (fun _ h9 => h9) rfl (by decide +kernel) rfl rfl (Nat.le_of_ble_eq_true rfl) dX4_restore_7 (fun H locs hP hD hS => ?_)
  have hP : va_P D vwCl (cl_X4_restore ad cs vE_placed vE_playing x2 x1 vE_madeBy) H := hP
  have hD : va_D A (cl_X4_restore ad cs vE_placed vE_playing x2 x1 vE_madeBy) := hD
  refine lv_aload_n hx hb dX4_restore_10 rfl (lv_at hl 0 rfl) ?_
  refine lv_iload_n hx hb dX4_restore_11 rfl (lv_at hl 3 rfl) ?_
  refine va_put (D := D) (ci := 4) (v := .int x3) (ty := .int) (C := RX4) (T := TX4) (N := 7) hx hb hts inX4 tyX4 tyX4_ok nmX4 hown hK hP hD hS 0 rfl rfl 3 (by decide) fl_32 (fun _ h9 => h9) rfl (by decide +kernel) rfl rfl (Nat.le_of_ble_eq_true rfl) dX4_restore_12 (fun H locs hP hD hS => ?_)
  have hP : va_P D vwCl (cl_X4_restore ad cs x3 vE_playing x2 x1 vE_madeBy) H := hP
  have hD : va_D A (cl_X4_restore ad cs x3 vE_playing x2 x1 vE_madeBy) := hD
  refine lv_aload_n hx hb dX4_restore_15 rfl (lv_at hl 0 rfl) ?_
  refine va_get (D := D) (ci := 4) (v := .int x1) (C := RX4) (T := TX4) (N := 7) hx hb hts inX4 hown hK hP 0 rfl rfl 6 (by decide) fl_22 (fun _ h9 => h9) rfl dX4_restore_16 ?_
  refine pcSN (rest := []) S0 (c_X6_isCamp l D ad cs H.size x1 _ hw) ⟨va_cnB (host := RX6) 1 hts gX4_restore_X6_isCamp_n39 rfl rfl rfl hN.2.2.2.2.2.1 (hts (.initialized RX6) (by decide +kernel)) (by decide +kernel) ⟨Nat.le_of_ble_eq_true rfl, Nat.le_of_ble_eq_true rfl⟩, hts (.static yX6_isCamp) (by decide +kernel), trivial⟩ hN hK hP hD [] [] rfl rfl rfl rfl rfl hl.1 (Nat.le_of_ble_eq_true rfl) ⟨Nat.le_of_ble_eq_true rfl, Nat.le_of_ble_eq_true rfl⟩ dX4_restore_19 (fun r_1 hw => ?_)
  refine lv_if_eq (tgt := 38) hx hb dX4_restore_22 (by decide) (fun c_2 => ?_) (fun c_2 => ?_)
  · have hw := hw.1 c_2
    exact hret _ _ _ _ _ _ _ _ hw hP hD hS dX4_restore_38
  · have hw := hw.2 c_2
    refine lv_aload_n hx hb dX4_restore_25 rfl (lv_at hl 0 rfl) ?_
    refine va_get (D := D) (ci := 4) (v := .ref (ad 20)) (C := RX4) (T := TX4) (N := 7) hx hb hts inX4 hown hK hP 0 rfl rfl 1 (by decide) fl_9 (fun _ h9 => h9) rfl dX4_restore_26 ?_
    refine lv_aload_n hx hb dX4_restore_29 rfl (lv_at hl 0 rfl) ?_
    refine va_get (D := D) (ci := 4) (v := .int x1) (C := RX4) (T := TX4) (N := 7) hx hb hts inX4 hown hK hP 0 rfl rfl 6 (by decide) fl_22 (fun _ h9 => h9) rfl dX4_restore_30 ?_
    refine lv_dup2_11 hx hb dX4_restore_33 rfl rfl ?_
    obtain ⟨h_3, hw⟩ := hw
    refine va_iald hx hb hK hP 1 0 rfl rfl h_3 dX4_restore_34 ?_
    refine lv_iconst (v := (1 : Int32)) hx hb dX4_restore_35 (by decide) ?_
    refine lv_isub hx hb dX4_restore_36 ?_
    obtain ⟨h_4, hw⟩ := hw
    refine va_iast hx hb hK hP hD hS 1 0 rfl rfl h_4 dX4_restore_37 (fun H locs hP hD hS => ?_)
    have hP : va_P D vwCl (cl_X4_restore ad cs x3 vE_playing x2 x1 (upd vE_madeBy x1.toNatClampNeg ((vE_madeBy x1.toNatClampNeg) - (1 : Int32)))) H := hP
    have hD : va_D A (cl_X4_restore ad cs x3 vE_playing x2 x1 (upd vE_madeBy x1.toNatClampNeg ((vE_madeBy x1.toNatClampNeg) - (1 : Int32)))) := hD
    exact hret _ _ _ _ _ _ _ _ hw hP hD hS dX4_restore_38
set_option maxHeartbeats 4000000 in
set_option maxRecDepth 100000 in
theorem c_X4_restore (l : Launch) (D : va_G) (ad : Nat → Nat) (cs : Nat → ClassId) (sz : Nat) (vE_placed vE_playing vE_out vE_turn : Int32) (vE_madeBy : Nat → Int32) (x1 x2 x3 : Int32) (Q : Int32 → Int32 → Int32 → (Nat → Int32) → Prop) (hw : wp_X4_restore vE_placed vE_playing vE_out vE_turn vE_madeBy x1 x2 x3 Q) :
  Met l yX4_restore wsX4_restore rm_X4_restore (va_Pc [.ref (ad 19), .int x1, .int x2, .int x3] (PX D (cl_X4_restore ad cs vE_placed vE_playing vE_out vE_turn vE_madeBy) (ty_X4_restore cs) sz)) (va_Qv (fun (u : Int32 × Int32 × Int32 × (Nat → Int32)) => Q u.1 u.2.1 u.2.2.1 u.2.2.2) (fun (u : Int32 × Int32 × Int32 × (Nat → Int32)) t => va_P D vwCl (cl_X4_restore ad cs u.1 vE_playing u.2.1 u.2.2.1 u.2.2.2) t.heap ∧ va_D (va_A (cl_X4_restore ad cs vE_placed vE_playing vE_out vE_turn vE_madeBy) sz) (cl_X4_restore ad cs u.1 vE_playing u.2.1 u.2.2.1 u.2.2.2)) (va_A (cl_X4_restore ad cs vE_placed vE_playing vE_out vE_turn vE_madeBy) sz)) 0 0 (va_A (cl_X4_restore ad cs vE_placed vE_playing vE_out vE_turn vE_madeBy) sz) := by
  refine Met.ofW (cc := cX4_restore) (maxL := 4) (ret := none) (by decide) rfl ?_
  intro p e s m args below meth c s₁ B hml hv
  obtain ⟨rfl, hsz, hP, hK, hD0, hN⟩ := hv
  subst hsz
  have hl := lv_entry ([.ref (ad 19), .int x1, .int x2, .int x3]) (n := 4) (Nat.le_of_ble_eq_true rfl)
  rw [lg_entry_eq]
  have hx := B.exec
  have hb := B.bytes
  have hr := B.returns
  exact b_X4_restore l D ad cs vE_placed vE_playing vE_out vE_turn vE_madeBy x1 x2 x3 Q hx hb hml (findClass_of_methodNamed B.named) (atoms_spec (ws := wsX4_restore) B.pre) hN hP hK hD0.self (fun q h => Or.inr h) hl (fun o0 o1 o2 o3 H locs pc ls hq hP hD hS hd => W.vret hx hb hr (fun t ht hW => ⟨⟨(o0, o1, o2, o3), rfl, hq, by rw [ht]; exact hP, hD⟩, hS.F ht⟩) hS.2.2 hd) hw
abbrev rm_X0_takeBack : Room := { frames := 2, cells := 0, slots := 0, locals := 43 }
abbrev cl_X0_takeBack (ad : Nat → Nat) (cs : Nat → ClassId) (vM_owners : Nat → Int32) (vE_placed vE_playing vE_out vE_turn : Int32) (vE_madeBy : Nat → Int32) (vL_size : Int32) (vL_froms vL_tos vL_turns vL_outs vL_placeds : Nat → Int32) : va_W := [((ad 6), .inr (1, [.ref (ad 1), .ref (ad 7)])), ((ad 7), .inl ((cs 7), 121, .inl vM_owners)), ((ad 19), .inr (4, [.ref (ad 6), .ref (ad 20), .ref (ad 21), .int vE_placed, .int vE_playing, .int vE_out, .int vE_turn])), ((ad 20), .inl ((cs 20), 6, .inl vE_madeBy)), ((ad 22), .inr (0, [.ref (ad 23), .ref (ad 24), .ref (ad 25), .ref (ad 26), .ref (ad 27), .int vL_size])), ((ad 23), .inl ((cs 23), 300, .inl vL_froms)), ((ad 24), .inl ((cs 24), 300, .inl vL_tos)), ((ad 25), .inl ((cs 25), 300, .inl vL_turns)), ((ad 26), .inl ((cs 26), 300, .inl vL_outs)), ((ad 27), .inl ((cs 27), 300, .inl vL_placeds))]
abbrev ty_X0_takeBack (cs : Nat → ClassId) : List (ClassId × FieldType) := [((cs 7), .int), ((cs 20), .int), ((cs 23), .int), ((cs 24), .int), ((cs 25), .int), ((cs 26), .int), ((cs 27), .int)]
def wp_X0_takeBack (vM_owners : Nat → Int32) (vE_placed vE_playing vE_out vE_turn : Int32) (vE_madeBy : Nat → Int32) (vL_size : Int32) (vL_froms vL_tos vL_turns vL_outs vL_placeds : Nat → Int32) (Q : (Nat → Int32) → Int32 → Int32 → Int32 → (Nat → Int32) → Int32 → Prop) : Prop :=
 ((vL_size ≤ 0 → Q vM_owners vE_placed vE_out vE_turn vE_madeBy vL_size) ∧
 (¬ vL_size ≤ 0 → (vp_in (vL_size - (1 : Int32)) 300 ∧
 (vp_in (vL_size - (1 : Int32)) 300 ∧
 wp_X1_carry vM_owners (vL_tos (vL_size - (1 : Int32)).toNatClampNeg) (vL_froms (vL_size - (1 : Int32)).toNatClampNeg) (fun vM_owners_4 =>
 (vp_in (vL_size - (1 : Int32)) 300 ∧
 (vp_in (vL_size - (1 : Int32)) 300 ∧
 (vp_in (vL_size - (1 : Int32)) 300 ∧
 wp_X4_restore vE_placed vE_playing vE_out vE_turn vE_madeBy (vL_turns (vL_size - (1 : Int32)).toNatClampNeg) (vL_outs (vL_size - (1 : Int32)).toNatClampNeg) (vL_placeds (vL_size - (1 : Int32)).toNatClampNeg) (fun vE_placed_8 vE_out_9 vE_turn_10 vE_madeBy_11 =>
 Q vM_owners_4 vE_placed_8 vE_out_9 vE_turn_10 vE_madeBy_11 (vL_size - (1 : Int32)))))))))))
set_option maxHeartbeats 4000000 in
set_option maxRecDepth 100000 in
theorem b_X0_takeBack {p : Program} {e : Env} {s : State} {m : MethodId} {args : Array Value} {below : List Frame} {meth : Method} {c : Code} {QQ : State → Prop} {A : Nat → Prop} {ls : Array Slot} (l : Launch) (D : va_G) (ad : Nat → Nat) (cs : Nat → ClassId) (vM_owners : Nat → Int32) (vE_placed vE_playing vE_out vE_turn : Int32) (vE_madeBy : Nat → Int32) (vL_size : Int32) (vL_froms vL_tos vL_turns vL_outs vL_placeds : Nat → Int32) (Q : (Nat → Int32) → Int32 → Int32 → Int32 → (Nat → Int32) → Int32 → Prop) (hx : p.tables.exec = Jvm.exec) (hb : c.code = cX0_takeBack) (hml : c.maxLocals = 3) (hown : s.vm.findClass RX0 = some m.cls) (hts : ∀ w ∈ wsX0_takeBack, w.before args s = true) (hN : NW s) (hP : va_P D vwCl (cl_X0_takeBack ad cs vM_owners vE_placed vE_playing vE_out vE_turn vE_madeBy vL_size vL_froms vL_tos vL_turns vL_outs vL_placeds) s.heap) (hK : va_K D vwCl (ty_X0_takeBack cs) s) (hD : va_D A (cl_X0_takeBack ad cs vM_owners vE_placed vE_playing vE_out vE_turn vE_madeBy vL_size vL_froms vL_tos vL_turns vL_outs vL_placeds)) (hA : ∀ q : Nat, s.heap.size ≤ q → A q) (hl : lv_has ls 3 [(0, .ref (ad 22)), (1, .ref (ad 6)), (2, .ref (ad 19))])
  (hret : ∀ (o0 : Nat → Int32) (o1 : Int32) (o2 : Int32) (o3 : Int32) (o4 : Nat → Int32) (o5 : Int32) (H : Heap) (locs : List Loc) (pc : Nat) (ls : Array Slot), Q o0 o1 o2 o3 o4 o5 → va_P D vwCl (cl_X0_takeBack ad cs o0 o1 vE_playing o2 o3 o4 o5 vL_froms vL_tos vL_turns vL_outs vL_placeds) H → va_D A (cl_X0_takeBack ad cs o0 o1 vE_playing o2 o3 o4 o5 vL_froms vL_tos vL_turns vL_outs vL_placeds) → va_S A s.heap H locs → decode cX0_takeBack pc = .ok (.return_, 1) → W p l e rm_X0_takeBack s m args below meth c H locs 0 0 QQ (F0 m pc ls []))
  (hw : wp_X0_takeBack vM_owners vE_placed vE_playing vE_out vE_turn vE_madeBy vL_size vL_froms vL_tos vL_turns vL_outs vL_placeds Q) :
  W p l e rm_X0_takeBack s m args below meth c s.heap [] 0 0 QQ (F0 m 0 ls []) := by
  have S0 : CallFix p m c cX0_takeBack 3 s args wsX0_takeBack RX0 := ⟨hx, hb, hml, hown, hts⟩
  have inX0 : ∀ w ∈ u_ws RX0 TX0 6, w ∈ wsX0_takeBack := by decide +kernel
  have fl_15 := hts (.fieldLink RX0 15 "HopperCourt$Log" "tos" "[I") (by decide +kernel)
  have fl_18 := hts (.fieldLink RX0 18 "HopperCourt$Log" "turns" "[I") (by decide +kernel)
  have fl_21 := hts (.fieldLink RX0 21 "HopperCourt$Log" "outs" "[I") (by decide +kernel)
  have fl_24 := hts (.fieldLink RX0 24 "HopperCourt$Log" "placeds" "[I") (by decide +kernel)
  have fl_27 := hts (.fieldLink RX0 27 "HopperCourt$Log" "size" "I") (by decide +kernel)
  have fl_9 := hts (.fieldLink RX0 9 "HopperCourt$Log" "froms" "[I") (by decide +kernel)
  obtain ⟨H, hH⟩ : ∃ H : Heap, H = s.heap := ⟨_, rfl⟩
  have hS : va_S A s.heap H [] := by rw [hH]; exact va_S.rf
  rw [← hH] at hP ⊢
  unfold wp_X0_takeBack at hw
  refine lv_aload_n hx hb dX0_takeBack_0 rfl (lv_at hl 0 rfl) ?_
  refine va_get (D := D) (ci := 0) (v := .int vL_size) (C := RX0) (T := TX0) (N := 6) hx hb hts inX0 hown hK hP 4 rfl rfl 5 (by decide) fl_27 (fun _ h9 => h9) rfl dX0_takeBack_1 ?_
  refine lv_if_le (tgt := 70) hx hb dX0_takeBack_4 (by decide) (fun c_1 => ?_) (fun c_1 => ?_)
  · have hw := hw.1 c_1
    exact hret _ _ _ _ _ _ _ _ _ _ hw hP hD hS dX0_takeBack_70
  · have hw := hw.2 c_1
    refine lv_aload_n hx hb dX0_takeBack_7 rfl (lv_at hl 0 rfl) ?_
    refine lv_dup hx hb dX0_takeBack_8 rfl ?_
    refine va_get (D := D) (ci := 0) (v := .int vL_size) (C := RX0) (T := TX0) (N := 6) hx hb hts inX0 hown hK hP 4 rfl rfl 5 (by decide) fl_27 (fun _ h9 => h9) rfl dX0_takeBack_9 ?_
    refine lv_iconst (v := (1 : Int32)) hx hb dX0_takeBack_12 (by decide) ?_
    refine lv_isub hx hb dX0_takeBack_13 ?_
    refine va_put (D := D) (ci := 0) (v := .int (vL_size - (1 : Int32))) (ty := .int) (C := RX0) (T := TX0) (N := 6) hx hb hts inX0 tyX0 tyX0_ok nmX0 hown hK hP hD hS 4 rfl rfl 5 (by decide) fl_27 (fun _ h9 => h9) rfl (by decide +kernel) rfl rfl (Nat.le_of_ble_eq_true rfl) dX0_takeBack_14 (fun H locs hP hD hS => ?_)
    have hP : va_P D vwCl (cl_X0_takeBack ad cs vM_owners vE_placed vE_playing vE_out vE_turn vE_madeBy (vL_size - (1 : Int32)) vL_froms vL_tos vL_turns vL_outs vL_placeds) H := hP
    have hD : va_D A (cl_X0_takeBack ad cs vM_owners vE_placed vE_playing vE_out vE_turn vE_madeBy (vL_size - (1 : Int32)) vL_froms vL_tos vL_turns vL_outs vL_placeds) := hD
    refine lv_aload_n hx hb dX0_takeBack_17 rfl (lv_at hl 1 rfl) ?_
    refine lv_aload_n hx hb dX0_takeBack_18 rfl (lv_at hl 0 rfl) ?_
    refine va_get (D := D) (ci := 0) (v := .ref (ad 24)) (C := RX0) (T := TX0) (N := 6) hx hb hts inX0 hown hK hP 4 rfl rfl 1 (by decide) fl_15 (fun _ h9 => h9) rfl dX0_takeBack_19 ?_
    refine lv_aload_n hx hb dX0_takeBack_22 rfl (lv_at hl 0 rfl) ?_
    refine va_get (D := D) (ci := 0) (v := .int (vL_size - (1 : Int32))) (C := RX0) (T := TX0) (N := 6) hx hb hts inX0 hown hK hP 4 rfl rfl 5 (by decide) fl_27 (fun _ h9 => h9) rfl dX0_takeBack_23 ?_
    obtain ⟨h_2, hw⟩ := hw
    refine va_iald hx hb hK hP 6 3 rfl rfl h_2 dX0_takeBack_26 ?_
    refine lv_aload_n hx hb dX0_takeBack_27 rfl (lv_at hl 0 rfl) ?_
    refine va_get (D := D) (ci := 0) (v := .ref (ad 23)) (C := RX0) (T := TX0) (N := 6) hx hb hts inX0 hown hK hP 4 rfl rfl 0 (by decide) fl_9 (fun _ h9 => h9) rfl dX0_takeBack_28 ?_
    refine lv_aload_n hx hb dX0_takeBack_31 rfl (lv_at hl 0 rfl) ?_
    refine va_get (D := D) (ci := 0) (v := .int (vL_size - (1 : Int32))) (C := RX0) (T := TX0) (N := 6) hx hb hts inX0 hown hK hP 4 rfl rfl 5 (by decide) fl_27 (fun _ h9 => h9) rfl dX0_takeBack_32 ?_
    obtain ⟨h_3, hw⟩ := hw
    refine va_iald hx hb hK hP 5 2 rfl rfl h_3 dX0_takeBack_35 ?_
    refine pcVv (rest := []) (wr := [((ad 19), .inr (4, [.ref (ad 6), .ref (ad 20), .ref (ad 21), .int vE_placed, .int vE_playing, .int vE_out, .int vE_turn])), ((ad 20), .inl ((cs 20), 6, .inl vE_madeBy)), ((ad 22), .inr (0, [.ref (ad 23), .ref (ad 24), .ref (ad 25), .ref (ad 26), .ref (ad 27), .int (vL_size - (1 : Int32))])), ((ad 23), .inl ((cs 23), 300, .inl vL_froms)), ((ad 24), .inl ((cs 24), 300, .inl vL_tos)), ((ad 25), .inl ((cs 25), 300, .inl vL_turns)), ((ad 26), .inl ((cs 26), 300, .inl vL_outs)), ((ad 27), .inl ((cs 27), 300, .inl vL_placeds))]) (ci := 1) S0 (c_X1_carry l D ad cs H.size vM_owners (vL_tos (vL_size - (1 : Int32)).toNatClampNeg) (vL_froms (vL_size - (1 : Int32)).toNatClampNeg) _ hw) (cwV 2 hts gX0_takeBack_X1_carry rfl rfl rfl (by decide +kernel) ⟨Nat.le_of_ble_eq_true rfl, Nat.le_of_ble_eq_true rfl⟩) hN hK hP hD hS hA [0, 1] [2, 3, 4, 5, 6, 7, 8, 9] [0] ⟨rfl, rfl, rfl, rfl, rfl, by decide⟩ 0 rfl rfl rfl rfl hl.1 (Nat.le_of_ble_eq_true rfl) ⟨Nat.le_of_ble_eq_true rfl, Nat.le_of_ble_eq_true rfl⟩ dX0_takeBack_36 (fun u H locs hw hP hD hS => ?_)
    obtain ⟨vM_owners_4, rfl⟩ : ∃ z, z = u := ⟨_, rfl⟩
    have hP : va_P D vwCl (cl_X0_takeBack ad cs vM_owners_4 vE_placed vE_playing vE_out vE_turn vE_madeBy (vL_size - (1 : Int32)) vL_froms vL_tos vL_turns vL_outs vL_placeds) H := hP.sub [8, 9, 0, 1, 2, 3, 4, 5, 6, 7] rfl
    have hD : va_D A (cl_X0_takeBack ad cs vM_owners_4 vE_placed vE_playing vE_out vE_turn vE_madeBy (vL_size - (1 : Int32)) vL_froms vL_tos vL_turns vL_outs vL_placeds) := hD.sub [8, 9, 0, 1, 2, 3, 4, 5, 6, 7] (by decide) rfl
    refine lv_aload_n hx hb dX0_takeBack_39 rfl (lv_at hl 2 rfl) ?_
    refine lv_aload_n hx hb dX0_takeBack_40 rfl (lv_at hl 0 rfl) ?_
    refine va_get (D := D) (ci := 0) (v := .ref (ad 25)) (C := RX0) (T := TX0) (N := 6) hx hb hts inX0 hown hK hP 4 rfl rfl 2 (by decide) fl_18 (fun _ h9 => h9) rfl dX0_takeBack_41 ?_
    refine lv_aload_n hx hb dX0_takeBack_44 rfl (lv_at hl 0 rfl) ?_
    refine va_get (D := D) (ci := 0) (v := .int (vL_size - (1 : Int32))) (C := RX0) (T := TX0) (N := 6) hx hb hts inX0 hown hK hP 4 rfl rfl 5 (by decide) fl_27 (fun _ h9 => h9) rfl dX0_takeBack_45 ?_
    obtain ⟨h_5, hw⟩ := hw
    refine va_iald hx hb hK hP 7 4 rfl rfl h_5 dX0_takeBack_48 ?_
    refine lv_aload_n hx hb dX0_takeBack_49 rfl (lv_at hl 0 rfl) ?_
    refine va_get (D := D) (ci := 0) (v := .ref (ad 26)) (C := RX0) (T := TX0) (N := 6) hx hb hts inX0 hown hK hP 4 rfl rfl 3 (by decide) fl_21 (fun _ h9 => h9) rfl dX0_takeBack_50 ?_
    refine lv_aload_n hx hb dX0_takeBack_53 rfl (lv_at hl 0 rfl) ?_
    refine va_get (D := D) (ci := 0) (v := .int (vL_size - (1 : Int32))) (C := RX0) (T := TX0) (N := 6) hx hb hts inX0 hown hK hP 4 rfl rfl 5 (by decide) fl_27 (fun _ h9 => h9) rfl dX0_takeBack_54 ?_
    obtain ⟨h_6, hw⟩ := hw
    refine va_iald hx hb hK hP 8 5 rfl rfl h_6 dX0_takeBack_57 ?_
    refine lv_aload_n hx hb dX0_takeBack_58 rfl (lv_at hl 0 rfl) ?_
    refine va_get (D := D) (ci := 0) (v := .ref (ad 27)) (C := RX0) (T := TX0) (N := 6) hx hb hts inX0 hown hK hP 4 rfl rfl 4 (by decide) fl_24 (fun _ h9 => h9) rfl dX0_takeBack_59 ?_
    refine lv_aload_n hx hb dX0_takeBack_62 rfl (lv_at hl 0 rfl) ?_
    refine va_get (D := D) (ci := 0) (v := .int (vL_size - (1 : Int32))) (C := RX0) (T := TX0) (N := 6) hx hb hts inX0 hown hK hP 4 rfl rfl 5 (by decide) fl_27 (fun _ h9 => h9) rfl dX0_takeBack_63 ?_
    obtain ⟨h_7, hw⟩ := hw
    refine va_iald hx hb hK hP 9 6 rfl rfl h_7 dX0_takeBack_66 ?_
    refine pcVv (rest := []) (wr := [((ad 6), .inr (1, [.ref (ad 1), .ref (ad 7)])), ((ad 7), .inl ((cs 7), 121, .inl vM_owners_4)), ((ad 22), .inr (0, [.ref (ad 23), .ref (ad 24), .ref (ad 25), .ref (ad 26), .ref (ad 27), .int (vL_size - (1 : Int32))])), ((ad 23), .inl ((cs 23), 300, .inl vL_froms)), ((ad 24), .inl ((cs 24), 300, .inl vL_tos)), ((ad 25), .inl ((cs 25), 300, .inl vL_turns)), ((ad 26), .inl ((cs 26), 300, .inl vL_outs)), ((ad 27), .inl ((cs 27), 300, .inl vL_placeds))]) (ci := 4) S0 (c_X4_restore l D ad cs H.size vE_placed vE_playing vE_out vE_turn vE_madeBy (vL_turns (vL_size - (1 : Int32)).toNatClampNeg) (vL_outs (vL_size - (1 : Int32)).toNatClampNeg) (vL_placeds (vL_size - (1 : Int32)).toNatClampNeg) _ hw) (cwV 3 hts gX0_takeBack_X4_restore rfl rfl rfl (by decide +kernel) ⟨Nat.le_of_ble_eq_true rfl, Nat.le_of_ble_eq_true rfl⟩) hN hK hP hD hS hA [2, 3] [0, 1, 4, 5, 6, 7, 8, 9] [1] ⟨rfl, rfl, rfl, rfl, rfl, by decide⟩ 2 rfl rfl rfl rfl hl.1 (Nat.le_of_ble_eq_true rfl) ⟨Nat.le_of_ble_eq_true rfl, Nat.le_of_ble_eq_true rfl⟩ dX0_takeBack_67 (fun u H locs hw hP hD hS => ?_)
    obtain ⟨vE_placed_8, vE_out_9, vE_turn_10, vE_madeBy_11⟩ := u
    dsimp only at hw
    have hP : va_P D vwCl (cl_X0_takeBack ad cs vM_owners_4 vE_placed_8 vE_playing vE_out_9 vE_turn_10 vE_madeBy_11 (vL_size - (1 : Int32)) vL_froms vL_tos vL_turns vL_outs vL_placeds) H := hP.sub [0, 1, 8, 9, 2, 3, 4, 5, 6, 7] rfl
    have hD : va_D A (cl_X0_takeBack ad cs vM_owners_4 vE_placed_8 vE_playing vE_out_9 vE_turn_10 vE_madeBy_11 (vL_size - (1 : Int32)) vL_froms vL_tos vL_turns vL_outs vL_placeds) := hD.sub [0, 1, 8, 9, 2, 3, 4, 5, 6, 7] (by decide) rfl
    exact hret _ _ _ _ _ _ _ _ _ _ hw hP hD hS dX0_takeBack_70
set_option maxHeartbeats 4000000 in
set_option maxRecDepth 100000 in
theorem c_X0_takeBack (l : Launch) (D : va_G) (ad : Nat → Nat) (cs : Nat → ClassId) (sz : Nat) (vM_owners : Nat → Int32) (vE_placed vE_playing vE_out vE_turn : Int32) (vE_madeBy : Nat → Int32) (vL_size : Int32) (vL_froms vL_tos vL_turns vL_outs vL_placeds : Nat → Int32) (Q : (Nat → Int32) → Int32 → Int32 → Int32 → (Nat → Int32) → Int32 → Prop) (hw : wp_X0_takeBack vM_owners vE_placed vE_playing vE_out vE_turn vE_madeBy vL_size vL_froms vL_tos vL_turns vL_outs vL_placeds Q) :
  Met l yX0_takeBack wsX0_takeBack rm_X0_takeBack (va_Pc [.ref (ad 22), .ref (ad 6), .ref (ad 19)] (PX D (cl_X0_takeBack ad cs vM_owners vE_placed vE_playing vE_out vE_turn vE_madeBy vL_size vL_froms vL_tos vL_turns vL_outs vL_placeds) (ty_X0_takeBack cs) sz)) (va_Qv (fun (u : (Nat → Int32) × Int32 × Int32 × Int32 × (Nat → Int32) × Int32) => Q u.1 u.2.1 u.2.2.1 u.2.2.2.1 u.2.2.2.2.1 u.2.2.2.2.2) (fun (u : (Nat → Int32) × Int32 × Int32 × Int32 × (Nat → Int32) × Int32) t => va_P D vwCl (cl_X0_takeBack ad cs u.1 u.2.1 vE_playing u.2.2.1 u.2.2.2.1 u.2.2.2.2.1 u.2.2.2.2.2 vL_froms vL_tos vL_turns vL_outs vL_placeds) t.heap ∧ va_D (va_A (cl_X0_takeBack ad cs vM_owners vE_placed vE_playing vE_out vE_turn vE_madeBy vL_size vL_froms vL_tos vL_turns vL_outs vL_placeds) sz) (cl_X0_takeBack ad cs u.1 u.2.1 vE_playing u.2.2.1 u.2.2.2.1 u.2.2.2.2.1 u.2.2.2.2.2 vL_froms vL_tos vL_turns vL_outs vL_placeds)) (va_A (cl_X0_takeBack ad cs vM_owners vE_placed vE_playing vE_out vE_turn vE_madeBy vL_size vL_froms vL_tos vL_turns vL_outs vL_placeds) sz)) 0 0 (va_A (cl_X0_takeBack ad cs vM_owners vE_placed vE_playing vE_out vE_turn vE_madeBy vL_size vL_froms vL_tos vL_turns vL_outs vL_placeds) sz) := by
  refine Met.ofW (cc := cX0_takeBack) (maxL := 3) (ret := none) (by decide) rfl ?_
  intro p e s m args below meth c s₁ B hml hv
  obtain ⟨rfl, hsz, hP, hK, hD0, hN⟩ := hv
  subst hsz
  have hl := lv_entry ([.ref (ad 22), .ref (ad 6), .ref (ad 19)]) (n := 3) (Nat.le_of_ble_eq_true rfl)
  rw [lg_entry_eq]
  have hx := B.exec
  have hb := B.bytes
  have hr := B.returns
  exact b_X0_takeBack l D ad cs vM_owners vE_placed vE_playing vE_out vE_turn vE_madeBy vL_size vL_froms vL_tos vL_turns vL_outs vL_placeds Q hx hb hml (findClass_of_methodNamed B.named) (atoms_spec (ws := wsX0_takeBack) B.pre) hN hP hK hD0.self (fun q h => Or.inr h) hl (fun o0 o1 o2 o3 o4 o5 H locs pc ls hq hP hD hS hd => W.vret hx hb hr (fun t ht hW => ⟨⟨(o0, o1, o2, o3, o4, o5), rfl, hq, by rw [ht]; exact hP, hD⟩, hS.F ht⟩) hS.2.2 hd) hw
abbrev rm_X4_playerAtPlace : Room := { frames := 0, cells := 0, slots := 0, locals := 0 }
abbrev cl_X4_playerAtPlace (ad : Nat → Nat) (cs : Nat → ClassId) (vE_placed vE_playing vE_out vE_turn : Int32) (vE_places : Nat → Int32) : va_W := [((ad 19), .inr (4, [.ref (ad 6), .ref (ad 20), .ref (ad 21), .int vE_placed, .int vE_playing, .int vE_out, .int vE_turn])), ((ad 21), .inl ((cs 21), 6, .inl vE_places))]
abbrev ty_X4_playerAtPlace (cs : Nat → ClassId) : List (ClassId × FieldType) := [((cs 21), .int)]
def wp_X4_playerAtPlace (vE_placed vE_playing vE_out vE_turn : Int32) (vE_places : Nat → Int32) (x1 : Int32) (Q : Int32 → Prop) : Prop :=
 ((x1 < 0 → Q (-1 : Int32)) ∧
 (¬ x1 < 0 → ((vE_placed ≤ x1 → Q (-1 : Int32)) ∧
 (¬ vE_placed ≤ x1 → (((6 : Int32) ≤ x1 → Q (-1 : Int32)) ∧
 (¬ (6 : Int32) ≤ x1 → (vp_in x1 6 ∧
 Q (vE_places x1.toNatClampNeg))))))))
set_option maxHeartbeats 4000000 in
set_option maxRecDepth 100000 in
theorem b_X4_playerAtPlace {p : Program} {e : Env} {s : State} {m : MethodId} {args : Array Value} {below : List Frame} {meth : Method} {c : Code} {QQ : State → Prop} {A : Nat → Prop} {ls : Array Slot} (l : Launch) (D : va_G) (ad : Nat → Nat) (cs : Nat → ClassId) (vE_placed vE_playing vE_out vE_turn : Int32) (vE_places : Nat → Int32) (x1 : Int32) (Q : Int32 → Prop) (hx : p.tables.exec = Jvm.exec) (hb : c.code = cX4_playerAtPlace) (hml : c.maxLocals = 2) (hown : s.vm.findClass RX4 = some m.cls) (hts : ∀ w ∈ wsX4_playerAtPlace, w.before args s = true) (hN : NW s) (hP : va_P D vwCl (cl_X4_playerAtPlace ad cs vE_placed vE_playing vE_out vE_turn vE_places) s.heap) (hK : va_K D vwCl (ty_X4_playerAtPlace cs) s) (hD : va_D A (cl_X4_playerAtPlace ad cs vE_placed vE_playing vE_out vE_turn vE_places)) (hA : ∀ q : Nat, s.heap.size ≤ q → A q) (hl : lv_has ls 2 [(0, .ref (ad 19)), (1, .int x1)])
  (hret : ∀ (r : Int32) (pc : Nat) (ls : Array Slot), Q r → decode cX4_playerAtPlace pc = .ok (.ireturn, 1) → W p l e rm_X4_playerAtPlace s m args below meth c s.heap [] 0 0 QQ (F0 m pc ls [.int r]))
  (hw : wp_X4_playerAtPlace vE_placed vE_playing vE_out vE_turn vE_places x1 Q) :
  W p l e rm_X4_playerAtPlace s m args below meth c s.heap [] 0 0 QQ (F0 m 0 ls []) := by
  have S0 : CallFix p m c cX4_playerAtPlace 2 s args wsX4_playerAtPlace RX4 := ⟨hx, hb, hml, hown, hts⟩
  have inX4 : ∀ w ∈ u_ws RX4 TX4 7, w ∈ wsX4_playerAtPlace := by decide +kernel
  have fl_15 := hts (.fieldLink RX4 15 "HopperCourt$Seats" "places" "[I") (by decide +kernel)
  have fl_32 := hts (.fieldLink RX4 32 "HopperCourt$Seats" "placed" "I") (by decide +kernel)
  unfold wp_X4_playerAtPlace at hw
  refine lv_iload_n hx hb dX4_playerAtPlace_0 rfl (lv_at hl 1 rfl) ?_
  refine lv_if_lt (tgt := 27) hx hb dX4_playerAtPlace_1 (by decide) (fun c_1 => ?_) (fun c_1 => ?_)
  · have hw := hw.1 c_1
    refine lv_iconst (v := (-1 : Int32)) hx hb dX4_playerAtPlace_27 (by decide) ?_
    exact hret _ _ _ hw dX4_playerAtPlace_28
  · have hw := hw.2 c_1
    refine lv_iload_n hx hb dX4_playerAtPlace_4 rfl (lv_at hl 1 rfl) ?_
    refine lv_aload_n hx hb dX4_playerAtPlace_5 rfl (lv_at hl 0 rfl) ?_
    refine va_get (D := D) (ci := 4) (v := .int vE_placed) (C := RX4) (T := TX4) (N := 7) hx hb hts inX4 hown hK hP 0 rfl rfl 3 (by decide) fl_32 (fun _ h9 => h9) rfl dX4_playerAtPlace_6 ?_
    refine lv_icmp_ge (tgt := 27) hx hb dX4_playerAtPlace_9 (by decide) (fun c_2 => ?_) (fun c_2 => ?_)
    · have hw := hw.1 c_2
      refine lv_iconst (v := (-1 : Int32)) hx hb dX4_playerAtPlace_27 (by decide) ?_
      exact hret _ _ _ hw dX4_playerAtPlace_28
    · have hw := hw.2 c_2
      refine lv_iload_n hx hb dX4_playerAtPlace_12 rfl (lv_at hl 1 rfl) ?_
      refine lv_bipush (v := (6 : Int32)) hx hb dX4_playerAtPlace_13 (by decide) ?_
      refine lv_icmp_ge (tgt := 27) hx hb dX4_playerAtPlace_15 (by decide) (fun c_3 => ?_) (fun c_3 => ?_)
      · have hw := hw.1 c_3
        refine lv_iconst (v := (-1 : Int32)) hx hb dX4_playerAtPlace_27 (by decide) ?_
        exact hret _ _ _ hw dX4_playerAtPlace_28
      · have hw := hw.2 c_3
        refine lv_aload_n hx hb dX4_playerAtPlace_18 rfl (lv_at hl 0 rfl) ?_
        refine va_get (D := D) (ci := 4) (v := .ref (ad 21)) (C := RX4) (T := TX4) (N := 7) hx hb hts inX4 hown hK hP 0 rfl rfl 2 (by decide) fl_15 (fun _ h9 => h9) rfl dX4_playerAtPlace_19 ?_
        refine lv_iload_n hx hb dX4_playerAtPlace_22 rfl (lv_at hl 1 rfl) ?_
        obtain ⟨h_4, hw⟩ := hw
        refine va_iald hx hb hK hP 1 0 rfl rfl h_4 dX4_playerAtPlace_23 ?_
        refine lv_goto (tgt := 28) hx hb dX4_playerAtPlace_24 (by decide) ?_
        exact hret _ _ _ hw dX4_playerAtPlace_28
set_option maxHeartbeats 4000000 in
set_option maxRecDepth 100000 in
theorem c_X4_playerAtPlace (l : Launch) (D : va_G) (ad : Nat → Nat) (cs : Nat → ClassId) (sz : Nat) (vE_placed vE_playing vE_out vE_turn : Int32) (vE_places : Nat → Int32) (x1 : Int32) (Q : Int32 → Prop) (hw : wp_X4_playerAtPlace vE_placed vE_playing vE_out vE_turn vE_places x1 Q) :
  Met l yX4_playerAtPlace wsX4_playerAtPlace rm_X4_playerAtPlace (va_Pc [.ref (ad 19), .int x1] (PX D (cl_X4_playerAtPlace ad cs vE_placed vE_playing vE_out vE_turn vE_places) (ty_X4_playerAtPlace cs) sz)) (vp_Si Q) 0 0 (fun _ => False) := by
  refine Met.ofW (cc := cX4_playerAtPlace) (maxL := 2) (ret := (some .int)) (by decide) rfl ?_
  intro p e s m args below meth c s₁ B hml hv
  obtain ⟨rfl, hsz, hP, hK, hD0, hN⟩ := hv
  subst hsz
  have hl := lv_entry ([.ref (ad 19), .int x1]) (n := 2) (Nat.le_of_ble_eq_true rfl)
  rw [lg_entry_eq]
  have hx := B.exec
  have hb := B.bytes
  have hr := B.returns
  exact b_X4_playerAtPlace l D ad cs vE_placed vE_playing vE_out vE_turn vE_places x1 Q hx hb hml (findClass_of_methodNamed B.named) (atoms_spec (ws := wsX4_playerAtPlace) B.pre) hN hP hK hD0.self (fun q h => Or.inr h) hl (A := va_A (cl_X4_playerAtPlace ad cs vE_placed vE_playing vE_out vE_turn vE_places) s.heap.size) (fun r pc ls hq hd => W.iret (v := r) hx hb hr (fun t ht hW => ⟨r, rfl, hq, ht⟩) (fun _ h => nomatch h) hd) hw
