abbrev rm_L_begin : Room := { frames := 7, cells := 1, slots := 6, locals := 111 }
abbrev cl_L_begin (ad : Nat → Nat) (cs : Nat → ClassId) (vH_fill vH_patience : Int32) (vS_camps vM_owners : Nat → Int32) (vE_placed vE_playing vE_out vE_turn : Int32) (vE_madeBy : Nat → Int32) (vL_size : Int32) : va_W := [((ad 0), .inr (6, [.ref (ad 1), .ref (ad 6), .ref (ad 8), .ref (ad 12), .ref (ad 19), .ref (ad 22), .int vH_fill, .int vH_patience])), ((ad 1), .inr (5, [.ref (ad 2), .ref (ad 3), .ref (ad 4), .ref (ad 5)])), ((ad 4), .inl ((cs 4), 121, .inl vS_camps)), ((ad 6), .inr (1, [.ref (ad 1), .ref (ad 7)])), ((ad 7), .inl ((cs 7), 121, .inl vM_owners)), ((ad 19), .inr (4, [.ref (ad 6), .ref (ad 20), .ref (ad 21), .int vE_placed, .int vE_playing, .int vE_out, .int vE_turn])), ((ad 20), .inl ((cs 20), 6, .inl vE_madeBy)), ((ad 22), .inr (0, [.ref (ad 23), .ref (ad 24), .ref (ad 25), .ref (ad 26), .ref (ad 27), .int vL_size]))]
abbrev ty_L_begin (cs : Nat → ClassId) : List (ClassId × FieldType) := [((cs 4), .int), ((cs 7), .int), ((cs 20), .int)]
def wp_L_begin (vH_fill vH_patience : Int32) (vS_camps vM_owners : Nat → Int32) (vE_placed vE_playing vE_out vE_turn : Int32) (vE_madeBy : Nat → Int32) (vL_size x1 : Int32) (Q : Int32 → (Nat → Int32) → Int32 → Int32 → Int32 → Int32 → (Nat → Int32) → Int32 → Prop) : Prop :=
 wp_X6_begin vH_fill vH_patience vS_camps vM_owners vE_placed vE_playing vE_out vE_turn vE_madeBy vL_size x1 (fun vM_owners_1 vE_placed_2 vE_playing_3 vE_out_4 vE_turn_5 vE_madeBy_6 vL_size_7 =>
 Q (0 : Int32) vM_owners_1 vE_placed_2 vE_playing_3 vE_out_4 vE_turn_5 vE_madeBy_6 vL_size_7)
 (fun E_15 vM_owners_8 vE_placed_9 vE_playing_10 vE_out_11 vE_turn_12 vE_madeBy_13 vL_size_14 => (E_15 = "java/lang/IllegalArgumentException" ∧ Q (1 : Int32) vM_owners_8 vE_placed_9 vE_playing_10 vE_out_11 vE_turn_12 vE_madeBy_13 vL_size_14))
set_option maxHeartbeats 4000000 in
set_option maxRecDepth 100000 in
theorem b_L_begin {p : Program} {e : Env} {s : State} {m : MethodId} {args : Array Value} {below : List Frame} {meth : Method} {c : Code} {QQ : State → Prop} {A : Nat → Prop} {ls : Array Slot} (l : Launch) (D : va_G) (ad : Nat → Nat) (cs : Nat → ClassId) (vH_fill vH_patience : Int32) (vS_camps vM_owners : Nat → Int32) (vE_placed vE_playing vE_out vE_turn : Int32) (vE_madeBy : Nat → Int32) (vL_size x1 : Int32) (Q : Int32 → (Nat → Int32) → Int32 → Int32 → Int32 → Int32 → (Nat → Int32) → Int32 → Prop) (hx : p.tables.exec = Jvm.exec) (hb : c.code = cL_begin) (hml : c.maxLocals = 3) (hown : s.vm.findClass RL = some m.cls) (hts : ∀ w ∈ wsL_begin, w.before args s = true) (hN : NW s) (hst : l.stackTraces = false) (htab0 : c.exceptionTable.toList = [(⟨0, 5, 8, 13⟩ : ExceptionTableEntry)]) (hC9 : SXC s) (hX9 : SXT s) (hB9 : SB A s s.heap) (hP : va_P D vwCl (cl_L_begin ad cs vH_fill vH_patience vS_camps vM_owners vE_placed vE_playing vE_out vE_turn vE_madeBy vL_size) s.heap) (hK : va_K D vwCl (ty_L_begin cs) s) (hD : va_D A (cl_L_begin ad cs vH_fill vH_patience vS_camps vM_owners vE_placed vE_playing vE_out vE_turn vE_madeBy vL_size)) (hA : ∀ q : Nat, s.heap.size ≤ q → A q) (hl : lv_has ls 3 [(0, .ref (ad 0)), (1, .int x1)])
  (hret : ∀ (r : Int32) (o0 : Nat → Int32) (o1 : Int32) (o2 : Int32) (o3 : Int32) (o4 : Int32) (o5 : Nat → Int32) (o6 : Int32) (H : Heap) (locs : List Loc) (pc : Nat) (ls : Array Slot), Q r o0 o1 o2 o3 o4 o5 o6 → va_P D vwCl (cl_L_begin ad cs vH_fill vH_patience vS_camps o0 o1 o2 o3 o4 o5 o6) H → va_D A (cl_L_begin ad cs vH_fill vH_patience vS_camps o0 o1 o2 o3 o4 o5 o6) → va_S A s.heap H locs → decode cL_begin pc = .ok (.ireturn, 1) → W p l e rm_L_begin s m args below meth c H locs 1 6 QQ (F0 m pc ls [.int r]))
  (hw : wp_L_begin vH_fill vH_patience vS_camps vM_owners vE_placed vE_playing vE_out vE_turn vE_madeBy vL_size x1 Q) :
  W p l e rm_L_begin s m args below meth c s.heap [] 0 0 QQ (F0 m 0 ls []) := by
  have S0 : CallFix p m c cL_begin 3 s args wsL_begin RL := ⟨hx, hb, hml, hown, hts⟩
  have htab := htab0
  obtain ⟨H, hH⟩ : ∃ H : Heap, H = s.heap := ⟨_, rfl⟩
  have hS : va_S A s.heap H [] := by rw [hH]; exact va_S.rf
  rw [← hH] at hP ⊢
  unfold wp_L_begin at hw
  refine lv_aload_n hx hb dL_begin_0 rfl (lv_at hl 0 rfl) ?_
  refine lv_iload_n hx hb dL_begin_1 rfl (lv_at hl 1 rfl) ?_
  refine pxVv (rest := []) (wr := []) (ci := 6) S0 (c_X6_begin l hst D ad cs H.size vH_fill vH_patience vS_camps vM_owners vE_placed vE_playing vE_out vE_turn vE_madeBy vL_size x1 _ _ hw) (cwV 1 hts gL_begin_X6_begin rfl rfl rfl (by decide +kernel) ⟨Nat.le_of_ble_eq_true rfl, Nat.le_of_ble_eq_true rfl⟩) hN hC9 hX9 hB9 hK hP hD hS hA [0, 1, 2, 3, 4, 5, 6, 7] [] [0, 1, 2] ⟨rfl, rfl, rfl, rfl, rfl, by decide⟩ 0 rfl rfl rfl rfl hl.1 (Nat.le_of_ble_eq_true rfl) ⟨Nat.le_of_ble_eq_true rfl, Nat.le_of_ble_eq_true rfl⟩ dL_begin_2 (fun E ce q9_16 u H locs hw hP hD hS h7 h8 h9 => ?_) (fun u H locs hw hP hD hS => ?_)
  · skip
    obtain ⟨vM_owners_8, vE_placed_9, vE_playing_10, vE_out_11, vE_turn_12, vE_madeBy_13, vL_size_14⟩ := u
    try dsimp only at hw
    have hP : va_P D vwCl (cl_L_begin ad cs vH_fill vH_patience vS_camps vM_owners_8 vE_placed_9 vE_playing_10 vE_out_11 vE_turn_12 vE_madeBy_13 vL_size_14) H := hP.sub [0, 1, 2, 3, 4, 5, 6, 7] rfl
    have hD : va_D A (cl_L_begin ad cs vH_fill vH_patience vS_camps vM_owners_8 vE_placed_9 vE_playing_10 vE_out_11 vE_turn_12 vE_madeBy_13 vL_size_14) := hD.sub [0, 1, 2, 3, 4, 5, 6, 7] (by decide) rfl
    obtain ⟨hE, hw⟩ := hw
    subst hE
    refine vx_catch (name := jA) hown [] (⟨0, 5, 8, 13⟩ : ExceptionTableEntry) [] htab (fun z hz => by exact absurd hz List.not_mem_nil) (by decide) (by decide) (hts (.classLink RL 13 jA) (by decide +kernel)) (va_Nw.use rfl hC9.2.2.1) h7 h8 h9 ?_
    refine lv_astore_n (lv' := [(2, .ref q9_16), (0, .ref (ad 0)), (1, .int x1)]) hx hb dL_begin_8 rfl hl (by decide) rfl (fun ls hl => ?_)
    refine lv_iconst (v := (1 : Int32)) hx hb dL_begin_9 (by decide) ?_
    exact hret _ _ _ _ _ _ _ _ _ _ _ _ hw hP hD hS dL_begin_10
  obtain ⟨vM_owners_1, vE_placed_2, vE_playing_3, vE_out_4, vE_turn_5, vE_madeBy_6, vL_size_7⟩ := u
  try dsimp only at hw
  have hP : va_P D vwCl (cl_L_begin ad cs vH_fill vH_patience vS_camps vM_owners_1 vE_placed_2 vE_playing_3 vE_out_4 vE_turn_5 vE_madeBy_6 vL_size_7) H := hP.sub [0, 1, 2, 3, 4, 5, 6, 7] rfl
  have hD : va_D A (cl_L_begin ad cs vH_fill vH_patience vS_camps vM_owners_1 vE_placed_2 vE_playing_3 vE_out_4 vE_turn_5 vE_madeBy_6 vL_size_7) := hD.sub [0, 1, 2, 3, 4, 5, 6, 7] (by decide) rfl
  refine lv_goto (tgt := 11) hx hb dL_begin_5 (by decide) ?_
  refine lv_iconst (v := (0 : Int32)) hx hb dL_begin_11 (by decide) ?_
  exact hret _ _ _ _ _ _ _ _ _ _ _ _ hw hP hD hS dL_begin_12
set_option maxHeartbeats 4000000 in
set_option maxRecDepth 100000 in
theorem c_L_begin (l : Launch) (hst : l.stackTraces = false) (D : va_G) (ad : Nat → Nat) (cs : Nat → ClassId) (sz : Nat) (vH_fill vH_patience : Int32) (vS_camps vM_owners : Nat → Int32) (vE_placed vE_playing vE_out vE_turn : Int32) (vE_madeBy : Nat → Int32) (vL_size x1 : Int32) (Q : Int32 → (Nat → Int32) → Int32 → Int32 → Int32 → Int32 → (Nat → Int32) → Int32 → Prop) (hw : wp_L_begin vH_fill vH_patience vS_camps vM_owners vE_placed vE_playing vE_out vE_turn vE_madeBy vL_size x1 Q) :
  Met l yL_begin wsL_begin rm_L_begin (va_Pc [.ref (ad 0), .int x1] (PXE D (cl_L_begin ad cs vH_fill vH_patience vS_camps vM_owners vE_placed vE_playing vE_out vE_turn vE_madeBy vL_size) (ty_L_begin cs) sz)) (va_Qi (fun (r : Int32) (u : (Nat → Int32) × Int32 × Int32 × Int32 × Int32 × (Nat → Int32) × Int32) => Q r u.1 u.2.1 u.2.2.1 u.2.2.2.1 u.2.2.2.2.1 u.2.2.2.2.2.1 u.2.2.2.2.2.2) (fun (u : (Nat → Int32) × Int32 × Int32 × Int32 × Int32 × (Nat → Int32) × Int32) t => va_P D vwCl (cl_L_begin ad cs vH_fill vH_patience vS_camps u.1 u.2.1 u.2.2.1 u.2.2.2.1 u.2.2.2.2.1 u.2.2.2.2.2.1 u.2.2.2.2.2.2) t.heap ∧ va_D (va_A (cl_L_begin ad cs vH_fill vH_patience vS_camps vM_owners vE_placed vE_playing vE_out vE_turn vE_madeBy vL_size) sz) (cl_L_begin ad cs vH_fill vH_patience vS_camps u.1 u.2.1 u.2.2.1 u.2.2.2.1 u.2.2.2.2.1 u.2.2.2.2.2.1 u.2.2.2.2.2.2)) (va_A (cl_L_begin ad cs vH_fill vH_patience vS_camps vM_owners vE_placed vE_playing vE_out vE_turn vE_madeBy vL_size) sz)) 1 6 (va_A (cl_L_begin ad cs vH_fill vH_patience vS_camps vM_owners vE_placed vE_playing vE_out vE_turn vE_madeBy vL_size) sz) := by
  refine va_MetW (cc := cL_begin) (maxL := 3) (ret := (some .int)) (hh := [(0, 5, 8, 13)]) (by decide) rfl ?_
  intro p e s m args below meth c s₁ B hml hv
  obtain ⟨rfl, ⟨hsz, hP, hK, hD0, hN⟩, hC9, hX9, hB9⟩ := hv
  subst hsz
  have hl := lv_entry ([.ref (ad 0), .int x1]) (n := 3) (Nat.le_of_ble_eq_true rfl)
  rw [lg_entry_eq]
  have hx := B.exec
  have hb := B.bytes
  have hr := B.returns
  have hts := atoms_spec (ws := wsL_begin) B.pre
  have htab := vx_table (x := yL_begin) B (hts _ List.mem_cons_self)
  exact b_L_begin l D ad cs vH_fill vH_patience vS_camps vM_owners vE_placed vE_playing vE_out vE_turn vE_madeBy vL_size x1 Q hx hb hml (findClass_of_methodNamed B.named) hts hN hst htab hC9 hX9 hB9 hP hK hD0.self (fun q h => Or.inr h) hl (fun r o0 o1 o2 o3 o4 o5 o6 H locs pc ls hq hP hD hS hd => W.iret (v := r) hx hb hr (fun t ht hW => ⟨⟨r, (o0, o1, o2, o3, o4, o5, o6), rfl, hq, by rw [ht]; exact hP, hD⟩, hS.F ht⟩) hS.2.2 hd) hw
abbrev rm_L_setFill : Room := { frames := 7, cells := 1, slots := 6, locals := 112 }
abbrev cl_L_setFill (ad : Nat → Nat) (cs : Nat → ClassId) (vH_fill vH_patience : Int32) (vO : Nat → Int64) : va_W := [((ad 0), .inr (6, [.ref (ad 1), .ref (ad 6), .ref (ad 8), .ref (ad 12), .ref (ad 19), .ref (ad 22), .int vH_fill, .int vH_patience])), ((ad 48), .inl ((cs 48), 1, .inr (.inl vO)))]
abbrev ty_L_setFill (cs : Nat → ClassId) : List (ClassId × FieldType) := [((cs 48), .long)]
def wp_L_setFill (vH_fill vH_patience : Int32) (vO : Nat → Int64) (x1 : Int32) (Q : Int32 → Int32 → (Nat → Int64) → Prop) : Prop :=
 wp_X6_setFill vH_fill vH_patience x1 (fun r_1 vH_fill_2 =>
 (vp_in (0 : Int32) 1 ∧
 Q (0 : Int32) vH_fill_2 (vp_updL vO (0 : Int32).toNatClampNeg ((r_1).toInt64))))
 (fun E_4 vH_fill_3 => (E_4 = "java/lang/IllegalArgumentException" ∧ Q (1 : Int32) vH_fill_3 vO))
set_option maxHeartbeats 4000000 in
set_option maxRecDepth 100000 in
theorem b_L_setFill {p : Program} {e : Env} {s : State} {m : MethodId} {args : Array Value} {below : List Frame} {meth : Method} {c : Code} {QQ : State → Prop} {A : Nat → Prop} {ls : Array Slot} (l : Launch) (D : va_G) (ad : Nat → Nat) (cs : Nat → ClassId) (vH_fill vH_patience : Int32) (vO : Nat → Int64) (x1 : Int32) (Q : Int32 → Int32 → (Nat → Int64) → Prop) (hx : p.tables.exec = Jvm.exec) (hb : c.code = cL_setFill) (hml : c.maxLocals = 4) (hown : s.vm.findClass RL = some m.cls) (hts : ∀ w ∈ wsL_setFill, w.before args s = true) (hN : NW s) (hst : l.stackTraces = false) (htab0 : c.exceptionTable.toList = [(⟨0, 9, 12, 13⟩ : ExceptionTableEntry)]) (hC9 : SXC s) (hX9 : SXT s) (hB9 : SB A s s.heap) (hP : va_P D vwCl (cl_L_setFill ad cs vH_fill vH_patience vO) s.heap) (hK : va_K D vwCl (ty_L_setFill cs) s) (hD : va_D A (cl_L_setFill ad cs vH_fill vH_patience vO)) (hA : ∀ q : Nat, s.heap.size ≤ q → A q) (hl : lv_has ls 4 [(0, .ref (ad 0)), (1, .int x1), (2, .ref (ad 48))])
  (hret : ∀ (r : Int32) (o0 : Int32) (o1 : Nat → Int64) (H : Heap) (locs : List Loc) (pc : Nat) (ls : Array Slot), Q r o0 o1 → va_P D vwCl (cl_L_setFill ad cs o0 vH_patience o1) H → va_D A (cl_L_setFill ad cs o0 vH_patience o1) → va_S A s.heap H locs → decode cL_setFill pc = .ok (.ireturn, 1) → W p l e rm_L_setFill s m args below meth c H locs 1 6 QQ (F0 m pc ls [.int r]))
  (hw : wp_L_setFill vH_fill vH_patience vO x1 Q) :
  W p l e rm_L_setFill s m args below meth c s.heap [] 0 0 QQ (F0 m 0 ls []) := by
  have S0 : CallFix p m c cL_setFill 4 s args wsL_setFill RL := ⟨hx, hb, hml, hown, hts⟩
  have htab := htab0
  obtain ⟨H, hH⟩ : ∃ H : Heap, H = s.heap := ⟨_, rfl⟩
  have hS : va_S A s.heap H [] := by rw [hH]; exact va_S.rf
  rw [← hH] at hP ⊢
  unfold wp_L_setFill at hw
  refine lv_aload_n hx hb dL_setFill_0 rfl (lv_at hl 2 rfl) ?_
  refine lv_iconst (v := (0 : Int32)) hx hb dL_setFill_1 (by decide) ?_
  refine lv_aload_n hx hb dL_setFill_2 rfl (lv_at hl 0 rfl) ?_
  refine lv_iload_n hx hb dL_setFill_3 rfl (lv_at hl 1 rfl) ?_
  refine pxVi (rest := [.int (0 : Int32), .ref (ad 48)]) (wr := [((ad 48), .inl ((cs 48), 1, .inr (.inl vO)))]) (ci := 6) S0 (c_X6_setFill l hst D ad cs H.size vH_fill vH_patience x1 _ _ hw) (cwV 1 hts gL_setFill_X6_setFill rfl rfl rfl (by decide +kernel) ⟨Nat.le_of_ble_eq_true rfl, Nat.le_of_ble_eq_true rfl⟩) hN hC9 hX9 hB9 hK hP hD hS hA [0] [1] [] ⟨rfl, rfl, rfl, rfl, rfl, by decide⟩ 0 rfl rfl rfl rfl hl.1 (Nat.le_of_ble_eq_true rfl) ⟨Nat.le_of_ble_eq_true rfl, Nat.le_of_ble_eq_true rfl⟩ dL_setFill_4 (fun E ce q9_5 u H locs hw hP hD hS h7 h8 h9 => ?_) (fun r_1 u H locs hw hP hD hS => ?_)
  · skip
    obtain ⟨vH_fill_3, rfl⟩ : ∃ z, z = u := ⟨_, rfl⟩
    try dsimp only at hw
    have hP : va_P D vwCl (cl_L_setFill ad cs vH_fill_3 vH_patience vO) H := hP.sub [1, 0] rfl
    have hD : va_D A (cl_L_setFill ad cs vH_fill_3 vH_patience vO) := hD.sub [1, 0] (by decide) rfl
    obtain ⟨hE, hw⟩ := hw
    subst hE
    refine vx_catch (name := jA) hown [] (⟨0, 9, 12, 13⟩ : ExceptionTableEntry) [] htab (fun z hz => by exact absurd hz List.not_mem_nil) (by decide) (by decide) (hts (.classLink RL 13 jA) (by decide +kernel)) (va_Nw.use rfl hC9.2.2.1) h7 h8 h9 ?_
    refine lv_astore_n (lv' := [(3, .ref q9_5), (0, .ref (ad 0)), (1, .int x1), (2, .ref (ad 48))]) hx hb dL_setFill_12 rfl hl (by decide) rfl (fun ls hl => ?_)
    refine lv_iconst (v := (1 : Int32)) hx hb dL_setFill_13 (by decide) ?_
    exact hret _ _ _ _ _ _ _ hw hP hD hS dL_setFill_14
  obtain ⟨vH_fill_2, rfl⟩ : ∃ z, z = u := ⟨_, rfl⟩
  try dsimp only at hw
  have hP : va_P D vwCl (cl_L_setFill ad cs vH_fill_2 vH_patience vO) H := hP.sub [1, 0] rfl
  have hD : va_D A (cl_L_setFill ad cs vH_fill_2 vH_patience vO) := hD.sub [1, 0] (by decide) rfl
  refine lv_i2l (v := (r_1).toInt64) hx hb dL_setFill_7 rfl ?_
  obtain ⟨h_6, hw⟩ := hw
  refine va_last hx hb hK hP hD hS 1 0 rfl rfl h_6 dL_setFill_8 (fun H locs hP hD hS => ?_)
  have hP : va_P D vwCl (cl_L_setFill ad cs vH_fill_2 vH_patience (vp_updL vO (0 : Int32).toNatClampNeg ((r_1).toInt64))) H := hP
  have hD : va_D A (cl_L_setFill ad cs vH_fill_2 vH_patience (vp_updL vO (0 : Int32).toNatClampNeg ((r_1).toInt64))) := hD
  refine lv_goto (tgt := 15) hx hb dL_setFill_9 (by decide) ?_
  refine lv_iconst (v := (0 : Int32)) hx hb dL_setFill_15 (by decide) ?_
  exact hret _ _ _ _ _ _ _ hw hP hD hS dL_setFill_16
set_option maxHeartbeats 4000000 in
set_option maxRecDepth 100000 in
theorem c_L_setFill (l : Launch) (hst : l.stackTraces = false) (D : va_G) (ad : Nat → Nat) (cs : Nat → ClassId) (sz : Nat) (vH_fill vH_patience : Int32) (vO : Nat → Int64) (x1 : Int32) (Q : Int32 → Int32 → (Nat → Int64) → Prop) (hw : wp_L_setFill vH_fill vH_patience vO x1 Q) :
  Met l yL_setFill wsL_setFill rm_L_setFill (va_Pc [.ref (ad 0), .int x1, .ref (ad 48)] (PXE D (cl_L_setFill ad cs vH_fill vH_patience vO) (ty_L_setFill cs) sz)) (va_Qi (fun (r : Int32) (u : Int32 × (Nat → Int64)) => Q r u.1 u.2) (fun (u : Int32 × (Nat → Int64)) t => va_P D vwCl (cl_L_setFill ad cs u.1 vH_patience u.2) t.heap ∧ va_D (va_A (cl_L_setFill ad cs vH_fill vH_patience vO) sz) (cl_L_setFill ad cs u.1 vH_patience u.2)) (va_A (cl_L_setFill ad cs vH_fill vH_patience vO) sz)) 1 6 (va_A (cl_L_setFill ad cs vH_fill vH_patience vO) sz) := by
  refine va_MetW (cc := cL_setFill) (maxL := 4) (ret := (some .int)) (hh := [(0, 9, 12, 13)]) (by decide) rfl ?_
  intro p e s m args below meth c s₁ B hml hv
  obtain ⟨rfl, ⟨hsz, hP, hK, hD0, hN⟩, hC9, hX9, hB9⟩ := hv
  subst hsz
  have hl := lv_entry ([.ref (ad 0), .int x1, .ref (ad 48)]) (n := 4) (Nat.le_of_ble_eq_true rfl)
  rw [lg_entry_eq]
  have hx := B.exec
  have hb := B.bytes
  have hr := B.returns
  have hts := atoms_spec (ws := wsL_setFill) B.pre
  have htab := vx_table (x := yL_setFill) B (hts _ List.mem_cons_self)
  exact b_L_setFill l D ad cs vH_fill vH_patience vO x1 Q hx hb hml (findClass_of_methodNamed B.named) hts hN hst htab hC9 hX9 hB9 hP hK hD0.self (fun q h => Or.inr h) hl (fun r o0 o1 H locs pc ls hq hP hD hS hd => W.iret (v := r) hx hb hr (fun t ht hW => ⟨⟨r, (o0, o1), rfl, hq, by rw [ht]; exact hP, hD⟩, hS.F ht⟩) hS.2.2 hd) hw
abbrev rm_L_setPatience : Room := { frames := 7, cells := 1, slots := 6, locals := 112 }
abbrev cl_L_setPatience (ad : Nat → Nat) (cs : Nat → ClassId) (vH_fill vH_patience : Int32) (vO : Nat → Int64) : va_W := [((ad 0), .inr (6, [.ref (ad 1), .ref (ad 6), .ref (ad 8), .ref (ad 12), .ref (ad 19), .ref (ad 22), .int vH_fill, .int vH_patience])), ((ad 48), .inl ((cs 48), 1, .inr (.inl vO)))]
abbrev ty_L_setPatience (cs : Nat → ClassId) : List (ClassId × FieldType) := [((cs 48), .long)]
def wp_L_setPatience (vH_fill vH_patience : Int32) (vO : Nat → Int64) (x1 : Int32) (Q : Int32 → Int32 → (Nat → Int64) → Prop) : Prop :=
 wp_X6_setPatience vH_fill vH_patience x1 (fun r_1 vH_patience_2 =>
 (vp_in (0 : Int32) 1 ∧
 Q (0 : Int32) vH_patience_2 (vp_updL vO (0 : Int32).toNatClampNeg ((r_1).toInt64))))
 (fun E_4 vH_patience_3 => (E_4 = "java/lang/IllegalArgumentException" ∧ Q (1 : Int32) vH_patience_3 vO))
set_option maxHeartbeats 4000000 in
set_option maxRecDepth 100000 in
theorem b_L_setPatience {p : Program} {e : Env} {s : State} {m : MethodId} {args : Array Value} {below : List Frame} {meth : Method} {c : Code} {QQ : State → Prop} {A : Nat → Prop} {ls : Array Slot} (l : Launch) (D : va_G) (ad : Nat → Nat) (cs : Nat → ClassId) (vH_fill vH_patience : Int32) (vO : Nat → Int64) (x1 : Int32) (Q : Int32 → Int32 → (Nat → Int64) → Prop) (hx : p.tables.exec = Jvm.exec) (hb : c.code = cL_setPatience) (hml : c.maxLocals = 4) (hown : s.vm.findClass RL = some m.cls) (hts : ∀ w ∈ wsL_setPatience, w.before args s = true) (hN : NW s) (hst : l.stackTraces = false) (htab0 : c.exceptionTable.toList = [(⟨0, 9, 12, 13⟩ : ExceptionTableEntry)]) (hC9 : SXC s) (hX9 : SXT s) (hB9 : SB A s s.heap) (hP : va_P D vwCl (cl_L_setPatience ad cs vH_fill vH_patience vO) s.heap) (hK : va_K D vwCl (ty_L_setPatience cs) s) (hD : va_D A (cl_L_setPatience ad cs vH_fill vH_patience vO)) (hA : ∀ q : Nat, s.heap.size ≤ q → A q) (hl : lv_has ls 4 [(0, .ref (ad 0)), (1, .int x1), (2, .ref (ad 48))])
  (hret : ∀ (r : Int32) (o0 : Int32) (o1 : Nat → Int64) (H : Heap) (locs : List Loc) (pc : Nat) (ls : Array Slot), Q r o0 o1 → va_P D vwCl (cl_L_setPatience ad cs vH_fill o0 o1) H → va_D A (cl_L_setPatience ad cs vH_fill o0 o1) → va_S A s.heap H locs → decode cL_setPatience pc = .ok (.ireturn, 1) → W p l e rm_L_setPatience s m args below meth c H locs 1 6 QQ (F0 m pc ls [.int r]))
  (hw : wp_L_setPatience vH_fill vH_patience vO x1 Q) :
  W p l e rm_L_setPatience s m args below meth c s.heap [] 0 0 QQ (F0 m 0 ls []) := by
  have S0 : CallFix p m c cL_setPatience 4 s args wsL_setPatience RL := ⟨hx, hb, hml, hown, hts⟩
  have htab := htab0
  obtain ⟨H, hH⟩ : ∃ H : Heap, H = s.heap := ⟨_, rfl⟩
  have hS : va_S A s.heap H [] := by rw [hH]; exact va_S.rf
  rw [← hH] at hP ⊢
  unfold wp_L_setPatience at hw
  refine lv_aload_n hx hb dL_setPatience_0 rfl (lv_at hl 2 rfl) ?_
  refine lv_iconst (v := (0 : Int32)) hx hb dL_setPatience_1 (by decide) ?_
  refine lv_aload_n hx hb dL_setPatience_2 rfl (lv_at hl 0 rfl) ?_
  refine lv_iload_n hx hb dL_setPatience_3 rfl (lv_at hl 1 rfl) ?_
  refine pxVi (rest := [.int (0 : Int32), .ref (ad 48)]) (wr := [((ad 48), .inl ((cs 48), 1, .inr (.inl vO)))]) (ci := 6) S0 (c_X6_setPatience l hst D ad cs H.size vH_fill vH_patience x1 _ _ hw) (cwV 1 hts gL_setPatience_X6_setPatience rfl rfl rfl (by decide +kernel) ⟨Nat.le_of_ble_eq_true rfl, Nat.le_of_ble_eq_true rfl⟩) hN hC9 hX9 hB9 hK hP hD hS hA [0] [1] [] ⟨rfl, rfl, rfl, rfl, rfl, by decide⟩ 0 rfl rfl rfl rfl hl.1 (Nat.le_of_ble_eq_true rfl) ⟨Nat.le_of_ble_eq_true rfl, Nat.le_of_ble_eq_true rfl⟩ dL_setPatience_4 (fun E ce q9_5 u H locs hw hP hD hS h7 h8 h9 => ?_) (fun r_1 u H locs hw hP hD hS => ?_)
  · skip
    obtain ⟨vH_patience_3, rfl⟩ : ∃ z, z = u := ⟨_, rfl⟩
    try dsimp only at hw
    have hP : va_P D vwCl (cl_L_setPatience ad cs vH_fill vH_patience_3 vO) H := hP.sub [1, 0] rfl
    have hD : va_D A (cl_L_setPatience ad cs vH_fill vH_patience_3 vO) := hD.sub [1, 0] (by decide) rfl
    obtain ⟨hE, hw⟩ := hw
    subst hE
    refine vx_catch (name := jA) hown [] (⟨0, 9, 12, 13⟩ : ExceptionTableEntry) [] htab (fun z hz => by exact absurd hz List.not_mem_nil) (by decide) (by decide) (hts (.classLink RL 13 jA) (by decide +kernel)) (va_Nw.use rfl hC9.2.2.1) h7 h8 h9 ?_
    refine lv_astore_n (lv' := [(3, .ref q9_5), (0, .ref (ad 0)), (1, .int x1), (2, .ref (ad 48))]) hx hb dL_setPatience_12 rfl hl (by decide) rfl (fun ls hl => ?_)
    refine lv_iconst (v := (1 : Int32)) hx hb dL_setPatience_13 (by decide) ?_
    exact hret _ _ _ _ _ _ _ hw hP hD hS dL_setPatience_14
  obtain ⟨vH_patience_2, rfl⟩ : ∃ z, z = u := ⟨_, rfl⟩
  try dsimp only at hw
  have hP : va_P D vwCl (cl_L_setPatience ad cs vH_fill vH_patience_2 vO) H := hP.sub [1, 0] rfl
  have hD : va_D A (cl_L_setPatience ad cs vH_fill vH_patience_2 vO) := hD.sub [1, 0] (by decide) rfl
  refine lv_i2l (v := (r_1).toInt64) hx hb dL_setPatience_7 rfl ?_
  obtain ⟨h_6, hw⟩ := hw
  refine va_last hx hb hK hP hD hS 1 0 rfl rfl h_6 dL_setPatience_8 (fun H locs hP hD hS => ?_)
  have hP : va_P D vwCl (cl_L_setPatience ad cs vH_fill vH_patience_2 (vp_updL vO (0 : Int32).toNatClampNeg ((r_1).toInt64))) H := hP
  have hD : va_D A (cl_L_setPatience ad cs vH_fill vH_patience_2 (vp_updL vO (0 : Int32).toNatClampNeg ((r_1).toInt64))) := hD
  refine lv_goto (tgt := 15) hx hb dL_setPatience_9 (by decide) ?_
  refine lv_iconst (v := (0 : Int32)) hx hb dL_setPatience_15 (by decide) ?_
  exact hret _ _ _ _ _ _ _ hw hP hD hS dL_setPatience_16
set_option maxHeartbeats 4000000 in
set_option maxRecDepth 100000 in
theorem c_L_setPatience (l : Launch) (hst : l.stackTraces = false) (D : va_G) (ad : Nat → Nat) (cs : Nat → ClassId) (sz : Nat) (vH_fill vH_patience : Int32) (vO : Nat → Int64) (x1 : Int32) (Q : Int32 → Int32 → (Nat → Int64) → Prop) (hw : wp_L_setPatience vH_fill vH_patience vO x1 Q) :
  Met l yL_setPatience wsL_setPatience rm_L_setPatience (va_Pc [.ref (ad 0), .int x1, .ref (ad 48)] (PXE D (cl_L_setPatience ad cs vH_fill vH_patience vO) (ty_L_setPatience cs) sz)) (va_Qi (fun (r : Int32) (u : Int32 × (Nat → Int64)) => Q r u.1 u.2) (fun (u : Int32 × (Nat → Int64)) t => va_P D vwCl (cl_L_setPatience ad cs vH_fill u.1 u.2) t.heap ∧ va_D (va_A (cl_L_setPatience ad cs vH_fill vH_patience vO) sz) (cl_L_setPatience ad cs vH_fill u.1 u.2)) (va_A (cl_L_setPatience ad cs vH_fill vH_patience vO) sz)) 1 6 (va_A (cl_L_setPatience ad cs vH_fill vH_patience vO) sz) := by
  refine va_MetW (cc := cL_setPatience) (maxL := 4) (ret := (some .int)) (hh := [(0, 9, 12, 13)]) (by decide) rfl ?_
  intro p e s m args below meth c s₁ B hml hv
  obtain ⟨rfl, ⟨hsz, hP, hK, hD0, hN⟩, hC9, hX9, hB9⟩ := hv
  subst hsz
  have hl := lv_entry ([.ref (ad 0), .int x1, .ref (ad 48)]) (n := 4) (Nat.le_of_ble_eq_true rfl)
  rw [lg_entry_eq]
  have hx := B.exec
  have hb := B.bytes
  have hr := B.returns
  have hts := atoms_spec (ws := wsL_setPatience) B.pre
  have htab := vx_table (x := yL_setPatience) B (hts _ List.mem_cons_self)
  exact b_L_setPatience l D ad cs vH_fill vH_patience vO x1 Q hx hb hml (findClass_of_methodNamed B.named) hts hN hst htab hC9 hX9 hB9 hP hK hD0.self (fun q h => Or.inr h) hl (fun r o0 o1 H locs pc ls hq hP hD hS hd => W.iret (v := r) hx hb hr (fun t ht hW => ⟨⟨r, (o0, o1), rfl, hq, by rw [ht]; exact hP, hD⟩, hS.F ht⟩) hS.2.2 hd) hw
abbrev rm_L_move : Room := { frames := 7, cells := 1, slots := 6, locals := 141 }
abbrev cl_L_move (ad : Nat → Nat) (cs : Nat → ClassId) (vH_fill vH_patience : Int32) (vS_camps vS_nexts vM_owners vR_hopsToEnd vR_level vR_queue : Nat → Int32) (vE_placed vE_playing vE_out vE_turn : Int32) (vE_madeBy vE_places : Nat → Int32) (vL_size : Int32) (vL_froms vL_tos vL_turns vL_outs vL_placeds : Nat → Int32) (vO : Nat → Int64) : va_W := [((ad 0), .inr (6, [.ref (ad 1), .ref (ad 6), .ref (ad 8), .ref (ad 12), .ref (ad 19), .ref (ad 22), .int vH_fill, .int vH_patience])), ((ad 1), .inr (5, [.ref (ad 2), .ref (ad 3), .ref (ad 4), .ref (ad 5)])), ((ad 4), .inl ((cs 4), 121, .inl vS_camps)), ((ad 5), .inl ((cs 5), 726, .inl vS_nexts)), ((ad 6), .inr (1, [.ref (ad 1), .ref (ad 7)])), ((ad 7), .inl ((cs 7), 121, .inl vM_owners)), ((ad 8), .inr (3, [.ref (ad 1), .ref (ad 6), .ref (ad 9), .ref (ad 10), .ref (ad 11)])), ((ad 9), .inl ((cs 9), 121, .inl vR_hopsToEnd)), ((ad 10), .inl ((cs 10), 121, .inl vR_level)), ((ad 11), .inl ((cs 11), 121, .inl vR_queue)), ((ad 19), .inr (4, [.ref (ad 6), .ref (ad 20), .ref (ad 21), .int vE_placed, .int vE_playing, .int vE_out, .int vE_turn])), ((ad 20), .inl ((cs 20), 6, .inl vE_madeBy)), ((ad 21), .inl ((cs 21), 6, .inl vE_places)), ((ad 22), .inr (0, [.ref (ad 23), .ref (ad 24), .ref (ad 25), .ref (ad 26), .ref (ad 27), .int vL_size])), ((ad 23), .inl ((cs 23), 300, .inl vL_froms)), ((ad 24), .inl ((cs 24), 300, .inl vL_tos)), ((ad 25), .inl ((cs 25), 300, .inl vL_turns)), ((ad 26), .inl ((cs 26), 300, .inl vL_outs)), ((ad 27), .inl ((cs 27), 300, .inl vL_placeds)), ((ad 48), .inl ((cs 48), 1, .inr (.inl vO)))]
abbrev ty_L_move (cs : Nat → ClassId) : List (ClassId × FieldType) := [((cs 4), .int), ((cs 5), .int), ((cs 7), .int), ((cs 9), .int), ((cs 10), .int), ((cs 11), .int), ((cs 20), .int), ((cs 21), .int), ((cs 23), .int), ((cs 24), .int), ((cs 25), .int), ((cs 26), .int), ((cs 27), .int), ((cs 48), .long)]
def wp_L_move (vH_fill vH_patience : Int32) (vS_camps vS_nexts vM_owners vR_hopsToEnd vR_level vR_queue : Nat → Int32) (vE_placed vE_playing vE_out vE_turn : Int32) (vE_madeBy vE_places : Nat → Int32) (vL_size : Int32) (vL_froms vL_tos vL_turns vL_outs vL_placeds : Nat → Int32) (vO : Nat → Int64) (x1 x2 : Int32) (Q : Int32 → (Nat → Int32) → (Nat → Int32) → (Nat → Int32) → (Nat → Int32) → Int32 → Int32 → Int32 → (Nat → Int32) → (Nat → Int32) → Int32 → (Nat → Int32) → (Nat → Int32) → (Nat → Int32) → (Nat → Int32) → (Nat → Int32) → (Nat → Int64) → Prop) : Prop :=
 wp_X6_move vH_fill vH_patience vS_camps vS_nexts vM_owners vR_hopsToEnd vR_level vR_queue vE_placed vE_playing vE_out vE_turn vE_madeBy vE_places vL_size vL_froms vL_tos vL_turns vL_outs vL_placeds x1 x2 (fun r_1 vM_owners_2 vR_hopsToEnd_3 vR_level_4 vR_queue_5 vE_placed_6 vE_out_7 vE_turn_8 vE_madeBy_9 vE_places_10 vL_size_11 vL_froms_12 vL_tos_13 vL_turns_14 vL_outs_15 vL_placeds_16 =>
 (vp_in (0 : Int32) 1 ∧
 Q (0 : Int32) vM_owners_2 vR_hopsToEnd_3 vR_level_4 vR_queue_5 vE_placed_6 vE_out_7 vE_turn_8 vE_madeBy_9 vE_places_10 vL_size_11 vL_froms_12 vL_tos_13 vL_turns_14 vL_outs_15 vL_placeds_16 (vp_updL vO (0 : Int32).toNatClampNeg ((r_1).toInt64))))
 (fun E_32 vM_owners_17 vR_hopsToEnd_18 vR_level_19 vR_queue_20 vE_placed_21 vE_out_22 vE_turn_23 vE_madeBy_24 vE_places_25 vL_size_26 vL_froms_27 vL_tos_28 vL_turns_29 vL_outs_30 vL_placeds_31 => (E_32 = "java/lang/IndexOutOfBoundsException" ∧ Q (1 : Int32) vM_owners_17 vR_hopsToEnd_18 vR_level_19 vR_queue_20 vE_placed_21 vE_out_22 vE_turn_23 vE_madeBy_24 vE_places_25 vL_size_26 vL_froms_27 vL_tos_28 vL_turns_29 vL_outs_30 vL_placeds_31 vO) ∨
 (E_32 = "java/lang/IllegalStateException" ∧ Q (2 : Int32) vM_owners_17 vR_hopsToEnd_18 vR_level_19 vR_queue_20 vE_placed_21 vE_out_22 vE_turn_23 vE_madeBy_24 vE_places_25 vL_size_26 vL_froms_27 vL_tos_28 vL_turns_29 vL_outs_30 vL_placeds_31 vO) ∨
 (E_32 = "java/lang/IllegalArgumentException" ∧ Q (3 : Int32) vM_owners_17 vR_hopsToEnd_18 vR_level_19 vR_queue_20 vE_placed_21 vE_out_22 vE_turn_23 vE_madeBy_24 vE_places_25 vL_size_26 vL_froms_27 vL_tos_28 vL_turns_29 vL_outs_30 vL_placeds_31 vO))
set_option maxHeartbeats 4000000 in
set_option maxRecDepth 100000 in
theorem b_L_move {p : Program} {e : Env} {s : State} {m : MethodId} {args : Array Value} {below : List Frame} {meth : Method} {c : Code} {QQ : State → Prop} {A : Nat → Prop} {ls : Array Slot} (l : Launch) (D : va_G) (ad : Nat → Nat) (cs : Nat → ClassId) (vH_fill vH_patience : Int32) (vS_camps vS_nexts vM_owners vR_hopsToEnd vR_level vR_queue : Nat → Int32) (vE_placed vE_playing vE_out vE_turn : Int32) (vE_madeBy vE_places : Nat → Int32) (vL_size : Int32) (vL_froms vL_tos vL_turns vL_outs vL_placeds : Nat → Int32) (vO : Nat → Int64) (x1 x2 : Int32) (Q : Int32 → (Nat → Int32) → (Nat → Int32) → (Nat → Int32) → (Nat → Int32) → Int32 → Int32 → Int32 → (Nat → Int32) → (Nat → Int32) → Int32 → (Nat → Int32) → (Nat → Int32) → (Nat → Int32) → (Nat → Int32) → (Nat → Int32) → (Nat → Int64) → Prop) (hx : p.tables.exec = Jvm.exec) (hb : c.code = cL_move) (hml : c.maxLocals = 5) (hown : s.vm.findClass RL = some m.cls) (hts : ∀ w ∈ wsL_move, w.before args s = true) (hN : NW s) (hst : l.stackTraces = false) (htab0 : c.exceptionTable.toList = [(⟨0, 10, 13, 26⟩ : ExceptionTableEntry), (⟨0, 10, 17, 28⟩ : ExceptionTableEntry), (⟨0, 10, 21, 13⟩ : ExceptionTableEntry)]) (hC9 : SXC s) (hX9 : SXT s) (hB9 : SB A s s.heap) (hP : va_P D vwCl (cl_L_move ad cs vH_fill vH_patience vS_camps vS_nexts vM_owners vR_hopsToEnd vR_level vR_queue vE_placed vE_playing vE_out vE_turn vE_madeBy vE_places vL_size vL_froms vL_tos vL_turns vL_outs vL_placeds vO) s.heap) (hK : va_K D vwCl (ty_L_move cs) s) (hD : va_D A (cl_L_move ad cs vH_fill vH_patience vS_camps vS_nexts vM_owners vR_hopsToEnd vR_level vR_queue vE_placed vE_playing vE_out vE_turn vE_madeBy vE_places vL_size vL_froms vL_tos vL_turns vL_outs vL_placeds vO)) (hA : ∀ q : Nat, s.heap.size ≤ q → A q) (hl : lv_has ls 5 [(0, .ref (ad 0)), (1, .int x1), (2, .int x2), (3, .ref (ad 48))])
  (hret : ∀ (r : Int32) (o0 : Nat → Int32) (o1 : Nat → Int32) (o2 : Nat → Int32) (o3 : Nat → Int32) (o4 : Int32) (o5 : Int32) (o6 : Int32) (o7 : Nat → Int32) (o8 : Nat → Int32) (o9 : Int32) (o10 : Nat → Int32) (o11 : Nat → Int32) (o12 : Nat → Int32) (o13 : Nat → Int32) (o14 : Nat → Int32) (o15 : Nat → Int64) (H : Heap) (locs : List Loc) (pc : Nat) (ls : Array Slot), Q r o0 o1 o2 o3 o4 o5 o6 o7 o8 o9 o10 o11 o12 o13 o14 o15 → va_P D vwCl (cl_L_move ad cs vH_fill vH_patience vS_camps vS_nexts o0 o1 o2 o3 o4 vE_playing o5 o6 o7 o8 o9 o10 o11 o12 o13 o14 o15) H → va_D A (cl_L_move ad cs vH_fill vH_patience vS_camps vS_nexts o0 o1 o2 o3 o4 vE_playing o5 o6 o7 o8 o9 o10 o11 o12 o13 o14 o15) → va_S A s.heap H locs → decode cL_move pc = .ok (.ireturn, 1) → W p l e rm_L_move s m args below meth c H locs 1 6 QQ (F0 m pc ls [.int r]))
  (hw : wp_L_move vH_fill vH_patience vS_camps vS_nexts vM_owners vR_hopsToEnd vR_level vR_queue vE_placed vE_playing vE_out vE_turn vE_madeBy vE_places vL_size vL_froms vL_tos vL_turns vL_outs vL_placeds vO x1 x2 Q) :
  W p l e rm_L_move s m args below meth c s.heap [] 0 0 QQ (F0 m 0 ls []) := by
  have S0 : CallFix p m c cL_move 5 s args wsL_move RL := ⟨hx, hb, hml, hown, hts⟩
  have htab := htab0
  obtain ⟨H, hH⟩ : ∃ H : Heap, H = s.heap := ⟨_, rfl⟩
  have hS : va_S A s.heap H [] := by rw [hH]; exact va_S.rf
  rw [← hH] at hP ⊢
  unfold wp_L_move at hw
  refine lv_aload_n hx hb dL_move_0 rfl (lv_at hl 3 rfl) ?_
  refine lv_iconst (v := (0 : Int32)) hx hb dL_move_1 (by decide) ?_
  refine lv_aload_n hx hb dL_move_2 rfl (lv_at hl 0 rfl) ?_
  refine lv_iload_n hx hb dL_move_3 rfl (lv_at hl 1 rfl) ?_
  refine lv_iload_n hx hb dL_move_4 rfl (lv_at hl 2 rfl) ?_
  refine pxVi (rest := [.int (0 : Int32), .ref (ad 48)]) (wr := [((ad 48), .inl ((cs 48), 1, .inr (.inl vO)))]) (ci := 6) S0 (c_X6_move l hst D ad cs H.size vH_fill vH_patience vS_camps vS_nexts vM_owners vR_hopsToEnd vR_level vR_queue vE_placed vE_playing vE_out vE_turn vE_madeBy vE_places vL_size vL_froms vL_tos vL_turns vL_outs vL_placeds x1 x2 _ _ hw) (cwV 2 hts gL_move_X6_move rfl rfl rfl (by decide +kernel) ⟨Nat.le_of_ble_eq_true rfl, Nat.le_of_ble_eq_true rfl⟩) hN hC9 hX9 hB9 hK hP hD hS hA [0, 1, 2, 3, 4, 5, 6, 7, 8, 9, 10, 11, 12, 13, 14, 15, 16, 17, 18] [19] [0, 1, 2, 3, 4, 5, 6, 7, 8, 9, 10, 11, 12] ⟨rfl, rfl, rfl, rfl, rfl, by decide⟩ 0 rfl rfl rfl rfl hl.1 (Nat.le_of_ble_eq_true rfl) ⟨Nat.le_of_ble_eq_true rfl, Nat.le_of_ble_eq_true rfl⟩ dL_move_5 (fun E ce q9_33 u H locs hw hP hD hS h7 h8 h9 => ?_) (fun r_1 u H locs hw hP hD hS => ?_)
  · skip
    obtain ⟨vM_owners_17, vR_hopsToEnd_18, vR_level_19, vR_queue_20, vE_placed_21, vE_out_22, vE_turn_23, vE_madeBy_24, vE_places_25, vL_size_26, vL_froms_27, vL_tos_28, vL_turns_29, vL_outs_30, vL_placeds_31⟩ := u
    try dsimp only at hw
    have hP : va_P D vwCl (cl_L_move ad cs vH_fill vH_patience vS_camps vS_nexts vM_owners_17 vR_hopsToEnd_18 vR_level_19 vR_queue_20 vE_placed_21 vE_playing vE_out_22 vE_turn_23 vE_madeBy_24 vE_places_25 vL_size_26 vL_froms_27 vL_tos_28 vL_turns_29 vL_outs_30 vL_placeds_31 vO) H := hP.sub [1, 2, 3, 4, 5, 6, 7, 8, 9, 10, 11, 12, 13, 14, 15, 16, 17, 18, 19, 0] rfl
    have hD : va_D A (cl_L_move ad cs vH_fill vH_patience vS_camps vS_nexts vM_owners_17 vR_hopsToEnd_18 vR_level_19 vR_queue_20 vE_placed_21 vE_playing vE_out_22 vE_turn_23 vE_madeBy_24 vE_places_25 vL_size_26 vL_froms_27 vL_tos_28 vL_turns_29 vL_outs_30 vL_placeds_31 vO) := hD.sub [1, 2, 3, 4, 5, 6, 7, 8, 9, 10, 11, 12, 13, 14, 15, 16, 17, 18, 19, 0] (by decide) rfl
    rcases hw with ⟨hE, hw⟩ | ⟨hE, hw⟩ | ⟨hE, hw⟩
    · subst hE
      refine vx_catch (name := jI) hown [] (⟨0, 10, 13, 26⟩ : ExceptionTableEntry) [(⟨0, 10, 17, 28⟩ : ExceptionTableEntry), (⟨0, 10, 21, 13⟩ : ExceptionTableEntry)] htab (fun z hz => by exact absurd hz List.not_mem_nil) (by decide) (by decide) (hts (.classLink RL 26 jI) (by decide +kernel)) (va_Nw.use rfl hC9.1) h7 h8 h9 ?_
      refine lv_astore (lv' := [(4, .ref q9_33), (0, .ref (ad 0)), (1, .int x1), (2, .int x2), (3, .ref (ad 48))]) hx hb dL_move_13 hl (by decide) rfl (fun ls hl => ?_)
      refine lv_iconst (v := (1 : Int32)) hx hb dL_move_15 (by decide) ?_
      exact hret _ _ _ _ _ _ _ _ _ _ _ _ _ _ _ _ _ _ _ _ _ hw hP hD hS dL_move_16
    · subst hE
      refine vx_catch (name := jS) hown [(⟨0, 10, 13, 26⟩ : ExceptionTableEntry)] (⟨0, 10, 17, 28⟩ : ExceptionTableEntry) [(⟨0, 10, 21, 13⟩ : ExceptionTableEntry)] htab (fun z hz => by rcases List.mem_cons.mp hz with rfl | hz; exact Or.inr ⟨by decide, jI, hts (.classLink RL 26 jI) (by decide +kernel), hC9.2.2.2.1⟩; exact absurd hz List.not_mem_nil) (by decide) (by decide) (hts (.classLink RL 28 jS) (by decide +kernel)) (va_Nw.use rfl hC9.2.1) h7 h8 h9 ?_
      refine lv_astore (lv' := [(4, .ref q9_33), (0, .ref (ad 0)), (1, .int x1), (2, .int x2), (3, .ref (ad 48))]) hx hb dL_move_17 hl (by decide) rfl (fun ls hl => ?_)
      refine lv_iconst (v := (2 : Int32)) hx hb dL_move_19 (by decide) ?_
      exact hret _ _ _ _ _ _ _ _ _ _ _ _ _ _ _ _ _ _ _ _ _ hw hP hD hS dL_move_20
    · subst hE
      refine vx_catch (name := jA) hown [(⟨0, 10, 13, 26⟩ : ExceptionTableEntry), (⟨0, 10, 17, 28⟩ : ExceptionTableEntry)] (⟨0, 10, 21, 13⟩ : ExceptionTableEntry) [] htab (fun z hz => (List.mem_cons.mp hz).elim (fun q => q ▸ Or.inr ⟨by decide, jI, hts (.classLink RL 26 jI) (by decide +kernel), hC9.2.2.2.2.1⟩) (fun hz => (List.mem_cons.mp hz).elim (fun q => q ▸ Or.inr ⟨by decide, jS, hts (.classLink RL 28 jS) (by decide +kernel), hC9.2.2.2.2.2⟩) (fun hz => absurd hz List.not_mem_nil))) (by decide) (by decide) (hts (.classLink RL 13 jA) (by decide +kernel)) (va_Nw.use rfl hC9.2.2.1) h7 h8 h9 ?_
      refine lv_astore (lv' := [(4, .ref q9_33), (0, .ref (ad 0)), (1, .int x1), (2, .int x2), (3, .ref (ad 48))]) hx hb dL_move_21 hl (by decide) rfl (fun ls hl => ?_)
      refine lv_iconst (v := (3 : Int32)) hx hb dL_move_23 (by decide) ?_
      exact hret _ _ _ _ _ _ _ _ _ _ _ _ _ _ _ _ _ _ _ _ _ hw hP hD hS dL_move_24
  obtain ⟨vM_owners_2, vR_hopsToEnd_3, vR_level_4, vR_queue_5, vE_placed_6, vE_out_7, vE_turn_8, vE_madeBy_9, vE_places_10, vL_size_11, vL_froms_12, vL_tos_13, vL_turns_14, vL_outs_15, vL_placeds_16⟩ := u
  try dsimp only at hw
  have hP : va_P D vwCl (cl_L_move ad cs vH_fill vH_patience vS_camps vS_nexts vM_owners_2 vR_hopsToEnd_3 vR_level_4 vR_queue_5 vE_placed_6 vE_playing vE_out_7 vE_turn_8 vE_madeBy_9 vE_places_10 vL_size_11 vL_froms_12 vL_tos_13 vL_turns_14 vL_outs_15 vL_placeds_16 vO) H := hP.sub [1, 2, 3, 4, 5, 6, 7, 8, 9, 10, 11, 12, 13, 14, 15, 16, 17, 18, 19, 0] rfl
  have hD : va_D A (cl_L_move ad cs vH_fill vH_patience vS_camps vS_nexts vM_owners_2 vR_hopsToEnd_3 vR_level_4 vR_queue_5 vE_placed_6 vE_playing vE_out_7 vE_turn_8 vE_madeBy_9 vE_places_10 vL_size_11 vL_froms_12 vL_tos_13 vL_turns_14 vL_outs_15 vL_placeds_16 vO) := hD.sub [1, 2, 3, 4, 5, 6, 7, 8, 9, 10, 11, 12, 13, 14, 15, 16, 17, 18, 19, 0] (by decide) rfl
  refine lv_i2l (v := (r_1).toInt64) hx hb dL_move_8 rfl ?_
  obtain ⟨h_34, hw⟩ := hw
  refine va_last hx hb hK hP hD hS 19 13 rfl rfl h_34 dL_move_9 (fun H locs hP hD hS => ?_)
  have hP : va_P D vwCl (cl_L_move ad cs vH_fill vH_patience vS_camps vS_nexts vM_owners_2 vR_hopsToEnd_3 vR_level_4 vR_queue_5 vE_placed_6 vE_playing vE_out_7 vE_turn_8 vE_madeBy_9 vE_places_10 vL_size_11 vL_froms_12 vL_tos_13 vL_turns_14 vL_outs_15 vL_placeds_16 (vp_updL vO (0 : Int32).toNatClampNeg ((r_1).toInt64))) H := hP
  have hD : va_D A (cl_L_move ad cs vH_fill vH_patience vS_camps vS_nexts vM_owners_2 vR_hopsToEnd_3 vR_level_4 vR_queue_5 vE_placed_6 vE_playing vE_out_7 vE_turn_8 vE_madeBy_9 vE_places_10 vL_size_11 vL_froms_12 vL_tos_13 vL_turns_14 vL_outs_15 vL_placeds_16 (vp_updL vO (0 : Int32).toNatClampNeg ((r_1).toInt64))) := hD
  refine lv_goto (tgt := 25) hx hb dL_move_10 (by decide) ?_
  refine lv_iconst (v := (0 : Int32)) hx hb dL_move_25 (by decide) ?_
  exact hret _ _ _ _ _ _ _ _ _ _ _ _ _ _ _ _ _ _ _ _ _ hw hP hD hS dL_move_26
set_option maxHeartbeats 4000000 in
set_option maxRecDepth 100000 in
theorem c_L_move (l : Launch) (hst : l.stackTraces = false) (D : va_G) (ad : Nat → Nat) (cs : Nat → ClassId) (sz : Nat) (vH_fill vH_patience : Int32) (vS_camps vS_nexts vM_owners vR_hopsToEnd vR_level vR_queue : Nat → Int32) (vE_placed vE_playing vE_out vE_turn : Int32) (vE_madeBy vE_places : Nat → Int32) (vL_size : Int32) (vL_froms vL_tos vL_turns vL_outs vL_placeds : Nat → Int32) (vO : Nat → Int64) (x1 x2 : Int32) (Q : Int32 → (Nat → Int32) → (Nat → Int32) → (Nat → Int32) → (Nat → Int32) → Int32 → Int32 → Int32 → (Nat → Int32) → (Nat → Int32) → Int32 → (Nat → Int32) → (Nat → Int32) → (Nat → Int32) → (Nat → Int32) → (Nat → Int32) → (Nat → Int64) → Prop) (hw : wp_L_move vH_fill vH_patience vS_camps vS_nexts vM_owners vR_hopsToEnd vR_level vR_queue vE_placed vE_playing vE_out vE_turn vE_madeBy vE_places vL_size vL_froms vL_tos vL_turns vL_outs vL_placeds vO x1 x2 Q) :
  Met l yL_move wsL_move rm_L_move (va_Pc [.ref (ad 0), .int x1, .int x2, .ref (ad 48)] (PXE D (cl_L_move ad cs vH_fill vH_patience vS_camps vS_nexts vM_owners vR_hopsToEnd vR_level vR_queue vE_placed vE_playing vE_out vE_turn vE_madeBy vE_places vL_size vL_froms vL_tos vL_turns vL_outs vL_placeds vO) (ty_L_move cs) sz)) (va_Qi (fun (r : Int32) (u : (Nat → Int32) × (Nat → Int32) × (Nat → Int32) × (Nat → Int32) × Int32 × Int32 × Int32 × (Nat → Int32) × (Nat → Int32) × Int32 × (Nat → Int32) × (Nat → Int32) × (Nat → Int32) × (Nat → Int32) × (Nat → Int32) × (Nat → Int64)) => Q r u.1 u.2.1 u.2.2.1 u.2.2.2.1 u.2.2.2.2.1 u.2.2.2.2.2.1 u.2.2.2.2.2.2.1 u.2.2.2.2.2.2.2.1 u.2.2.2.2.2.2.2.2.1 u.2.2.2.2.2.2.2.2.2.1 u.2.2.2.2.2.2.2.2.2.2.1 u.2.2.2.2.2.2.2.2.2.2.2.1 u.2.2.2.2.2.2.2.2.2.2.2.2.1 u.2.2.2.2.2.2.2.2.2.2.2.2.2.1 u.2.2.2.2.2.2.2.2.2.2.2.2.2.2.1 u.2.2.2.2.2.2.2.2.2.2.2.2.2.2.2) (fun (u : (Nat → Int32) × (Nat → Int32) × (Nat → Int32) × (Nat → Int32) × Int32 × Int32 × Int32 × (Nat → Int32) × (Nat → Int32) × Int32 × (Nat → Int32) × (Nat → Int32) × (Nat → Int32) × (Nat → Int32) × (Nat → Int32) × (Nat → Int64)) t => va_P D vwCl (cl_L_move ad cs vH_fill vH_patience vS_camps vS_nexts u.1 u.2.1 u.2.2.1 u.2.2.2.1 u.2.2.2.2.1 vE_playing u.2.2.2.2.2.1 u.2.2.2.2.2.2.1 u.2.2.2.2.2.2.2.1 u.2.2.2.2.2.2.2.2.1 u.2.2.2.2.2.2.2.2.2.1 u.2.2.2.2.2.2.2.2.2.2.1 u.2.2.2.2.2.2.2.2.2.2.2.1 u.2.2.2.2.2.2.2.2.2.2.2.2.1 u.2.2.2.2.2.2.2.2.2.2.2.2.2.1 u.2.2.2.2.2.2.2.2.2.2.2.2.2.2.1 u.2.2.2.2.2.2.2.2.2.2.2.2.2.2.2) t.heap ∧ va_D (va_A (cl_L_move ad cs vH_fill vH_patience vS_camps vS_nexts vM_owners vR_hopsToEnd vR_level vR_queue vE_placed vE_playing vE_out vE_turn vE_madeBy vE_places vL_size vL_froms vL_tos vL_turns vL_outs vL_placeds vO) sz) (cl_L_move ad cs vH_fill vH_patience vS_camps vS_nexts u.1 u.2.1 u.2.2.1 u.2.2.2.1 u.2.2.2.2.1 vE_playing u.2.2.2.2.2.1 u.2.2.2.2.2.2.1 u.2.2.2.2.2.2.2.1 u.2.2.2.2.2.2.2.2.1 u.2.2.2.2.2.2.2.2.2.1 u.2.2.2.2.2.2.2.2.2.2.1 u.2.2.2.2.2.2.2.2.2.2.2.1 u.2.2.2.2.2.2.2.2.2.2.2.2.1 u.2.2.2.2.2.2.2.2.2.2.2.2.2.1 u.2.2.2.2.2.2.2.2.2.2.2.2.2.2.1 u.2.2.2.2.2.2.2.2.2.2.2.2.2.2.2)) (va_A (cl_L_move ad cs vH_fill vH_patience vS_camps vS_nexts vM_owners vR_hopsToEnd vR_level vR_queue vE_placed vE_playing vE_out vE_turn vE_madeBy vE_places vL_size vL_froms vL_tos vL_turns vL_outs vL_placeds vO) sz)) 1 6 (va_A (cl_L_move ad cs vH_fill vH_patience vS_camps vS_nexts vM_owners vR_hopsToEnd vR_level vR_queue vE_placed vE_playing vE_out vE_turn vE_madeBy vE_places vL_size vL_froms vL_tos vL_turns vL_outs vL_placeds vO) sz) := by
  refine va_MetW (cc := cL_move) (maxL := 5) (ret := (some .int)) (hh := [(0, 10, 13, 26), (0, 10, 17, 28), (0, 10, 21, 13)]) (by decide) rfl ?_
  intro p e s m args below meth c s₁ B hml hv
  obtain ⟨rfl, ⟨hsz, hP, hK, hD0, hN⟩, hC9, hX9, hB9⟩ := hv
  subst hsz
  have hl := lv_entry ([.ref (ad 0), .int x1, .int x2, .ref (ad 48)]) (n := 5) (Nat.le_of_ble_eq_true rfl)
  rw [lg_entry_eq]
  have hx := B.exec
  have hb := B.bytes
  have hr := B.returns
  have hts := atoms_spec (ws := wsL_move) B.pre
  have htab := vx_table (x := yL_move) B (hts _ List.mem_cons_self)
  exact b_L_move l D ad cs vH_fill vH_patience vS_camps vS_nexts vM_owners vR_hopsToEnd vR_level vR_queue vE_placed vE_playing vE_out vE_turn vE_madeBy vE_places vL_size vL_froms vL_tos vL_turns vL_outs vL_placeds vO x1 x2 Q hx hb hml (findClass_of_methodNamed B.named) hts hN hst htab hC9 hX9 hB9 hP hK hD0.self (fun q h => Or.inr h) hl (fun r o0 o1 o2 o3 o4 o5 o6 o7 o8 o9 o10 o11 o12 o13 o14 o15 H locs pc ls hq hP hD hS hd => W.iret (v := r) hx hb hr (fun t ht hW => ⟨⟨r, (o0, o1, o2, o3, o4, o5, o6, o7, o8, o9, o10, o11, o12, o13, o14, o15), rfl, hq, by rw [ht]; exact hP, hD⟩, hS.F ht⟩) hS.2.2 hd) hw
abbrev rm_L_pass : Room := { frames := 7, cells := 1, slots := 6, locals := 161 }
abbrev cl_L_pass (ad : Nat → Nat) (cs : Nat → ClassId) (vH_fill vH_patience : Int32) (vS_camps vS_nexts vM_owners vR_hopsToEnd vR_level vR_queue : Nat → Int32) (vE_placed vE_playing vE_out vE_turn : Int32) (vE_madeBy vE_places : Nat → Int32) (vL_size : Int32) (vL_froms vL_tos vL_turns vL_outs vL_placeds : Nat → Int32) : va_W := [((ad 0), .inr (6, [.ref (ad 1), .ref (ad 6), .ref (ad 8), .ref (ad 12), .ref (ad 19), .ref (ad 22), .int vH_fill, .int vH_patience])), ((ad 1), .inr (5, [.ref (ad 2), .ref (ad 3), .ref (ad 4), .ref (ad 5)])), ((ad 4), .inl ((cs 4), 121, .inl vS_camps)), ((ad 5), .inl ((cs 5), 726, .inl vS_nexts)), ((ad 6), .inr (1, [.ref (ad 1), .ref (ad 7)])), ((ad 7), .inl ((cs 7), 121, .inl vM_owners)), ((ad 8), .inr (3, [.ref (ad 1), .ref (ad 6), .ref (ad 9), .ref (ad 10), .ref (ad 11)])), ((ad 9), .inl ((cs 9), 121, .inl vR_hopsToEnd)), ((ad 10), .inl ((cs 10), 121, .inl vR_level)), ((ad 11), .inl ((cs 11), 121, .inl vR_queue)), ((ad 19), .inr (4, [.ref (ad 6), .ref (ad 20), .ref (ad 21), .int vE_placed, .int vE_playing, .int vE_out, .int vE_turn])), ((ad 20), .inl ((cs 20), 6, .inl vE_madeBy)), ((ad 21), .inl ((cs 21), 6, .inl vE_places)), ((ad 22), .inr (0, [.ref (ad 23), .ref (ad 24), .ref (ad 25), .ref (ad 26), .ref (ad 27), .int vL_size])), ((ad 23), .inl ((cs 23), 300, .inl vL_froms)), ((ad 24), .inl ((cs 24), 300, .inl vL_tos)), ((ad 25), .inl ((cs 25), 300, .inl vL_turns)), ((ad 26), .inl ((cs 26), 300, .inl vL_outs)), ((ad 27), .inl ((cs 27), 300, .inl vL_placeds))]
abbrev ty_L_pass (cs : Nat → ClassId) : List (ClassId × FieldType) := [((cs 4), .int), ((cs 5), .int), ((cs 7), .int), ((cs 9), .int), ((cs 10), .int), ((cs 11), .int), ((cs 20), .int), ((cs 21), .int), ((cs 23), .int), ((cs 24), .int), ((cs 25), .int), ((cs 26), .int), ((cs 27), .int)]
def wp_L_pass (vH_fill vH_patience : Int32) (vS_camps vS_nexts vM_owners vR_hopsToEnd vR_level vR_queue : Nat → Int32) (vE_placed vE_playing vE_out vE_turn : Int32) (vE_madeBy vE_places : Nat → Int32) (vL_size : Int32) (vL_froms vL_tos vL_turns vL_outs vL_placeds : Nat → Int32) (Q : Int32 → (Nat → Int32) → (Nat → Int32) → (Nat → Int32) → Int32 → Int32 → (Nat → Int32) → Int32 → (Nat → Int32) → (Nat → Int32) → (Nat → Int32) → (Nat → Int32) → (Nat → Int32) → Prop) : Prop :=
 wp_X6_pass vH_fill vH_patience vS_camps vS_nexts vM_owners vR_hopsToEnd vR_level vR_queue vE_placed vE_playing vE_out vE_turn vE_madeBy vE_places vL_size vL_froms vL_tos vL_turns vL_outs vL_placeds (fun vR_hopsToEnd_1 vR_level_2 vR_queue_3 vE_out_4 vE_turn_5 vE_madeBy_6 vL_size_7 vL_froms_8 vL_tos_9 vL_turns_10 vL_outs_11 vL_placeds_12 =>
 Q (0 : Int32) vR_hopsToEnd_1 vR_level_2 vR_queue_3 vE_out_4 vE_turn_5 vE_madeBy_6 vL_size_7 vL_froms_8 vL_tos_9 vL_turns_10 vL_outs_11 vL_placeds_12)
 (fun E_25 vR_hopsToEnd_13 vR_level_14 vR_queue_15 vE_out_16 vE_turn_17 vE_madeBy_18 vL_size_19 vL_froms_20 vL_tos_21 vL_turns_22 vL_outs_23 vL_placeds_24 => (E_25 = "java/lang/IllegalStateException" ∧ Q (1 : Int32) vR_hopsToEnd_13 vR_level_14 vR_queue_15 vE_out_16 vE_turn_17 vE_madeBy_18 vL_size_19 vL_froms_20 vL_tos_21 vL_turns_22 vL_outs_23 vL_placeds_24))
set_option maxHeartbeats 4000000 in
set_option maxRecDepth 100000 in
theorem b_L_pass {p : Program} {e : Env} {s : State} {m : MethodId} {args : Array Value} {below : List Frame} {meth : Method} {c : Code} {QQ : State → Prop} {A : Nat → Prop} {ls : Array Slot} (l : Launch) (D : va_G) (ad : Nat → Nat) (cs : Nat → ClassId) (vH_fill vH_patience : Int32) (vS_camps vS_nexts vM_owners vR_hopsToEnd vR_level vR_queue : Nat → Int32) (vE_placed vE_playing vE_out vE_turn : Int32) (vE_madeBy vE_places : Nat → Int32) (vL_size : Int32) (vL_froms vL_tos vL_turns vL_outs vL_placeds : Nat → Int32) (Q : Int32 → (Nat → Int32) → (Nat → Int32) → (Nat → Int32) → Int32 → Int32 → (Nat → Int32) → Int32 → (Nat → Int32) → (Nat → Int32) → (Nat → Int32) → (Nat → Int32) → (Nat → Int32) → Prop) (hx : p.tables.exec = Jvm.exec) (hb : c.code = cL_pass) (hml : c.maxLocals = 2) (hown : s.vm.findClass RL = some m.cls) (hts : ∀ w ∈ wsL_pass, w.before args s = true) (hN : NW s) (hst : l.stackTraces = false) (htab0 : c.exceptionTable.toList = [(⟨0, 4, 7, 28⟩ : ExceptionTableEntry)]) (hC9 : SXC s) (hX9 : SXT s) (hB9 : SB A s s.heap) (hP : va_P D vwCl (cl_L_pass ad cs vH_fill vH_patience vS_camps vS_nexts vM_owners vR_hopsToEnd vR_level vR_queue vE_placed vE_playing vE_out vE_turn vE_madeBy vE_places vL_size vL_froms vL_tos vL_turns vL_outs vL_placeds) s.heap) (hK : va_K D vwCl (ty_L_pass cs) s) (hD : va_D A (cl_L_pass ad cs vH_fill vH_patience vS_camps vS_nexts vM_owners vR_hopsToEnd vR_level vR_queue vE_placed vE_playing vE_out vE_turn vE_madeBy vE_places vL_size vL_froms vL_tos vL_turns vL_outs vL_placeds)) (hA : ∀ q : Nat, s.heap.size ≤ q → A q) (hl : lv_has ls 2 [(0, .ref (ad 0))])
  (hret : ∀ (r : Int32) (o0 : Nat → Int32) (o1 : Nat → Int32) (o2 : Nat → Int32) (o3 : Int32) (o4 : Int32) (o5 : Nat → Int32) (o6 : Int32) (o7 : Nat → Int32) (o8 : Nat → Int32) (o9 : Nat → Int32) (o10 : Nat → Int32) (o11 : Nat → Int32) (H : Heap) (locs : List Loc) (pc : Nat) (ls : Array Slot), Q r o0 o1 o2 o3 o4 o5 o6 o7 o8 o9 o10 o11 → va_P D vwCl (cl_L_pass ad cs vH_fill vH_patience vS_camps vS_nexts vM_owners o0 o1 o2 vE_placed vE_playing o3 o4 o5 vE_places o6 o7 o8 o9 o10 o11) H → va_D A (cl_L_pass ad cs vH_fill vH_patience vS_camps vS_nexts vM_owners o0 o1 o2 vE_placed vE_playing o3 o4 o5 vE_places o6 o7 o8 o9 o10 o11) → va_S A s.heap H locs → decode cL_pass pc = .ok (.ireturn, 1) → W p l e rm_L_pass s m args below meth c H locs 1 6 QQ (F0 m pc ls [.int r]))
  (hw : wp_L_pass vH_fill vH_patience vS_camps vS_nexts vM_owners vR_hopsToEnd vR_level vR_queue vE_placed vE_playing vE_out vE_turn vE_madeBy vE_places vL_size vL_froms vL_tos vL_turns vL_outs vL_placeds Q) :
  W p l e rm_L_pass s m args below meth c s.heap [] 0 0 QQ (F0 m 0 ls []) := by
  have S0 : CallFix p m c cL_pass 2 s args wsL_pass RL := ⟨hx, hb, hml, hown, hts⟩
  have htab := htab0
  obtain ⟨H, hH⟩ : ∃ H : Heap, H = s.heap := ⟨_, rfl⟩
  have hS : va_S A s.heap H [] := by rw [hH]; exact va_S.rf
  rw [← hH] at hP ⊢
  unfold wp_L_pass at hw
  refine lv_aload_n hx hb dL_pass_0 rfl (lv_at hl 0 rfl) ?_
  refine pxVv (rest := []) (wr := []) (ci := 6) S0 (c_X6_pass l hst D ad cs H.size vH_fill vH_patience vS_camps vS_nexts vM_owners vR_hopsToEnd vR_level vR_queue vE_placed vE_playing vE_out vE_turn vE_madeBy vE_places vL_size vL_froms vL_tos vL_turns vL_outs vL_placeds _ _ hw) (cwV 0 hts gL_pass_X6_pass rfl rfl rfl (by decide +kernel) ⟨Nat.le_of_ble_eq_true rfl, Nat.le_of_ble_eq_true rfl⟩) hN hC9 hX9 hB9 hK hP hD hS hA [0, 1, 2, 3, 4, 5, 6, 7, 8, 9, 10, 11, 12, 13, 14, 15, 16, 17, 18] [] [0, 1, 2, 3, 4, 5, 6, 7, 8, 9, 10, 11, 12] ⟨rfl, rfl, rfl, rfl, rfl, by decide⟩ 0 rfl rfl rfl rfl hl.1 (Nat.le_of_ble_eq_true rfl) ⟨Nat.le_of_ble_eq_true rfl, Nat.le_of_ble_eq_true rfl⟩ dL_pass_1 (fun E ce q9_26 u H locs hw hP hD hS h7 h8 h9 => ?_) (fun u H locs hw hP hD hS => ?_)
  · skip
    obtain ⟨vR_hopsToEnd_13, vR_level_14, vR_queue_15, vE_out_16, vE_turn_17, vE_madeBy_18, vL_size_19, vL_froms_20, vL_tos_21, vL_turns_22, vL_outs_23, vL_placeds_24⟩ := u
    try dsimp only at hw
    have hP : va_P D vwCl (cl_L_pass ad cs vH_fill vH_patience vS_camps vS_nexts vM_owners vR_hopsToEnd_13 vR_level_14 vR_queue_15 vE_placed vE_playing vE_out_16 vE_turn_17 vE_madeBy_18 vE_places vL_size_19 vL_froms_20 vL_tos_21 vL_turns_22 vL_outs_23 vL_placeds_24) H := hP.sub [0, 1, 2, 3, 4, 5, 6, 7, 8, 9, 10, 11, 12, 13, 14, 15, 16, 17, 18] rfl
    have hD : va_D A (cl_L_pass ad cs vH_fill vH_patience vS_camps vS_nexts vM_owners vR_hopsToEnd_13 vR_level_14 vR_queue_15 vE_placed vE_playing vE_out_16 vE_turn_17 vE_madeBy_18 vE_places vL_size_19 vL_froms_20 vL_tos_21 vL_turns_22 vL_outs_23 vL_placeds_24) := hD.sub [0, 1, 2, 3, 4, 5, 6, 7, 8, 9, 10, 11, 12, 13, 14, 15, 16, 17, 18] (by decide) rfl
    obtain ⟨hE, hw⟩ := hw
    subst hE
    refine vx_catch (name := jS) hown [] (⟨0, 4, 7, 28⟩ : ExceptionTableEntry) [] htab (fun z hz => by exact absurd hz List.not_mem_nil) (by decide) (by decide) (hts (.classLink RL 28 jS) (by decide +kernel)) (va_Nw.use rfl hC9.2.1) h7 h8 h9 ?_
    refine lv_astore_n (lv' := [(1, .ref q9_26), (0, .ref (ad 0))]) hx hb dL_pass_7 rfl hl (by decide) rfl (fun ls hl => ?_)
    refine lv_iconst (v := (1 : Int32)) hx hb dL_pass_8 (by decide) ?_
    exact hret _ _ _ _ _ _ _ _ _ _ _ _ _ _ _ _ _ hw hP hD hS dL_pass_9
  obtain ⟨vR_hopsToEnd_1, vR_level_2, vR_queue_3, vE_out_4, vE_turn_5, vE_madeBy_6, vL_size_7, vL_froms_8, vL_tos_9, vL_turns_10, vL_outs_11, vL_placeds_12⟩ := u
  try dsimp only at hw
  have hP : va_P D vwCl (cl_L_pass ad cs vH_fill vH_patience vS_camps vS_nexts vM_owners vR_hopsToEnd_1 vR_level_2 vR_queue_3 vE_placed vE_playing vE_out_4 vE_turn_5 vE_madeBy_6 vE_places vL_size_7 vL_froms_8 vL_tos_9 vL_turns_10 vL_outs_11 vL_placeds_12) H := hP.sub [0, 1, 2, 3, 4, 5, 6, 7, 8, 9, 10, 11, 12, 13, 14, 15, 16, 17, 18] rfl
  have hD : va_D A (cl_L_pass ad cs vH_fill vH_patience vS_camps vS_nexts vM_owners vR_hopsToEnd_1 vR_level_2 vR_queue_3 vE_placed vE_playing vE_out_4 vE_turn_5 vE_madeBy_6 vE_places vL_size_7 vL_froms_8 vL_tos_9 vL_turns_10 vL_outs_11 vL_placeds_12) := hD.sub [0, 1, 2, 3, 4, 5, 6, 7, 8, 9, 10, 11, 12, 13, 14, 15, 16, 17, 18] (by decide) rfl
  refine lv_goto (tgt := 10) hx hb dL_pass_4 (by decide) ?_
  refine lv_iconst (v := (0 : Int32)) hx hb dL_pass_10 (by decide) ?_
  exact hret _ _ _ _ _ _ _ _ _ _ _ _ _ _ _ _ _ hw hP hD hS dL_pass_11
set_option maxHeartbeats 4000000 in
set_option maxRecDepth 100000 in
theorem c_L_pass (l : Launch) (hst : l.stackTraces = false) (D : va_G) (ad : Nat → Nat) (cs : Nat → ClassId) (sz : Nat) (vH_fill vH_patience : Int32) (vS_camps vS_nexts vM_owners vR_hopsToEnd vR_level vR_queue : Nat → Int32) (vE_placed vE_playing vE_out vE_turn : Int32) (vE_madeBy vE_places : Nat → Int32) (vL_size : Int32) (vL_froms vL_tos vL_turns vL_outs vL_placeds : Nat → Int32) (Q : Int32 → (Nat → Int32) → (Nat → Int32) → (Nat → Int32) → Int32 → Int32 → (Nat → Int32) → Int32 → (Nat → Int32) → (Nat → Int32) → (Nat → Int32) → (Nat → Int32) → (Nat → Int32) → Prop) (hw : wp_L_pass vH_fill vH_patience vS_camps vS_nexts vM_owners vR_hopsToEnd vR_level vR_queue vE_placed vE_playing vE_out vE_turn vE_madeBy vE_places vL_size vL_froms vL_tos vL_turns vL_outs vL_placeds Q) :
  Met l yL_pass wsL_pass rm_L_pass (va_Pc [.ref (ad 0)] (PXE D (cl_L_pass ad cs vH_fill vH_patience vS_camps vS_nexts vM_owners vR_hopsToEnd vR_level vR_queue vE_placed vE_playing vE_out vE_turn vE_madeBy vE_places vL_size vL_froms vL_tos vL_turns vL_outs vL_placeds) (ty_L_pass cs) sz)) (va_Qi (fun (r : Int32) (u : (Nat → Int32) × (Nat → Int32) × (Nat → Int32) × Int32 × Int32 × (Nat → Int32) × Int32 × (Nat → Int32) × (Nat → Int32) × (Nat → Int32) × (Nat → Int32) × (Nat → Int32)) => Q r u.1 u.2.1 u.2.2.1 u.2.2.2.1 u.2.2.2.2.1 u.2.2.2.2.2.1 u.2.2.2.2.2.2.1 u.2.2.2.2.2.2.2.1 u.2.2.2.2.2.2.2.2.1 u.2.2.2.2.2.2.2.2.2.1 u.2.2.2.2.2.2.2.2.2.2.1 u.2.2.2.2.2.2.2.2.2.2.2) (fun (u : (Nat → Int32) × (Nat → Int32) × (Nat → Int32) × Int32 × Int32 × (Nat → Int32) × Int32 × (Nat → Int32) × (Nat → Int32) × (Nat → Int32) × (Nat → Int32) × (Nat → Int32)) t => va_P D vwCl (cl_L_pass ad cs vH_fill vH_patience vS_camps vS_nexts vM_owners u.1 u.2.1 u.2.2.1 vE_placed vE_playing u.2.2.2.1 u.2.2.2.2.1 u.2.2.2.2.2.1 vE_places u.2.2.2.2.2.2.1 u.2.2.2.2.2.2.2.1 u.2.2.2.2.2.2.2.2.1 u.2.2.2.2.2.2.2.2.2.1 u.2.2.2.2.2.2.2.2.2.2.1 u.2.2.2.2.2.2.2.2.2.2.2) t.heap ∧ va_D (va_A (cl_L_pass ad cs vH_fill vH_patience vS_camps vS_nexts vM_owners vR_hopsToEnd vR_level vR_queue vE_placed vE_playing vE_out vE_turn vE_madeBy vE_places vL_size vL_froms vL_tos vL_turns vL_outs vL_placeds) sz) (cl_L_pass ad cs vH_fill vH_patience vS_camps vS_nexts vM_owners u.1 u.2.1 u.2.2.1 vE_placed vE_playing u.2.2.2.1 u.2.2.2.2.1 u.2.2.2.2.2.1 vE_places u.2.2.2.2.2.2.1 u.2.2.2.2.2.2.2.1 u.2.2.2.2.2.2.2.2.1 u.2.2.2.2.2.2.2.2.2.1 u.2.2.2.2.2.2.2.2.2.2.1 u.2.2.2.2.2.2.2.2.2.2.2)) (va_A (cl_L_pass ad cs vH_fill vH_patience vS_camps vS_nexts vM_owners vR_hopsToEnd vR_level vR_queue vE_placed vE_playing vE_out vE_turn vE_madeBy vE_places vL_size vL_froms vL_tos vL_turns vL_outs vL_placeds) sz)) 1 6 (va_A (cl_L_pass ad cs vH_fill vH_patience vS_camps vS_nexts vM_owners vR_hopsToEnd vR_level vR_queue vE_placed vE_playing vE_out vE_turn vE_madeBy vE_places vL_size vL_froms vL_tos vL_turns vL_outs vL_placeds) sz) := by
  refine va_MetW (cc := cL_pass) (maxL := 2) (ret := (some .int)) (hh := [(0, 4, 7, 28)]) (by decide) rfl ?_
  intro p e s m args below meth c s₁ B hml hv
  obtain ⟨rfl, ⟨hsz, hP, hK, hD0, hN⟩, hC9, hX9, hB9⟩ := hv
  subst hsz
  have hl := lv_entry ([.ref (ad 0)]) (n := 2) (Nat.le_of_ble_eq_true rfl)
  rw [lg_entry_eq]
  have hx := B.exec
  have hb := B.bytes
  have hr := B.returns
  have hts := atoms_spec (ws := wsL_pass) B.pre
  have htab := vx_table (x := yL_pass) B (hts _ List.mem_cons_self)
  exact b_L_pass l D ad cs vH_fill vH_patience vS_camps vS_nexts vM_owners vR_hopsToEnd vR_level vR_queue vE_placed vE_playing vE_out vE_turn vE_madeBy vE_places vL_size vL_froms vL_tos vL_turns vL_outs vL_placeds Q hx hb hml (findClass_of_methodNamed B.named) hts hN hst htab hC9 hX9 hB9 hP hK hD0.self (fun q h => Or.inr h) hl (fun r o0 o1 o2 o3 o4 o5 o6 o7 o8 o9 o10 o11 H locs pc ls hq hP hD hS hd => W.iret (v := r) hx hb hr (fun t ht hW => ⟨⟨r, (o0, o1, o2, o3, o4, o5, o6, o7, o8, o9, o10, o11), rfl, hq, by rw [ht]; exact hP, hD⟩, hS.F ht⟩) hS.2.2 hd) hw
abbrev rm_L_undo : Room := { frames := 7, cells := 1, slots := 6, locals := 110 }
abbrev cl_L_undo (ad : Nat → Nat) (cs : Nat → ClassId) (vH_fill vH_patience : Int32) (vM_owners : Nat → Int32) (vE_placed vE_playing vE_out vE_turn : Int32) (vE_madeBy : Nat → Int32) (vL_size : Int32) (vL_froms vL_tos vL_turns vL_outs vL_placeds : Nat → Int32) (vO : Nat → Int64) : va_W := [((ad 0), .inr (6, [.ref (ad 1), .ref (ad 6), .ref (ad 8), .ref (ad 12), .ref (ad 19), .ref (ad 22), .int vH_fill, .int vH_patience])), ((ad 6), .inr (1, [.ref (ad 1), .ref (ad 7)])), ((ad 7), .inl ((cs 7), 121, .inl vM_owners)), ((ad 19), .inr (4, [.ref (ad 6), .ref (ad 20), .ref (ad 21), .int vE_placed, .int vE_playing, .int vE_out, .int vE_turn])), ((ad 20), .inl ((cs 20), 6, .inl vE_madeBy)), ((ad 22), .inr (0, [.ref (ad 23), .ref (ad 24), .ref (ad 25), .ref (ad 26), .ref (ad 27), .int vL_size])), ((ad 23), .inl ((cs 23), 300, .inl vL_froms)), ((ad 24), .inl ((cs 24), 300, .inl vL_tos)), ((ad 25), .inl ((cs 25), 300, .inl vL_turns)), ((ad 26), .inl ((cs 26), 300, .inl vL_outs)), ((ad 27), .inl ((cs 27), 300, .inl vL_placeds)), ((ad 48), .inl ((cs 48), 1, .inr (.inl vO)))]
abbrev ty_L_undo (cs : Nat → ClassId) : List (ClassId × FieldType) := [((cs 7), .int), ((cs 20), .int), ((cs 23), .int), ((cs 24), .int), ((cs 25), .int), ((cs 26), .int), ((cs 27), .int), ((cs 48), .long)]
def wp_L_undo (vH_fill vH_patience : Int32) (vM_owners : Nat → Int32) (vE_placed vE_playing vE_out vE_turn : Int32) (vE_madeBy : Nat → Int32) (vL_size : Int32) (vL_froms vL_tos vL_turns vL_outs vL_placeds : Nat → Int32) (vO : Nat → Int64) (Q : Int32 → (Nat → Int32) → Int32 → Int32 → Int32 → (Nat → Int32) → Int32 → (Nat → Int64) → Prop) : Prop :=
 wp_X6_undo vH_fill vH_patience vM_owners vE_placed vE_playing vE_out vE_turn vE_madeBy vL_size vL_froms vL_tos vL_turns vL_outs vL_placeds (fun r_1 vM_owners_2 vE_placed_3 vE_out_4 vE_turn_5 vE_madeBy_6 vL_size_7 =>
 (vp_in (0 : Int32) 1 ∧
 Q (0 : Int32) vM_owners_2 vE_placed_3 vE_out_4 vE_turn_5 vE_madeBy_6 vL_size_7 (vp_updL vO (0 : Int32).toNatClampNeg ((r_1).toInt64))))
 (fun E_14 vM_owners_8 vE_placed_9 vE_out_10 vE_turn_11 vE_madeBy_12 vL_size_13 => (E_14 = "java/lang/IllegalStateException" ∧ Q (1 : Int32) vM_owners_8 vE_placed_9 vE_out_10 vE_turn_11 vE_madeBy_12 vL_size_13 vO))
set_option maxHeartbeats 4000000 in
set_option maxRecDepth 100000 in
theorem b_L_undo {p : Program} {e : Env} {s : State} {m : MethodId} {args : Array Value} {below : List Frame} {meth : Method} {c : Code} {QQ : State → Prop} {A : Nat → Prop} {ls : Array Slot} (l : Launch) (D : va_G) (ad : Nat → Nat) (cs : Nat → ClassId) (vH_fill vH_patience : Int32) (vM_owners : Nat → Int32) (vE_placed vE_playing vE_out vE_turn : Int32) (vE_madeBy : Nat → Int32) (vL_size : Int32) (vL_froms vL_tos vL_turns vL_outs vL_placeds : Nat → Int32) (vO : Nat → Int64) (Q : Int32 → (Nat → Int32) → Int32 → Int32 → Int32 → (Nat → Int32) → Int32 → (Nat → Int64) → Prop) (hx : p.tables.exec = Jvm.exec) (hb : c.code = cL_undo) (hml : c.maxLocals = 3) (hown : s.vm.findClass RL = some m.cls) (hts : ∀ w ∈ wsL_undo, w.before args s = true) (hN : NW s) (hst : l.stackTraces = false) (htab0 : c.exceptionTable.toList = [(⟨0, 8, 11, 28⟩ : ExceptionTableEntry)]) (hC9 : SXC s) (hX9 : SXT s) (hB9 : SB A s s.heap) (hP : va_P D vwCl (cl_L_undo ad cs vH_fill vH_patience vM_owners vE_placed vE_playing vE_out vE_turn vE_madeBy vL_size vL_froms vL_tos vL_turns vL_outs vL_placeds vO) s.heap) (hK : va_K D vwCl (ty_L_undo cs) s) (hD : va_D A (cl_L_undo ad cs vH_fill vH_patience vM_owners vE_placed vE_playing vE_out vE_turn vE_madeBy vL_size vL_froms vL_tos vL_turns vL_outs vL_placeds vO)) (hA : ∀ q : Nat, s.heap.size ≤ q → A q) (hl : lv_has ls 3 [(0, .ref (ad 0)), (1, .ref (ad 48))])
  (hret : ∀ (r : Int32) (o0 : Nat → Int32) (o1 : Int32) (o2 : Int32) (o3 : Int32) (o4 : Nat → Int32) (o5 : Int32) (o6 : Nat → Int64) (H : Heap) (locs : List Loc) (pc : Nat) (ls : Array Slot), Q r o0 o1 o2 o3 o4 o5 o6 → va_P D vwCl (cl_L_undo ad cs vH_fill vH_patience o0 o1 vE_playing o2 o3 o4 o5 vL_froms vL_tos vL_turns vL_outs vL_placeds o6) H → va_D A (cl_L_undo ad cs vH_fill vH_patience o0 o1 vE_playing o2 o3 o4 o5 vL_froms vL_tos vL_turns vL_outs vL_placeds o6) → va_S A s.heap H locs → decode cL_undo pc = .ok (.ireturn, 1) → W p l e rm_L_undo s m args below meth c H locs 1 6 QQ (F0 m pc ls [.int r]))
  (hw : wp_L_undo vH_fill vH_patience vM_owners vE_placed vE_playing vE_out vE_turn vE_madeBy vL_size vL_froms vL_tos vL_turns vL_outs vL_placeds vO Q) :
  W p l e rm_L_undo s m args below meth c s.heap [] 0 0 QQ (F0 m 0 ls []) := by
  have S0 : CallFix p m c cL_undo 3 s args wsL_undo RL := ⟨hx, hb, hml, hown, hts⟩
  have htab := htab0
  obtain ⟨H, hH⟩ : ∃ H : Heap, H = s.heap := ⟨_, rfl⟩
  have hS : va_S A s.heap H [] := by rw [hH]; exact va_S.rf
  rw [← hH] at hP ⊢
  unfold wp_L_undo at hw
  refine lv_aload_n hx hb dL_undo_0 rfl (lv_at hl 1 rfl) ?_
  refine lv_iconst (v := (0 : Int32)) hx hb dL_undo_1 (by decide) ?_
  refine lv_aload_n hx hb dL_undo_2 rfl (lv_at hl 0 rfl) ?_
  refine pxVi (rest := [.int (0 : Int32), .ref (ad 48)]) (wr := [((ad 48), .inl ((cs 48), 1, .inr (.inl vO)))]) (ci := 6) S0 (c_X6_undo l hst D ad cs H.size vH_fill vH_patience vM_owners vE_placed vE_playing vE_out vE_turn vE_madeBy vL_size vL_froms vL_tos vL_turns vL_outs vL_placeds _ _ hw) (cwV 0 hts gL_undo_X6_undo rfl rfl rfl (by decide +kernel) ⟨Nat.le_of_ble_eq_true rfl, Nat.le_of_ble_eq_true rfl⟩) hN hC9 hX9 hB9 hK hP hD hS hA [0, 1, 2, 3, 4, 5, 6, 7, 8, 9, 10] [11] [0, 1, 2, 3, 4, 5, 6] ⟨rfl, rfl, rfl, rfl, rfl, by decide⟩ 0 rfl rfl rfl rfl hl.1 (Nat.le_of_ble_eq_true rfl) ⟨Nat.le_of_ble_eq_true rfl, Nat.le_of_ble_eq_true rfl⟩ dL_undo_3 (fun E ce q9_15 u H locs hw hP hD hS h7 h8 h9 => ?_) (fun r_1 u H locs hw hP hD hS => ?_)
  · skip
    obtain ⟨vM_owners_8, vE_placed_9, vE_out_10, vE_turn_11, vE_madeBy_12, vL_size_13⟩ := u
    try dsimp only at hw
    have hP : va_P D vwCl (cl_L_undo ad cs vH_fill vH_patience vM_owners_8 vE_placed_9 vE_playing vE_out_10 vE_turn_11 vE_madeBy_12 vL_size_13 vL_froms vL_tos vL_turns vL_outs vL_placeds vO) H := hP.sub [1, 2, 3, 4, 5, 6, 7, 8, 9, 10, 11, 0] rfl
    have hD : va_D A (cl_L_undo ad cs vH_fill vH_patience vM_owners_8 vE_placed_9 vE_playing vE_out_10 vE_turn_11 vE_madeBy_12 vL_size_13 vL_froms vL_tos vL_turns vL_outs vL_placeds vO) := hD.sub [1, 2, 3, 4, 5, 6, 7, 8, 9, 10, 11, 0] (by decide) rfl
    obtain ⟨hE, hw⟩ := hw
    subst hE
    refine vx_catch (name := jS) hown [] (⟨0, 8, 11, 28⟩ : ExceptionTableEntry) [] htab (fun z hz => by exact absurd hz List.not_mem_nil) (by decide) (by decide) (hts (.classLink RL 28 jS) (by decide +kernel)) (va_Nw.use rfl hC9.2.1) h7 h8 h9 ?_
    refine lv_astore_n (lv' := [(2, .ref q9_15), (0, .ref (ad 0)), (1, .ref (ad 48))]) hx hb dL_undo_11 rfl hl (by decide) rfl (fun ls hl => ?_)
    refine lv_iconst (v := (1 : Int32)) hx hb dL_undo_12 (by decide) ?_
    exact hret _ _ _ _ _ _ _ _ _ _ _ _ hw hP hD hS dL_undo_13
  obtain ⟨vM_owners_2, vE_placed_3, vE_out_4, vE_turn_5, vE_madeBy_6, vL_size_7⟩ := u
  try dsimp only at hw
  have hP : va_P D vwCl (cl_L_undo ad cs vH_fill vH_patience vM_owners_2 vE_placed_3 vE_playing vE_out_4 vE_turn_5 vE_madeBy_6 vL_size_7 vL_froms vL_tos vL_turns vL_outs vL_placeds vO) H := hP.sub [1, 2, 3, 4, 5, 6, 7, 8, 9, 10, 11, 0] rfl
  have hD : va_D A (cl_L_undo ad cs vH_fill vH_patience vM_owners_2 vE_placed_3 vE_playing vE_out_4 vE_turn_5 vE_madeBy_6 vL_size_7 vL_froms vL_tos vL_turns vL_outs vL_placeds vO) := hD.sub [1, 2, 3, 4, 5, 6, 7, 8, 9, 10, 11, 0] (by decide) rfl
  refine lv_i2l (v := (r_1).toInt64) hx hb dL_undo_6 rfl ?_
  obtain ⟨h_16, hw⟩ := hw
  refine va_last hx hb hK hP hD hS 11 7 rfl rfl h_16 dL_undo_7 (fun H locs hP hD hS => ?_)
  have hP : va_P D vwCl (cl_L_undo ad cs vH_fill vH_patience vM_owners_2 vE_placed_3 vE_playing vE_out_4 vE_turn_5 vE_madeBy_6 vL_size_7 vL_froms vL_tos vL_turns vL_outs vL_placeds (vp_updL vO (0 : Int32).toNatClampNeg ((r_1).toInt64))) H := hP
  have hD : va_D A (cl_L_undo ad cs vH_fill vH_patience vM_owners_2 vE_placed_3 vE_playing vE_out_4 vE_turn_5 vE_madeBy_6 vL_size_7 vL_froms vL_tos vL_turns vL_outs vL_placeds (vp_updL vO (0 : Int32).toNatClampNeg ((r_1).toInt64))) := hD
  refine lv_goto (tgt := 14) hx hb dL_undo_8 (by decide) ?_
  refine lv_iconst (v := (0 : Int32)) hx hb dL_undo_14 (by decide) ?_
  exact hret _ _ _ _ _ _ _ _ _ _ _ _ hw hP hD hS dL_undo_15
set_option maxHeartbeats 4000000 in
set_option maxRecDepth 100000 in
theorem c_L_undo (l : Launch) (hst : l.stackTraces = false) (D : va_G) (ad : Nat → Nat) (cs : Nat → ClassId) (sz : Nat) (vH_fill vH_patience : Int32) (vM_owners : Nat → Int32) (vE_placed vE_playing vE_out vE_turn : Int32) (vE_madeBy : Nat → Int32) (vL_size : Int32) (vL_froms vL_tos vL_turns vL_outs vL_placeds : Nat → Int32) (vO : Nat → Int64) (Q : Int32 → (Nat → Int32) → Int32 → Int32 → Int32 → (Nat → Int32) → Int32 → (Nat → Int64) → Prop) (hw : wp_L_undo vH_fill vH_patience vM_owners vE_placed vE_playing vE_out vE_turn vE_madeBy vL_size vL_froms vL_tos vL_turns vL_outs vL_placeds vO Q) :
  Met l yL_undo wsL_undo rm_L_undo (va_Pc [.ref (ad 0), .ref (ad 48)] (PXE D (cl_L_undo ad cs vH_fill vH_patience vM_owners vE_placed vE_playing vE_out vE_turn vE_madeBy vL_size vL_froms vL_tos vL_turns vL_outs vL_placeds vO) (ty_L_undo cs) sz)) (va_Qi (fun (r : Int32) (u : (Nat → Int32) × Int32 × Int32 × Int32 × (Nat → Int32) × Int32 × (Nat → Int64)) => Q r u.1 u.2.1 u.2.2.1 u.2.2.2.1 u.2.2.2.2.1 u.2.2.2.2.2.1 u.2.2.2.2.2.2) (fun (u : (Nat → Int32) × Int32 × Int32 × Int32 × (Nat → Int32) × Int32 × (Nat → Int64)) t => va_P D vwCl (cl_L_undo ad cs vH_fill vH_patience u.1 u.2.1 vE_playing u.2.2.1 u.2.2.2.1 u.2.2.2.2.1 u.2.2.2.2.2.1 vL_froms vL_tos vL_turns vL_outs vL_placeds u.2.2.2.2.2.2) t.heap ∧ va_D (va_A (cl_L_undo ad cs vH_fill vH_patience vM_owners vE_placed vE_playing vE_out vE_turn vE_madeBy vL_size vL_froms vL_tos vL_turns vL_outs vL_placeds vO) sz) (cl_L_undo ad cs vH_fill vH_patience u.1 u.2.1 vE_playing u.2.2.1 u.2.2.2.1 u.2.2.2.2.1 u.2.2.2.2.2.1 vL_froms vL_tos vL_turns vL_outs vL_placeds u.2.2.2.2.2.2)) (va_A (cl_L_undo ad cs vH_fill vH_patience vM_owners vE_placed vE_playing vE_out vE_turn vE_madeBy vL_size vL_froms vL_tos vL_turns vL_outs vL_placeds vO) sz)) 1 6 (va_A (cl_L_undo ad cs vH_fill vH_patience vM_owners vE_placed vE_playing vE_out vE_turn vE_madeBy vL_size vL_froms vL_tos vL_turns vL_outs vL_placeds vO) sz) := by
  refine va_MetW (cc := cL_undo) (maxL := 3) (ret := (some .int)) (hh := [(0, 8, 11, 28)]) (by decide) rfl ?_
  intro p e s m args below meth c s₁ B hml hv
  obtain ⟨rfl, ⟨hsz, hP, hK, hD0, hN⟩, hC9, hX9, hB9⟩ := hv
  subst hsz
  have hl := lv_entry ([.ref (ad 0), .ref (ad 48)]) (n := 3) (Nat.le_of_ble_eq_true rfl)
  rw [lg_entry_eq]
  have hx := B.exec
  have hb := B.bytes
  have hr := B.returns
  have hts := atoms_spec (ws := wsL_undo) B.pre
  have htab := vx_table (x := yL_undo) B (hts _ List.mem_cons_self)
  exact b_L_undo l D ad cs vH_fill vH_patience vM_owners vE_placed vE_playing vE_out vE_turn vE_madeBy vL_size vL_froms vL_tos vL_turns vL_outs vL_placeds vO Q hx hb hml (findClass_of_methodNamed B.named) hts hN hst htab hC9 hX9 hB9 hP hK hD0.self (fun q h => Or.inr h) hl (fun r o0 o1 o2 o3 o4 o5 o6 H locs pc ls hq hP hD hS hd => W.iret (v := r) hx hb hr (fun t ht hW => ⟨⟨r, (o0, o1, o2, o3, o4, o5, o6), rfl, hq, by rw [ht]; exact hP, hD⟩, hS.F ht⟩) hS.2.2 hd) hw
abbrev rm_L_at : Room := { frames := 7, cells := 1, slots := 6, locals := 111 }
abbrev cl_L_at (ad : Nat → Nat) (cs : Nat → ClassId) (vH_fill vH_patience : Int32) (vM_owners : Nat → Int32) (vO : Nat → Int64) : va_W := [((ad 0), .inr (6, [.ref (ad 1), .ref (ad 6), .ref (ad 8), .ref (ad 12), .ref (ad 19), .ref (ad 22), .int vH_fill, .int vH_patience])), ((ad 6), .inr (1, [.ref (ad 1), .ref (ad 7)])), ((ad 7), .inl ((cs 7), 121, .inl vM_owners)), ((ad 48), .inl ((cs 48), 1, .inr (.inl vO)))]
abbrev ty_L_at (cs : Nat → ClassId) : List (ClassId × FieldType) := [((cs 7), .int), ((cs 48), .long)]
def wp_L_at (vH_fill vH_patience : Int32) (vM_owners : Nat → Int32) (vO : Nat → Int64) (x1 : Int32) (Q : Int32 → (Nat → Int64) → Prop) : Prop :=
 wp_X6_at vH_fill vH_patience vM_owners x1 (fun r_1 =>
 (vp_in (0 : Int32) 1 ∧
 Q (0 : Int32) (vp_updL vO (0 : Int32).toNatClampNeg ((r_1).toInt64))))
 (fun E_2 => (E_2 = "java/lang/IndexOutOfBoundsException" ∧ Q (1 : Int32) vO))
set_option maxHeartbeats 4000000 in
set_option maxRecDepth 100000 in
theorem b_L_at {p : Program} {e : Env} {s : State} {m : MethodId} {args : Array Value} {below : List Frame} {meth : Method} {c : Code} {QQ : State → Prop} {A : Nat → Prop} {ls : Array Slot} (l : Launch) (D : va_G) (ad : Nat → Nat) (cs : Nat → ClassId) (vH_fill vH_patience : Int32) (vM_owners : Nat → Int32) (vO : Nat → Int64) (x1 : Int32) (Q : Int32 → (Nat → Int64) → Prop) (hx : p.tables.exec = Jvm.exec) (hb : c.code = cL_at) (hml : c.maxLocals = 4) (hown : s.vm.findClass RL = some m.cls) (hts : ∀ w ∈ wsL_at, w.before args s = true) (hN : NW s) (hst : l.stackTraces = false) (htab0 : c.exceptionTable.toList = [(⟨0, 9, 12, 26⟩ : ExceptionTableEntry)]) (hC9 : SXC s) (hX9 : SXT s) (hB9 : SB A s s.heap) (hP : va_P D vwCl (cl_L_at ad cs vH_fill vH_patience vM_owners vO) s.heap) (hK : va_K D vwCl (ty_L_at cs) s) (hD : va_D A (cl_L_at ad cs vH_fill vH_patience vM_owners vO)) (hA : ∀ q : Nat, s.heap.size ≤ q → A q) (hl : lv_has ls 4 [(0, .ref (ad 0)), (1, .int x1), (2, .ref (ad 48))])
  (hret : ∀ (r : Int32) (o0 : Nat → Int64) (H : Heap) (locs : List Loc) (pc : Nat) (ls : Array Slot), Q r o0 → va_P D vwCl (cl_L_at ad cs vH_fill vH_patience vM_owners o0) H → va_D A (cl_L_at ad cs vH_fill vH_patience vM_owners o0) → va_S A s.heap H locs → decode cL_at pc = .ok (.ireturn, 1) → W p l e rm_L_at s m args below meth c H locs 1 6 QQ (F0 m pc ls [.int r]))
  (hw : wp_L_at vH_fill vH_patience vM_owners vO x1 Q) :
  W p l e rm_L_at s m args below meth c s.heap [] 0 0 QQ (F0 m 0 ls []) := by
  have S0 : CallFix p m c cL_at 4 s args wsL_at RL := ⟨hx, hb, hml, hown, hts⟩
  have htab := htab0
  obtain ⟨H, hH⟩ : ∃ H : Heap, H = s.heap := ⟨_, rfl⟩
  have hS : va_S A s.heap H [] := by rw [hH]; exact va_S.rf
  rw [← hH] at hP ⊢
  unfold wp_L_at at hw
  refine lv_aload_n hx hb dL_at_0 rfl (lv_at hl 2 rfl) ?_
  refine lv_iconst (v := (0 : Int32)) hx hb dL_at_1 (by decide) ?_
  refine lv_aload_n hx hb dL_at_2 rfl (lv_at hl 0 rfl) ?_
  refine lv_iload_n hx hb dL_at_3 rfl (lv_at hl 1 rfl) ?_
  refine pxVi (rest := [.int (0 : Int32), .ref (ad 48)]) (wr := [((ad 48), .inl ((cs 48), 1, .inr (.inl vO)))]) (ci := 6) S0 (c_X6_at l hst D ad cs H.size vH_fill vH_patience vM_owners x1 _ _ hw) (cwV 1 hts gL_at_X6_at rfl rfl rfl (by decide +kernel) ⟨Nat.le_of_ble_eq_true rfl, Nat.le_of_ble_eq_true rfl⟩) hN hC9 hX9 hB9 hK hP hD hS hA [0, 1, 2] [3] [0] ⟨rfl, rfl, rfl, rfl, rfl, by decide⟩ 0 rfl rfl rfl rfl hl.1 (Nat.le_of_ble_eq_true rfl) ⟨Nat.le_of_ble_eq_true rfl, Nat.le_of_ble_eq_true rfl⟩ dL_at_4 (fun E ce q9_3 u H locs hw hP hD hS h7 h8 h9 => ?_) (fun r_1 u H locs hw hP hD hS => ?_)
  · skip
    try dsimp only at hw
    have hP : va_P D vwCl (cl_L_at ad cs vH_fill vH_patience vM_owners vO) H := hP.sub [1, 2, 3, 0] rfl
    have hD : va_D A (cl_L_at ad cs vH_fill vH_patience vM_owners vO) := hD.sub [1, 2, 3, 0] (by decide) rfl
    obtain ⟨hE, hw⟩ := hw
    subst hE
    refine vx_catch (name := jI) hown [] (⟨0, 9, 12, 26⟩ : ExceptionTableEntry) [] htab (fun z hz => by exact absurd hz List.not_mem_nil) (by decide) (by decide) (hts (.classLink RL 26 jI) (by decide +kernel)) (va_Nw.use rfl hC9.1) h7 h8 h9 ?_
    refine lv_astore_n (lv' := [(3, .ref q9_3), (0, .ref (ad 0)), (1, .int x1), (2, .ref (ad 48))]) hx hb dL_at_12 rfl hl (by decide) rfl (fun ls hl => ?_)
    refine lv_iconst (v := (1 : Int32)) hx hb dL_at_13 (by decide) ?_
    exact hret _ _ _ _ _ _ hw hP hD hS dL_at_14
  try dsimp only at hw
  have hP : va_P D vwCl (cl_L_at ad cs vH_fill vH_patience vM_owners vO) H := hP.sub [1, 2, 3, 0] rfl
  have hD : va_D A (cl_L_at ad cs vH_fill vH_patience vM_owners vO) := hD.sub [1, 2, 3, 0] (by decide) rfl
  refine lv_i2l (v := (r_1).toInt64) hx hb dL_at_7 rfl ?_
  obtain ⟨h_4, hw⟩ := hw
  refine va_last hx hb hK hP hD hS 3 1 rfl rfl h_4 dL_at_8 (fun H locs hP hD hS => ?_)
  have hP : va_P D vwCl (cl_L_at ad cs vH_fill vH_patience vM_owners (vp_updL vO (0 : Int32).toNatClampNeg ((r_1).toInt64))) H := hP
  have hD : va_D A (cl_L_at ad cs vH_fill vH_patience vM_owners (vp_updL vO (0 : Int32).toNatClampNeg ((r_1).toInt64))) := hD
  refine lv_goto (tgt := 15) hx hb dL_at_9 (by decide) ?_
  refine lv_iconst (v := (0 : Int32)) hx hb dL_at_15 (by decide) ?_
  exact hret _ _ _ _ _ _ hw hP hD hS dL_at_16
set_option maxHeartbeats 4000000 in
set_option maxRecDepth 100000 in
theorem c_L_at (l : Launch) (hst : l.stackTraces = false) (D : va_G) (ad : Nat → Nat) (cs : Nat → ClassId) (sz : Nat) (vH_fill vH_patience : Int32) (vM_owners : Nat → Int32) (vO : Nat → Int64) (x1 : Int32) (Q : Int32 → (Nat → Int64) → Prop) (hw : wp_L_at vH_fill vH_patience vM_owners vO x1 Q) :
  Met l yL_at wsL_at rm_L_at (va_Pc [.ref (ad 0), .int x1, .ref (ad 48)] (PXE D (cl_L_at ad cs vH_fill vH_patience vM_owners vO) (ty_L_at cs) sz)) (va_Qi (fun (r : Int32) (u : (Nat → Int64)) => Q r u) (fun (u : (Nat → Int64)) t => va_P D vwCl (cl_L_at ad cs vH_fill vH_patience vM_owners u) t.heap ∧ va_D (va_A (cl_L_at ad cs vH_fill vH_patience vM_owners vO) sz) (cl_L_at ad cs vH_fill vH_patience vM_owners u)) (va_A (cl_L_at ad cs vH_fill vH_patience vM_owners vO) sz)) 1 6 (va_A (cl_L_at ad cs vH_fill vH_patience vM_owners vO) sz) := by
  refine va_MetW (cc := cL_at) (maxL := 4) (ret := (some .int)) (hh := [(0, 9, 12, 26)]) (by decide) rfl ?_
  intro p e s m args below meth c s₁ B hml hv
  obtain ⟨rfl, ⟨hsz, hP, hK, hD0, hN⟩, hC9, hX9, hB9⟩ := hv
  subst hsz
  have hl := lv_entry ([.ref (ad 0), .int x1, .ref (ad 48)]) (n := 4) (Nat.le_of_ble_eq_true rfl)
  rw [lg_entry_eq]
  have hx := B.exec
  have hb := B.bytes
  have hr := B.returns
  have hts := atoms_spec (ws := wsL_at) B.pre
  have htab := vx_table (x := yL_at) B (hts _ List.mem_cons_self)
  exact b_L_at l D ad cs vH_fill vH_patience vM_owners vO x1 Q hx hb hml (findClass_of_methodNamed B.named) hts hN hst htab hC9 hX9 hB9 hP hK hD0.self (fun q h => Or.inr h) hl (fun r o0 H locs pc ls hq hP hD hS hd => W.iret (v := r) hx hb hr (fun t ht hW => ⟨⟨r, o0, rfl, hq, by rw [ht]; exact hP, hD⟩, hS.F ht⟩) hS.2.2 hd) hw
abbrev rm_L_campOf : Room := { frames := 7, cells := 1, slots := 6, locals := 111 }
abbrev cl_L_campOf (ad : Nat → Nat) (cs : Nat → ClassId) (vH_fill vH_patience : Int32) (vS_camps : Nat → Int32) (vO : Nat → Int64) : va_W := [((ad 0), .inr (6, [.ref (ad 1), .ref (ad 6), .ref (ad 8), .ref (ad 12), .ref (ad 19), .ref (ad 22), .int vH_fill, .int vH_patience])), ((ad 1), .inr (5, [.ref (ad 2), .ref (ad 3), .ref (ad 4), .ref (ad 5)])), ((ad 4), .inl ((cs 4), 121, .inl vS_camps)), ((ad 48), .inl ((cs 48), 1, .inr (.inl vO)))]
abbrev ty_L_campOf (cs : Nat → ClassId) : List (ClassId × FieldType) := [((cs 4), .int), ((cs 48), .long)]
def wp_L_campOf (vH_fill vH_patience : Int32) (vS_camps : Nat → Int32) (vO : Nat → Int64) (x1 : Int32) (Q : Int32 → (Nat → Int64) → Prop) : Prop :=
 wp_X6_campOf vH_fill vH_patience vS_camps x1 (fun r_1 =>
 (vp_in (0 : Int32) 1 ∧
 Q (0 : Int32) (vp_updL vO (0 : Int32).toNatClampNeg ((r_1).toInt64))))
 (fun E_2 => (E_2 = "java/lang/IndexOutOfBoundsException" ∧ Q (1 : Int32) vO))
set_option maxHeartbeats 4000000 in
set_option maxRecDepth 100000 in
theorem b_L_campOf {p : Program} {e : Env} {s : State} {m : MethodId} {args : Array Value} {below : List Frame} {meth : Method} {c : Code} {QQ : State → Prop} {A : Nat → Prop} {ls : Array Slot} (l : Launch) (D : va_G) (ad : Nat → Nat) (cs : Nat → ClassId) (vH_fill vH_patience : Int32) (vS_camps : Nat → Int32) (vO : Nat → Int64) (x1 : Int32) (Q : Int32 → (Nat → Int64) → Prop) (hx : p.tables.exec = Jvm.exec) (hb : c.code = cL_campOf) (hml : c.maxLocals = 4) (hown : s.vm.findClass RL = some m.cls) (hts : ∀ w ∈ wsL_campOf, w.before args s = true) (hN : NW s) (hst : l.stackTraces = false) (htab0 : c.exceptionTable.toList = [(⟨0, 9, 12, 26⟩ : ExceptionTableEntry)]) (hC9 : SXC s) (hX9 : SXT s) (hB9 : SB A s s.heap) (hP : va_P D vwCl (cl_L_campOf ad cs vH_fill vH_patience vS_camps vO) s.heap) (hK : va_K D vwCl (ty_L_campOf cs) s) (hD : va_D A (cl_L_campOf ad cs vH_fill vH_patience vS_camps vO)) (hA : ∀ q : Nat, s.heap.size ≤ q → A q) (hl : lv_has ls 4 [(0, .ref (ad 0)), (1, .int x1), (2, .ref (ad 48))])
  (hret : ∀ (r : Int32) (o0 : Nat → Int64) (H : Heap) (locs : List Loc) (pc : Nat) (ls : Array Slot), Q r o0 → va_P D vwCl (cl_L_campOf ad cs vH_fill vH_patience vS_camps o0) H → va_D A (cl_L_campOf ad cs vH_fill vH_patience vS_camps o0) → va_S A s.heap H locs → decode cL_campOf pc = .ok (.ireturn, 1) → W p l e rm_L_campOf s m args below meth c H locs 1 6 QQ (F0 m pc ls [.int r]))
  (hw : wp_L_campOf vH_fill vH_patience vS_camps vO x1 Q) :
  W p l e rm_L_campOf s m args below meth c s.heap [] 0 0 QQ (F0 m 0 ls []) := by
  have S0 : CallFix p m c cL_campOf 4 s args wsL_campOf RL := ⟨hx, hb, hml, hown, hts⟩
  have htab := htab0
  obtain ⟨H, hH⟩ : ∃ H : Heap, H = s.heap := ⟨_, rfl⟩
  have hS : va_S A s.heap H [] := by rw [hH]; exact va_S.rf
  rw [← hH] at hP ⊢
  unfold wp_L_campOf at hw
  refine lv_aload_n hx hb dL_campOf_0 rfl (lv_at hl 2 rfl) ?_
  refine lv_iconst (v := (0 : Int32)) hx hb dL_campOf_1 (by decide) ?_
  refine lv_aload_n hx hb dL_campOf_2 rfl (lv_at hl 0 rfl) ?_
  refine lv_iload_n hx hb dL_campOf_3 rfl (lv_at hl 1 rfl) ?_
  refine pxVi (rest := [.int (0 : Int32), .ref (ad 48)]) (wr := [((ad 48), .inl ((cs 48), 1, .inr (.inl vO)))]) (ci := 6) S0 (c_X6_campOf l hst D ad cs H.size vH_fill vH_patience vS_camps x1 _ _ hw) (cwV 1 hts gL_campOf_X6_campOf rfl rfl rfl (by decide +kernel) ⟨Nat.le_of_ble_eq_true rfl, Nat.le_of_ble_eq_true rfl⟩) hN hC9 hX9 hB9 hK hP hD hS hA [0, 1, 2] [3] [0] ⟨rfl, rfl, rfl, rfl, rfl, by decide⟩ 0 rfl rfl rfl rfl hl.1 (Nat.le_of_ble_eq_true rfl) ⟨Nat.le_of_ble_eq_true rfl, Nat.le_of_ble_eq_true rfl⟩ dL_campOf_4 (fun E ce q9_3 u H locs hw hP hD hS h7 h8 h9 => ?_) (fun r_1 u H locs hw hP hD hS => ?_)
  · skip
    try dsimp only at hw
    have hP : va_P D vwCl (cl_L_campOf ad cs vH_fill vH_patience vS_camps vO) H := hP.sub [1, 2, 3, 0] rfl
    have hD : va_D A (cl_L_campOf ad cs vH_fill vH_patience vS_camps vO) := hD.sub [1, 2, 3, 0] (by decide) rfl
    obtain ⟨hE, hw⟩ := hw
    subst hE
    refine vx_catch (name := jI) hown [] (⟨0, 9, 12, 26⟩ : ExceptionTableEntry) [] htab (fun z hz => by exact absurd hz List.not_mem_nil) (by decide) (by decide) (hts (.classLink RL 26 jI) (by decide +kernel)) (va_Nw.use rfl hC9.1) h7 h8 h9 ?_
    refine lv_astore_n (lv' := [(3, .ref q9_3), (0, .ref (ad 0)), (1, .int x1), (2, .ref (ad 48))]) hx hb dL_campOf_12 rfl hl (by decide) rfl (fun ls hl => ?_)
    refine lv_iconst (v := (1 : Int32)) hx hb dL_campOf_13 (by decide) ?_
    exact hret _ _ _ _ _ _ hw hP hD hS dL_campOf_14
  try dsimp only at hw
  have hP : va_P D vwCl (cl_L_campOf ad cs vH_fill vH_patience vS_camps vO) H := hP.sub [1, 2, 3, 0] rfl
  have hD : va_D A (cl_L_campOf ad cs vH_fill vH_patience vS_camps vO) := hD.sub [1, 2, 3, 0] (by decide) rfl
  refine lv_i2l (v := (r_1).toInt64) hx hb dL_campOf_7 rfl ?_
  obtain ⟨h_4, hw⟩ := hw
  refine va_last hx hb hK hP hD hS 3 1 rfl rfl h_4 dL_campOf_8 (fun H locs hP hD hS => ?_)
  have hP : va_P D vwCl (cl_L_campOf ad cs vH_fill vH_patience vS_camps (vp_updL vO (0 : Int32).toNatClampNeg ((r_1).toInt64))) H := hP
  have hD : va_D A (cl_L_campOf ad cs vH_fill vH_patience vS_camps (vp_updL vO (0 : Int32).toNatClampNeg ((r_1).toInt64))) := hD
  refine lv_goto (tgt := 15) hx hb dL_campOf_9 (by decide) ?_
  refine lv_iconst (v := (0 : Int32)) hx hb dL_campOf_15 (by decide) ?_
  exact hret _ _ _ _ _ _ hw hP hD hS dL_campOf_16
set_option maxHeartbeats 4000000 in
set_option maxRecDepth 100000 in
theorem c_L_campOf (l : Launch) (hst : l.stackTraces = false) (D : va_G) (ad : Nat → Nat) (cs : Nat → ClassId) (sz : Nat) (vH_fill vH_patience : Int32) (vS_camps : Nat → Int32) (vO : Nat → Int64) (x1 : Int32) (Q : Int32 → (Nat → Int64) → Prop) (hw : wp_L_campOf vH_fill vH_patience vS_camps vO x1 Q) :
  Met l yL_campOf wsL_campOf rm_L_campOf (va_Pc [.ref (ad 0), .int x1, .ref (ad 48)] (PXE D (cl_L_campOf ad cs vH_fill vH_patience vS_camps vO) (ty_L_campOf cs) sz)) (va_Qi (fun (r : Int32) (u : (Nat → Int64)) => Q r u) (fun (u : (Nat → Int64)) t => va_P D vwCl (cl_L_campOf ad cs vH_fill vH_patience vS_camps u) t.heap ∧ va_D (va_A (cl_L_campOf ad cs vH_fill vH_patience vS_camps vO) sz) (cl_L_campOf ad cs vH_fill vH_patience vS_camps u)) (va_A (cl_L_campOf ad cs vH_fill vH_patience vS_camps vO) sz)) 1 6 (va_A (cl_L_campOf ad cs vH_fill vH_patience vS_camps vO) sz) := by
  refine va_MetW (cc := cL_campOf) (maxL := 4) (ret := (some .int)) (hh := [(0, 9, 12, 26)]) (by decide) rfl ?_
  intro p e s m args below meth c s₁ B hml hv
  obtain ⟨rfl, ⟨hsz, hP, hK, hD0, hN⟩, hC9, hX9, hB9⟩ := hv
  subst hsz
  have hl := lv_entry ([.ref (ad 0), .int x1, .ref (ad 48)]) (n := 4) (Nat.le_of_ble_eq_true rfl)
  rw [lg_entry_eq]
  have hx := B.exec
  have hb := B.bytes
  have hr := B.returns
  have hts := atoms_spec (ws := wsL_campOf) B.pre
  have htab := vx_table (x := yL_campOf) B (hts _ List.mem_cons_self)
  exact b_L_campOf l D ad cs vH_fill vH_patience vS_camps vO x1 Q hx hb hml (findClass_of_methodNamed B.named) hts hN hst htab hC9 hX9 hB9 hP hK hD0.self (fun q h => Or.inr h) hl (fun r o0 H locs pc ls hq hP hD hS hd => W.iret (v := r) hx hb hr (fun t ht hW => ⟨⟨r, o0, rfl, hq, by rw [ht]; exact hP, hD⟩, hS.F ht⟩) hS.2.2 hd) hw
abbrev rm_L_distance : Room := { frames := 7, cells := 1, slots := 6, locals := 112 }
abbrev cl_L_distance (ad : Nat → Nat) (cs : Nat → ClassId) (vH_fill vH_patience : Int32) (vS_rows vS_columns : Nat → Int32) (vO : Nat → Int64) : va_W := [((ad 0), .inr (6, [.ref (ad 1), .ref (ad 6), .ref (ad 8), .ref (ad 12), .ref (ad 19), .ref (ad 22), .int vH_fill, .int vH_patience])), ((ad 1), .inr (5, [.ref (ad 2), .ref (ad 3), .ref (ad 4), .ref (ad 5)])), ((ad 2), .inl ((cs 2), 121, .inl vS_rows)), ((ad 3), .inl ((cs 3), 121, .inl vS_columns)), ((ad 48), .inl ((cs 48), 1, .inr (.inl vO)))]
abbrev ty_L_distance (cs : Nat → ClassId) : List (ClassId × FieldType) := [((cs 2), .int), ((cs 3), .int), ((cs 48), .long)]
def wp_L_distance (vH_fill vH_patience : Int32) (vS_rows vS_columns : Nat → Int32) (vO : Nat → Int64) (x1 x2 : Int32) (Q : Int32 → (Nat → Int64) → Prop) : Prop :=
 wp_X6_distance vH_fill vH_patience vS_rows vS_columns x1 x2 (fun r_1 =>
 (vp_in (0 : Int32) 1 ∧
 Q (0 : Int32) (vp_updL vO (0 : Int32).toNatClampNeg ((r_1).toInt64))))
 (fun E_2 => (E_2 = "java/lang/IndexOutOfBoundsException" ∧ Q (1 : Int32) vO))
set_option maxHeartbeats 4000000 in
set_option maxRecDepth 100000 in
theorem b_L_distance {p : Program} {e : Env} {s : State} {m : MethodId} {args : Array Value} {below : List Frame} {meth : Method} {c : Code} {QQ : State → Prop} {A : Nat → Prop} {ls : Array Slot} (l : Launch) (D : va_G) (ad : Nat → Nat) (cs : Nat → ClassId) (vH_fill vH_patience : Int32) (vS_rows vS_columns : Nat → Int32) (vO : Nat → Int64) (x1 x2 : Int32) (Q : Int32 → (Nat → Int64) → Prop) (hx : p.tables.exec = Jvm.exec) (hb : c.code = cL_distance) (hml : c.maxLocals = 5) (hown : s.vm.findClass RL = some m.cls) (hts : ∀ w ∈ wsL_distance, w.before args s = true) (hN : NW s) (hst : l.stackTraces = false) (htab0 : c.exceptionTable.toList = [(⟨0, 10, 13, 26⟩ : ExceptionTableEntry)]) (hC9 : SXC s) (hX9 : SXT s) (hB9 : SB A s s.heap) (hP : va_P D vwCl (cl_L_distance ad cs vH_fill vH_patience vS_rows vS_columns vO) s.heap) (hK : va_K D vwCl (ty_L_distance cs) s) (hD : va_D A (cl_L_distance ad cs vH_fill vH_patience vS_rows vS_columns vO)) (hA : ∀ q : Nat, s.heap.size ≤ q → A q) (hl : lv_has ls 5 [(0, .ref (ad 0)), (1, .int x1), (2, .int x2), (3, .ref (ad 48))])
  (hret : ∀ (r : Int32) (o0 : Nat → Int64) (H : Heap) (locs : List Loc) (pc : Nat) (ls : Array Slot), Q r o0 → va_P D vwCl (cl_L_distance ad cs vH_fill vH_patience vS_rows vS_columns o0) H → va_D A (cl_L_distance ad cs vH_fill vH_patience vS_rows vS_columns o0) → va_S A s.heap H locs → decode cL_distance pc = .ok (.ireturn, 1) → W p l e rm_L_distance s m args below meth c H locs 1 6 QQ (F0 m pc ls [.int r]))
  (hw : wp_L_distance vH_fill vH_patience vS_rows vS_columns vO x1 x2 Q) :
  W p l e rm_L_distance s m args below meth c s.heap [] 0 0 QQ (F0 m 0 ls []) := by
  have S0 : CallFix p m c cL_distance 5 s args wsL_distance RL := ⟨hx, hb, hml, hown, hts⟩
  have htab := htab0
  obtain ⟨H, hH⟩ : ∃ H : Heap, H = s.heap := ⟨_, rfl⟩
  have hS : va_S A s.heap H [] := by rw [hH]; exact va_S.rf
  rw [← hH] at hP ⊢
  unfold wp_L_distance at hw
  refine lv_aload_n hx hb dL_distance_0 rfl (lv_at hl 3 rfl) ?_
  refine lv_iconst (v := (0 : Int32)) hx hb dL_distance_1 (by decide) ?_
  refine lv_aload_n hx hb dL_distance_2 rfl (lv_at hl 0 rfl) ?_
  refine lv_iload_n hx hb dL_distance_3 rfl (lv_at hl 1 rfl) ?_
  refine lv_iload_n hx hb dL_distance_4 rfl (lv_at hl 2 rfl) ?_
  refine pxVi (rest := [.int (0 : Int32), .ref (ad 48)]) (wr := [((ad 48), .inl ((cs 48), 1, .inr (.inl vO)))]) (ci := 6) S0 (c_X6_distance l hst D ad cs H.size vH_fill vH_patience vS_rows vS_columns x1 x2 _ _ hw) (cwV 2 hts gL_distance_X6_distance rfl rfl rfl (by decide +kernel) ⟨Nat.le_of_ble_eq_true rfl, Nat.le_of_ble_eq_true rfl⟩) hN hC9 hX9 hB9 hK hP hD hS hA [0, 1, 2, 3] [4] [0, 1] ⟨rfl, rfl, rfl, rfl, rfl, by decide⟩ 0 rfl rfl rfl rfl hl.1 (Nat.le_of_ble_eq_true rfl) ⟨Nat.le_of_ble_eq_true rfl, Nat.le_of_ble_eq_true rfl⟩ dL_distance_5 (fun E ce q9_3 u H locs hw hP hD hS h7 h8 h9 => ?_) (fun r_1 u H locs hw hP hD hS => ?_)
  · skip
    try dsimp only at hw
    have hP : va_P D vwCl (cl_L_distance ad cs vH_fill vH_patience vS_rows vS_columns vO) H := hP.sub [1, 2, 3, 4, 0] rfl
    have hD : va_D A (cl_L_distance ad cs vH_fill vH_patience vS_rows vS_columns vO) := hD.sub [1, 2, 3, 4, 0] (by decide) rfl
    obtain ⟨hE, hw⟩ := hw
    subst hE
    refine vx_catch (name := jI) hown [] (⟨0, 10, 13, 26⟩ : ExceptionTableEntry) [] htab (fun z hz => by exact absurd hz List.not_mem_nil) (by decide) (by decide) (hts (.classLink RL 26 jI) (by decide +kernel)) (va_Nw.use rfl hC9.1) h7 h8 h9 ?_
    refine lv_astore (lv' := [(4, .ref q9_3), (0, .ref (ad 0)), (1, .int x1), (2, .int x2), (3, .ref (ad 48))]) hx hb dL_distance_13 hl (by decide) rfl (fun ls hl => ?_)
    refine lv_iconst (v := (1 : Int32)) hx hb dL_distance_15 (by decide) ?_
    exact hret _ _ _ _ _ _ hw hP hD hS dL_distance_16
  try dsimp only at hw
  have hP : va_P D vwCl (cl_L_distance ad cs vH_fill vH_patience vS_rows vS_columns vO) H := hP.sub [1, 2, 3, 4, 0] rfl
  have hD : va_D A (cl_L_distance ad cs vH_fill vH_patience vS_rows vS_columns vO) := hD.sub [1, 2, 3, 4, 0] (by decide) rfl
  refine lv_i2l (v := (r_1).toInt64) hx hb dL_distance_8 rfl ?_
  obtain ⟨h_4, hw⟩ := hw
  refine va_last hx hb hK hP hD hS 4 2 rfl rfl h_4 dL_distance_9 (fun H locs hP hD hS => ?_)
  have hP : va_P D vwCl (cl_L_distance ad cs vH_fill vH_patience vS_rows vS_columns (vp_updL vO (0 : Int32).toNatClampNeg ((r_1).toInt64))) H := hP
  have hD : va_D A (cl_L_distance ad cs vH_fill vH_patience vS_rows vS_columns (vp_updL vO (0 : Int32).toNatClampNeg ((r_1).toInt64))) := hD
  refine lv_goto (tgt := 17) hx hb dL_distance_10 (by decide) ?_
  refine lv_iconst (v := (0 : Int32)) hx hb dL_distance_17 (by decide) ?_
  exact hret _ _ _ _ _ _ hw hP hD hS dL_distance_18
set_option maxHeartbeats 4000000 in
set_option maxRecDepth 100000 in
theorem c_L_distance (l : Launch) (hst : l.stackTraces = false) (D : va_G) (ad : Nat → Nat) (cs : Nat → ClassId) (sz : Nat) (vH_fill vH_patience : Int32) (vS_rows vS_columns : Nat → Int32) (vO : Nat → Int64) (x1 x2 : Int32) (Q : Int32 → (Nat → Int64) → Prop) (hw : wp_L_distance vH_fill vH_patience vS_rows vS_columns vO x1 x2 Q) :
  Met l yL_distance wsL_distance rm_L_distance (va_Pc [.ref (ad 0), .int x1, .int x2, .ref (ad 48)] (PXE D (cl_L_distance ad cs vH_fill vH_patience vS_rows vS_columns vO) (ty_L_distance cs) sz)) (va_Qi (fun (r : Int32) (u : (Nat → Int64)) => Q r u) (fun (u : (Nat → Int64)) t => va_P D vwCl (cl_L_distance ad cs vH_fill vH_patience vS_rows vS_columns u) t.heap ∧ va_D (va_A (cl_L_distance ad cs vH_fill vH_patience vS_rows vS_columns vO) sz) (cl_L_distance ad cs vH_fill vH_patience vS_rows vS_columns u)) (va_A (cl_L_distance ad cs vH_fill vH_patience vS_rows vS_columns vO) sz)) 1 6 (va_A (cl_L_distance ad cs vH_fill vH_patience vS_rows vS_columns vO) sz) := by
  refine va_MetW (cc := cL_distance) (maxL := 5) (ret := (some .int)) (hh := [(0, 10, 13, 26)]) (by decide) rfl ?_
  intro p e s m args below meth c s₁ B hml hv
  obtain ⟨rfl, ⟨hsz, hP, hK, hD0, hN⟩, hC9, hX9, hB9⟩ := hv
  subst hsz
  have hl := lv_entry ([.ref (ad 0), .int x1, .int x2, .ref (ad 48)]) (n := 5) (Nat.le_of_ble_eq_true rfl)
  rw [lg_entry_eq]
  have hx := B.exec
  have hb := B.bytes
  have hr := B.returns
  have hts := atoms_spec (ws := wsL_distance) B.pre
  have htab := vx_table (x := yL_distance) B (hts _ List.mem_cons_self)
  exact b_L_distance l D ad cs vH_fill vH_patience vS_rows vS_columns vO x1 x2 Q hx hb hml (findClass_of_methodNamed B.named) hts hN hst htab hC9 hX9 hB9 hP hK hD0.self (fun q h => Or.inr h) hl (fun r o0 H locs pc ls hq hP hD hS hd => W.iret (v := r) hx hb hr (fun t ht hW => ⟨⟨r, o0, rfl, hq, by rw [ht]; exact hP, hD⟩, hS.F ht⟩) hS.2.2 hd) hw
abbrev rm_L_ends : Room := { frames := 7, cells := 1, slots := 6, locals := 139 }
abbrev cl_L_ends (ad : Nat → Nat) (cs : Nat → ClassId) (vH_fill vH_patience : Int32) (vS_camps vS_nexts vM_owners vR_hopsToEnd vR_level vR_queue : Nat → Int32) (vE_placed vE_playing vE_out vE_turn : Int32) (vO : Nat → Int64) : va_W := [((ad 0), .inr (6, [.ref (ad 1), .ref (ad 6), .ref (ad 8), .ref (ad 12), .ref (ad 19), .ref (ad 22), .int vH_fill, .int vH_patience])), ((ad 1), .inr (5, [.ref (ad 2), .ref (ad 3), .ref (ad 4), .ref (ad 5)])), ((ad 4), .inl ((cs 4), 121, .inl vS_camps)), ((ad 5), .inl ((cs 5), 726, .inl vS_nexts)), ((ad 6), .inr (1, [.ref (ad 1), .ref (ad 7)])), ((ad 7), .inl ((cs 7), 121, .inl vM_owners)), ((ad 8), .inr (3, [.ref (ad 1), .ref (ad 6), .ref (ad 9), .ref (ad 10), .ref (ad 11)])), ((ad 9), .inl ((cs 9), 121, .inl vR_hopsToEnd)), ((ad 10), .inl ((cs 10), 121, .inl vR_level)), ((ad 11), .inl ((cs 11), 121, .inl vR_queue)), ((ad 19), .inr (4, [.ref (ad 6), .ref (ad 20), .ref (ad 21), .int vE_placed, .int vE_playing, .int vE_out, .int vE_turn])), ((ad 48), .inl ((cs 48), 1, .inr (.inl vO)))]
abbrev ty_L_ends (cs : Nat → ClassId) : List (ClassId × FieldType) := [((cs 4), .int), ((cs 5), .int), ((cs 7), .int), ((cs 9), .int), ((cs 10), .int), ((cs 11), .int), ((cs 48), .long)]
def wp_L_ends (vH_fill vH_patience : Int32) (vS_camps vS_nexts vM_owners vR_hopsToEnd vR_level vR_queue : Nat → Int32) (vE_placed vE_playing vE_out vE_turn : Int32) (vO : Nat → Int64) (x1 : Int32) (Q : Int32 → (Nat → Int32) → (Nat → Int32) → (Nat → Int32) → (Nat → Int64) → Prop) : Prop :=
 wp_X6_ends vH_fill vH_patience vS_camps vS_nexts vM_owners vR_hopsToEnd vR_level vR_queue vE_placed vE_playing vE_out vE_turn x1 (fun r_1 vR_hopsToEnd_2 vR_level_3 vR_queue_4 =>
 (vp_in (0 : Int32) 1 ∧
 Q (0 : Int32) vR_hopsToEnd_2 vR_level_3 vR_queue_4 (vp_updL vO (0 : Int32).toNatClampNeg ((r_1).toInt64))))
 (fun E_8 vR_hopsToEnd_5 vR_level_6 vR_queue_7 => (E_8 = "java/lang/IndexOutOfBoundsException" ∧ Q (1 : Int32) vR_hopsToEnd_5 vR_level_6 vR_queue_7 vO))
set_option maxHeartbeats 4000000 in
set_option maxRecDepth 100000 in
theorem b_L_ends {p : Program} {e : Env} {s : State} {m : MethodId} {args : Array Value} {below : List Frame} {meth : Method} {c : Code} {QQ : State → Prop} {A : Nat → Prop} {ls : Array Slot} (l : Launch) (D : va_G) (ad : Nat → Nat) (cs : Nat → ClassId) (vH_fill vH_patience : Int32) (vS_camps vS_nexts vM_owners vR_hopsToEnd vR_level vR_queue : Nat → Int32) (vE_placed vE_playing vE_out vE_turn : Int32) (vO : Nat → Int64) (x1 : Int32) (Q : Int32 → (Nat → Int32) → (Nat → Int32) → (Nat → Int32) → (Nat → Int64) → Prop) (hx : p.tables.exec = Jvm.exec) (hb : c.code = cL_ends) (hml : c.maxLocals = 4) (hown : s.vm.findClass RL = some m.cls) (hts : ∀ w ∈ wsL_ends, w.before args s = true) (hN : NW s) (hst : l.stackTraces = false) (htab0 : c.exceptionTable.toList = [(⟨0, 9, 12, 26⟩ : ExceptionTableEntry)]) (hC9 : SXC s) (hX9 : SXT s) (hB9 : SB A s s.heap) (hP : va_P D vwCl (cl_L_ends ad cs vH_fill vH_patience vS_camps vS_nexts vM_owners vR_hopsToEnd vR_level vR_queue vE_placed vE_playing vE_out vE_turn vO) s.heap) (hK : va_K D vwCl (ty_L_ends cs) s) (hD : va_D A (cl_L_ends ad cs vH_fill vH_patience vS_camps vS_nexts vM_owners vR_hopsToEnd vR_level vR_queue vE_placed vE_playing vE_out vE_turn vO)) (hA : ∀ q : Nat, s.heap.size ≤ q → A q) (hl : lv_has ls 4 [(0, .ref (ad 0)), (1, .int x1), (2, .ref (ad 48))])
  (hret : ∀ (r : Int32) (o0 : Nat → Int32) (o1 : Nat → Int32) (o2 : Nat → Int32) (o3 : Nat → Int64) (H : Heap) (locs : List Loc) (pc : Nat) (ls : Array Slot), Q r o0 o1 o2 o3 → va_P D vwCl (cl_L_ends ad cs vH_fill vH_patience vS_camps vS_nexts vM_owners o0 o1 o2 vE_placed vE_playing vE_out vE_turn o3) H → va_D A (cl_L_ends ad cs vH_fill vH_patience vS_camps vS_nexts vM_owners o0 o1 o2 vE_placed vE_playing vE_out vE_turn o3) → va_S A s.heap H locs → decode cL_ends pc = .ok (.ireturn, 1) → W p l e rm_L_ends s m args below meth c H locs 1 6 QQ (F0 m pc ls [.int r]))
  (hw : wp_L_ends vH_fill vH_patience vS_camps vS_nexts vM_owners vR_hopsToEnd vR_level vR_queue vE_placed vE_playing vE_out vE_turn vO x1 Q) :
  W p l e rm_L_ends s m args below meth c s.heap [] 0 0 QQ (F0 m 0 ls []) := by
  have S0 : CallFix p m c cL_ends 4 s args wsL_ends RL := ⟨hx, hb, hml, hown, hts⟩
  have htab := htab0
  obtain ⟨H, hH⟩ : ∃ H : Heap, H = s.heap := ⟨_, rfl⟩
  have hS : va_S A s.heap H [] := by rw [hH]; exact va_S.rf
  rw [← hH] at hP ⊢
  unfold wp_L_ends at hw
  refine lv_aload_n hx hb dL_ends_0 rfl (lv_at hl 2 rfl) ?_
  refine lv_iconst (v := (0 : Int32)) hx hb dL_ends_1 (by decide) ?_
  refine lv_aload_n hx hb dL_ends_2 rfl (lv_at hl 0 rfl) ?_
  refine lv_iload_n hx hb dL_ends_3 rfl (lv_at hl 1 rfl) ?_
  refine pxVi (rest := [.int (0 : Int32), .ref (ad 48)]) (wr := [((ad 48), .inl ((cs 48), 1, .inr (.inl vO)))]) (ci := 6) S0 (c_X6_ends l hst D ad cs H.size vH_fill vH_patience vS_camps vS_nexts vM_owners vR_hopsToEnd vR_level vR_queue vE_placed vE_playing vE_out vE_turn x1 _ _ hw) (cwV 1 hts gL_ends_X6_ends rfl rfl rfl (by decide +kernel) ⟨Nat.le_of_ble_eq_true rfl, Nat.le_of_ble_eq_true rfl⟩) hN hC9 hX9 hB9 hK hP hD hS hA [0, 1, 2, 3, 4, 5, 6, 7, 8, 9, 10] [11] [0, 1, 2, 3, 4, 5] ⟨rfl, rfl, rfl, rfl, rfl, by decide⟩ 0 rfl rfl rfl rfl hl.1 (Nat.le_of_ble_eq_true rfl) ⟨Nat.le_of_ble_eq_true rfl, Nat.le_of_ble_eq_true rfl⟩ dL_ends_4 (fun E ce q9_9 u H locs hw hP hD hS h7 h8 h9 => ?_) (fun r_1 u H locs hw hP hD hS => ?_)
  · skip
    obtain ⟨vR_hopsToEnd_5, vR_level_6, vR_queue_7⟩ := u
    try dsimp only at hw
    have hP : va_P D vwCl (cl_L_ends ad cs vH_fill vH_patience vS_camps vS_nexts vM_owners vR_hopsToEnd_5 vR_level_6 vR_queue_7 vE_placed vE_playing vE_out vE_turn vO) H := hP.sub [1, 2, 3, 4, 5, 6, 7, 8, 9, 10, 11, 0] rfl
    have hD : va_D A (cl_L_ends ad cs vH_fill vH_patience vS_camps vS_nexts vM_owners vR_hopsToEnd_5 vR_level_6 vR_queue_7 vE_placed vE_playing vE_out vE_turn vO) := hD.sub [1, 2, 3, 4, 5, 6, 7, 8, 9, 10, 11, 0] (by decide) rfl
    obtain ⟨hE, hw⟩ := hw
    subst hE
    refine vx_catch (name := jI) hown [] (⟨0, 9, 12, 26⟩ : ExceptionTableEntry) [] htab (fun z hz => by exact absurd hz List.not_mem_nil) (by decide) (by decide) (hts (.classLink RL 26 jI) (by decide +kernel)) (va_Nw.use rfl hC9.1) h7 h8 h9 ?_
    refine lv_astore_n (lv' := [(3, .ref q9_9), (0, .ref (ad 0)), (1, .int x1), (2, .ref (ad 48))]) hx hb dL_ends_12 rfl hl (by decide) rfl (fun ls hl => ?_)
    refine lv_iconst (v := (1 : Int32)) hx hb dL_ends_13 (by decide) ?_
    exact hret _ _ _ _ _ _ _ _ _ hw hP hD hS dL_ends_14
  obtain ⟨vR_hopsToEnd_2, vR_level_3, vR_queue_4⟩ := u
  try dsimp only at hw
  have hP : va_P D vwCl (cl_L_ends ad cs vH_fill vH_patience vS_camps vS_nexts vM_owners vR_hopsToEnd_2 vR_level_3 vR_queue_4 vE_placed vE_playing vE_out vE_turn vO) H := hP.sub [1, 2, 3, 4, 5, 6, 7, 8, 9, 10, 11, 0] rfl
  have hD : va_D A (cl_L_ends ad cs vH_fill vH_patience vS_camps vS_nexts vM_owners vR_hopsToEnd_2 vR_level_3 vR_queue_4 vE_placed vE_playing vE_out vE_turn vO) := hD.sub [1, 2, 3, 4, 5, 6, 7, 8, 9, 10, 11, 0] (by decide) rfl
  refine lv_i2l (v := (r_1).toInt64) hx hb dL_ends_7 rfl ?_
  obtain ⟨h_10, hw⟩ := hw
  refine va_last hx hb hK hP hD hS 11 6 rfl rfl h_10 dL_ends_8 (fun H locs hP hD hS => ?_)
  have hP : va_P D vwCl (cl_L_ends ad cs vH_fill vH_patience vS_camps vS_nexts vM_owners vR_hopsToEnd_2 vR_level_3 vR_queue_4 vE_placed vE_playing vE_out vE_turn (vp_updL vO (0 : Int32).toNatClampNeg ((r_1).toInt64))) H := hP
  have hD : va_D A (cl_L_ends ad cs vH_fill vH_patience vS_camps vS_nexts vM_owners vR_hopsToEnd_2 vR_level_3 vR_queue_4 vE_placed vE_playing vE_out vE_turn (vp_updL vO (0 : Int32).toNatClampNeg ((r_1).toInt64))) := hD
  refine lv_goto (tgt := 15) hx hb dL_ends_9 (by decide) ?_
  refine lv_iconst (v := (0 : Int32)) hx hb dL_ends_15 (by decide) ?_
  exact hret _ _ _ _ _ _ _ _ _ hw hP hD hS dL_ends_16
set_option maxHeartbeats 4000000 in
set_option maxRecDepth 100000 in
theorem c_L_ends (l : Launch) (hst : l.stackTraces = false) (D : va_G) (ad : Nat → Nat) (cs : Nat → ClassId) (sz : Nat) (vH_fill vH_patience : Int32) (vS_camps vS_nexts vM_owners vR_hopsToEnd vR_level vR_queue : Nat → Int32) (vE_placed vE_playing vE_out vE_turn : Int32) (vO : Nat → Int64) (x1 : Int32) (Q : Int32 → (Nat → Int32) → (Nat → Int32) → (Nat → Int32) → (Nat → Int64) → Prop) (hw : wp_L_ends vH_fill vH_patience vS_camps vS_nexts vM_owners vR_hopsToEnd vR_level vR_queue vE_placed vE_playing vE_out vE_turn vO x1 Q) :
  Met l yL_ends wsL_ends rm_L_ends (va_Pc [.ref (ad 0), .int x1, .ref (ad 48)] (PXE D (cl_L_ends ad cs vH_fill vH_patience vS_camps vS_nexts vM_owners vR_hopsToEnd vR_level vR_queue vE_placed vE_playing vE_out vE_turn vO) (ty_L_ends cs) sz)) (va_Qi (fun (r : Int32) (u : (Nat → Int32) × (Nat → Int32) × (Nat → Int32) × (Nat → Int64)) => Q r u.1 u.2.1 u.2.2.1 u.2.2.2) (fun (u : (Nat → Int32) × (Nat → Int32) × (Nat → Int32) × (Nat → Int64)) t => va_P D vwCl (cl_L_ends ad cs vH_fill vH_patience vS_camps vS_nexts vM_owners u.1 u.2.1 u.2.2.1 vE_placed vE_playing vE_out vE_turn u.2.2.2) t.heap ∧ va_D (va_A (cl_L_ends ad cs vH_fill vH_patience vS_camps vS_nexts vM_owners vR_hopsToEnd vR_level vR_queue vE_placed vE_playing vE_out vE_turn vO) sz) (cl_L_ends ad cs vH_fill vH_patience vS_camps vS_nexts vM_owners u.1 u.2.1 u.2.2.1 vE_placed vE_playing vE_out vE_turn u.2.2.2)) (va_A (cl_L_ends ad cs vH_fill vH_patience vS_camps vS_nexts vM_owners vR_hopsToEnd vR_level vR_queue vE_placed vE_playing vE_out vE_turn vO) sz)) 1 6 (va_A (cl_L_ends ad cs vH_fill vH_patience vS_camps vS_nexts vM_owners vR_hopsToEnd vR_level vR_queue vE_placed vE_playing vE_out vE_turn vO) sz) := by
  refine va_MetW (cc := cL_ends) (maxL := 4) (ret := (some .int)) (hh := [(0, 9, 12, 26)]) (by decide) rfl ?_
  intro p e s m args below meth c s₁ B hml hv
  obtain ⟨rfl, ⟨hsz, hP, hK, hD0, hN⟩, hC9, hX9, hB9⟩ := hv
  subst hsz
  have hl := lv_entry ([.ref (ad 0), .int x1, .ref (ad 48)]) (n := 4) (Nat.le_of_ble_eq_true rfl)
  rw [lg_entry_eq]
  have hx := B.exec
  have hb := B.bytes
  have hr := B.returns
  have hts := atoms_spec (ws := wsL_ends) B.pre
  have htab := vx_table (x := yL_ends) B (hts _ List.mem_cons_self)
  exact b_L_ends l D ad cs vH_fill vH_patience vS_camps vS_nexts vM_owners vR_hopsToEnd vR_level vR_queue vE_placed vE_playing vE_out vE_turn vO x1 Q hx hb hml (findClass_of_methodNamed B.named) hts hN hst htab hC9 hX9 hB9 hP hK hD0.self (fun q h => Or.inr h) hl (fun r o0 o1 o2 o3 H locs pc ls hq hP hD hS hd => W.iret (v := r) hx hb hr (fun t ht hW => ⟨⟨r, (o0, o1, o2, o3), rfl, hq, by rw [ht]; exact hP, hD⟩, hS.F ht⟩) hS.2.2 hd) hw
abbrev rm_L_endAt : Room := { frames := 7, cells := 1, slots := 6, locals := 141 }
abbrev cl_L_endAt (ad : Nat → Nat) (cs : Nat → ClassId) (vH_fill vH_patience : Int32) (vS_camps vS_nexts vM_owners vR_hopsToEnd vR_level vR_queue : Nat → Int32) (vE_placed vE_playing vE_out vE_turn : Int32) (vO : Nat → Int64) : va_W := [((ad 0), .inr (6, [.ref (ad 1), .ref (ad 6), .ref (ad 8), .ref (ad 12), .ref (ad 19), .ref (ad 22), .int vH_fill, .int vH_patience])), ((ad 1), .inr (5, [.ref (ad 2), .ref (ad 3), .ref (ad 4), .ref (ad 5)])), ((ad 4), .inl ((cs 4), 121, .inl vS_camps)), ((ad 5), .inl ((cs 5), 726, .inl vS_nexts)), ((ad 6), .inr (1, [.ref (ad 1), .ref (ad 7)])), ((ad 7), .inl ((cs 7), 121, .inl vM_owners)), ((ad 8), .inr (3, [.ref (ad 1), .ref (ad 6), .ref (ad 9), .ref (ad 10), .ref (ad 11)])), ((ad 9), .inl ((cs 9), 121, .inl vR_hopsToEnd)), ((ad 10), .inl ((cs 10), 121, .inl vR_level)), ((ad 11), .inl ((cs 11), 121, .inl vR_queue)), ((ad 19), .inr (4, [.ref (ad 6), .ref (ad 20), .ref (ad 21), .int vE_placed, .int vE_playing, .int vE_out, .int vE_turn])), ((ad 48), .inl ((cs 48), 1, .inr (.inl vO)))]
abbrev ty_L_endAt (cs : Nat → ClassId) : List (ClassId × FieldType) := [((cs 4), .int), ((cs 5), .int), ((cs 7), .int), ((cs 9), .int), ((cs 10), .int), ((cs 11), .int), ((cs 48), .long)]
def wp_L_endAt (vH_fill vH_patience : Int32) (vS_camps vS_nexts vM_owners vR_hopsToEnd vR_level vR_queue : Nat → Int32) (vE_placed vE_playing vE_out vE_turn : Int32) (vO : Nat → Int64) (x1 x2 : Int32) (Q : Int32 → (Nat → Int32) → (Nat → Int32) → (Nat → Int32) → (Nat → Int64) → Prop) : Prop :=
 wp_X6_endAt vH_fill vH_patience vS_camps vS_nexts vM_owners vR_hopsToEnd vR_level vR_queue vE_placed vE_playing vE_out vE_turn x1 x2 (fun r_1 vR_hopsToEnd_2 vR_level_3 vR_queue_4 =>
 (vp_in (0 : Int32) 1 ∧
 Q (0 : Int32) vR_hopsToEnd_2 vR_level_3 vR_queue_4 (vp_updL vO (0 : Int32).toNatClampNeg ((r_1).toInt64))))
 (fun E_8 vR_hopsToEnd_5 vR_level_6 vR_queue_7 => (E_8 = "java/lang/IndexOutOfBoundsException" ∧ Q (1 : Int32) vR_hopsToEnd_5 vR_level_6 vR_queue_7 vO))
set_option maxHeartbeats 4000000 in
set_option maxRecDepth 100000 in
theorem b_L_endAt {p : Program} {e : Env} {s : State} {m : MethodId} {args : Array Value} {below : List Frame} {meth : Method} {c : Code} {QQ : State → Prop} {A : Nat → Prop} {ls : Array Slot} (l : Launch) (D : va_G) (ad : Nat → Nat) (cs : Nat → ClassId) (vH_fill vH_patience : Int32) (vS_camps vS_nexts vM_owners vR_hopsToEnd vR_level vR_queue : Nat → Int32) (vE_placed vE_playing vE_out vE_turn : Int32) (vO : Nat → Int64) (x1 x2 : Int32) (Q : Int32 → (Nat → Int32) → (Nat → Int32) → (Nat → Int32) → (Nat → Int64) → Prop) (hx : p.tables.exec = Jvm.exec) (hb : c.code = cL_endAt) (hml : c.maxLocals = 5) (hown : s.vm.findClass RL = some m.cls) (hts : ∀ w ∈ wsL_endAt, w.before args s = true) (hN : NW s) (hst : l.stackTraces = false) (htab0 : c.exceptionTable.toList = [(⟨0, 10, 13, 26⟩ : ExceptionTableEntry)]) (hC9 : SXC s) (hX9 : SXT s) (hB9 : SB A s s.heap) (hP : va_P D vwCl (cl_L_endAt ad cs vH_fill vH_patience vS_camps vS_nexts vM_owners vR_hopsToEnd vR_level vR_queue vE_placed vE_playing vE_out vE_turn vO) s.heap) (hK : va_K D vwCl (ty_L_endAt cs) s) (hD : va_D A (cl_L_endAt ad cs vH_fill vH_patience vS_camps vS_nexts vM_owners vR_hopsToEnd vR_level vR_queue vE_placed vE_playing vE_out vE_turn vO)) (hA : ∀ q : Nat, s.heap.size ≤ q → A q) (hl : lv_has ls 5 [(0, .ref (ad 0)), (1, .int x1), (2, .int x2), (3, .ref (ad 48))])
  (hret : ∀ (r : Int32) (o0 : Nat → Int32) (o1 : Nat → Int32) (o2 : Nat → Int32) (o3 : Nat → Int64) (H : Heap) (locs : List Loc) (pc : Nat) (ls : Array Slot), Q r o0 o1 o2 o3 → va_P D vwCl (cl_L_endAt ad cs vH_fill vH_patience vS_camps vS_nexts vM_owners o0 o1 o2 vE_placed vE_playing vE_out vE_turn o3) H → va_D A (cl_L_endAt ad cs vH_fill vH_patience vS_camps vS_nexts vM_owners o0 o1 o2 vE_placed vE_playing vE_out vE_turn o3) → va_S A s.heap H locs → decode cL_endAt pc = .ok (.ireturn, 1) → W p l e rm_L_endAt s m args below meth c H locs 1 6 QQ (F0 m pc ls [.int r]))
  (hw : wp_L_endAt vH_fill vH_patience vS_camps vS_nexts vM_owners vR_hopsToEnd vR_level vR_queue vE_placed vE_playing vE_out vE_turn vO x1 x2 Q) :
  W p l e rm_L_endAt s m args below meth c s.heap [] 0 0 QQ (F0 m 0 ls []) := by
  have S0 : CallFix p m c cL_endAt 5 s args wsL_endAt RL := ⟨hx, hb, hml, hown, hts⟩
  have htab := htab0
  obtain ⟨H, hH⟩ : ∃ H : Heap, H = s.heap := ⟨_, rfl⟩
  have hS : va_S A s.heap H [] := by rw [hH]; exact va_S.rf
  rw [← hH] at hP ⊢
  unfold wp_L_endAt at hw
  refine lv_aload_n hx hb dL_endAt_0 rfl (lv_at hl 3 rfl) ?_
  refine lv_iconst (v := (0 : Int32)) hx hb dL_endAt_1 (by decide) ?_
  refine lv_aload_n hx hb dL_endAt_2 rfl (lv_at hl 0 rfl) ?_
  refine lv_iload_n hx hb dL_endAt_3 rfl (lv_at hl 1 rfl) ?_
  refine lv_iload_n hx hb dL_endAt_4 rfl (lv_at hl 2 rfl) ?_
  refine pxVi (rest := [.int (0 : Int32), .ref (ad 48)]) (wr := [((ad 48), .inl ((cs 48), 1, .inr (.inl vO)))]) (ci := 6) S0 (c_X6_endAt l hst D ad cs H.size vH_fill vH_patience vS_camps vS_nexts vM_owners vR_hopsToEnd vR_level vR_queue vE_placed vE_playing vE_out vE_turn x1 x2 _ _ hw) (cwV 2 hts gL_endAt_X6_endAt rfl rfl rfl (by decide +kernel) ⟨Nat.le_of_ble_eq_true rfl, Nat.le_of_ble_eq_true rfl⟩) hN hC9 hX9 hB9 hK hP hD hS hA [0, 1, 2, 3, 4, 5, 6, 7, 8, 9, 10] [11] [0, 1, 2, 3, 4, 5] ⟨rfl, rfl, rfl, rfl, rfl, by decide⟩ 0 rfl rfl rfl rfl hl.1 (Nat.le_of_ble_eq_true rfl) ⟨Nat.le_of_ble_eq_true rfl, Nat.le_of_ble_eq_true rfl⟩ dL_endAt_5 (fun E ce q9_9 u H locs hw hP hD hS h7 h8 h9 => ?_) (fun r_1 u H locs hw hP hD hS => ?_)
  · skip
    obtain ⟨vR_hopsToEnd_5, vR_level_6, vR_queue_7⟩ := u
    try dsimp only at hw
    have hP : va_P D vwCl (cl_L_endAt ad cs vH_fill vH_patience vS_camps vS_nexts vM_owners vR_hopsToEnd_5 vR_level_6 vR_queue_7 vE_placed vE_playing vE_out vE_turn vO) H := hP.sub [1, 2, 3, 4, 5, 6, 7, 8, 9, 10, 11, 0] rfl
    have hD : va_D A (cl_L_endAt ad cs vH_fill vH_patience vS_camps vS_nexts vM_owners vR_hopsToEnd_5 vR_level_6 vR_queue_7 vE_placed vE_playing vE_out vE_turn vO) := hD.sub [1, 2, 3, 4, 5, 6, 7, 8, 9, 10, 11, 0] (by decide) rfl
    obtain ⟨hE, hw⟩ := hw
    subst hE
    refine vx_catch (name := jI) hown [] (⟨0, 10, 13, 26⟩ : ExceptionTableEntry) [] htab (fun z hz => by exact absurd hz List.not_mem_nil) (by decide) (by decide) (hts (.classLink RL 26 jI) (by decide +kernel)) (va_Nw.use rfl hC9.1) h7 h8 h9 ?_
    refine lv_astore (lv' := [(4, .ref q9_9), (0, .ref (ad 0)), (1, .int x1), (2, .int x2), (3, .ref (ad 48))]) hx hb dL_endAt_13 hl (by decide) rfl (fun ls hl => ?_)
    refine lv_iconst (v := (1 : Int32)) hx hb dL_endAt_15 (by decide) ?_
    exact hret _ _ _ _ _ _ _ _ _ hw hP hD hS dL_endAt_16
  obtain ⟨vR_hopsToEnd_2, vR_level_3, vR_queue_4⟩ := u
  try dsimp only at hw
  have hP : va_P D vwCl (cl_L_endAt ad cs vH_fill vH_patience vS_camps vS_nexts vM_owners vR_hopsToEnd_2 vR_level_3 vR_queue_4 vE_placed vE_playing vE_out vE_turn vO) H := hP.sub [1, 2, 3, 4, 5, 6, 7, 8, 9, 10, 11, 0] rfl
  have hD : va_D A (cl_L_endAt ad cs vH_fill vH_patience vS_camps vS_nexts vM_owners vR_hopsToEnd_2 vR_level_3 vR_queue_4 vE_placed vE_playing vE_out vE_turn vO) := hD.sub [1, 2, 3, 4, 5, 6, 7, 8, 9, 10, 11, 0] (by decide) rfl
  refine lv_i2l (v := (r_1).toInt64) hx hb dL_endAt_8 rfl ?_
  obtain ⟨h_10, hw⟩ := hw
  refine va_last hx hb hK hP hD hS 11 6 rfl rfl h_10 dL_endAt_9 (fun H locs hP hD hS => ?_)
  have hP : va_P D vwCl (cl_L_endAt ad cs vH_fill vH_patience vS_camps vS_nexts vM_owners vR_hopsToEnd_2 vR_level_3 vR_queue_4 vE_placed vE_playing vE_out vE_turn (vp_updL vO (0 : Int32).toNatClampNeg ((r_1).toInt64))) H := hP
  have hD : va_D A (cl_L_endAt ad cs vH_fill vH_patience vS_camps vS_nexts vM_owners vR_hopsToEnd_2 vR_level_3 vR_queue_4 vE_placed vE_playing vE_out vE_turn (vp_updL vO (0 : Int32).toNatClampNeg ((r_1).toInt64))) := hD
  refine lv_goto (tgt := 17) hx hb dL_endAt_10 (by decide) ?_
  refine lv_iconst (v := (0 : Int32)) hx hb dL_endAt_17 (by decide) ?_
  exact hret _ _ _ _ _ _ _ _ _ hw hP hD hS dL_endAt_18
set_option maxHeartbeats 4000000 in
set_option maxRecDepth 100000 in
theorem c_L_endAt (l : Launch) (hst : l.stackTraces = false) (D : va_G) (ad : Nat → Nat) (cs : Nat → ClassId) (sz : Nat) (vH_fill vH_patience : Int32) (vS_camps vS_nexts vM_owners vR_hopsToEnd vR_level vR_queue : Nat → Int32) (vE_placed vE_playing vE_out vE_turn : Int32) (vO : Nat → Int64) (x1 x2 : Int32) (Q : Int32 → (Nat → Int32) → (Nat → Int32) → (Nat → Int32) → (Nat → Int64) → Prop) (hw : wp_L_endAt vH_fill vH_patience vS_camps vS_nexts vM_owners vR_hopsToEnd vR_level vR_queue vE_placed vE_playing vE_out vE_turn vO x1 x2 Q) :
  Met l yL_endAt wsL_endAt rm_L_endAt (va_Pc [.ref (ad 0), .int x1, .int x2, .ref (ad 48)] (PXE D (cl_L_endAt ad cs vH_fill vH_patience vS_camps vS_nexts vM_owners vR_hopsToEnd vR_level vR_queue vE_placed vE_playing vE_out vE_turn vO) (ty_L_endAt cs) sz)) (va_Qi (fun (r : Int32) (u : (Nat → Int32) × (Nat → Int32) × (Nat → Int32) × (Nat → Int64)) => Q r u.1 u.2.1 u.2.2.1 u.2.2.2) (fun (u : (Nat → Int32) × (Nat → Int32) × (Nat → Int32) × (Nat → Int64)) t => va_P D vwCl (cl_L_endAt ad cs vH_fill vH_patience vS_camps vS_nexts vM_owners u.1 u.2.1 u.2.2.1 vE_placed vE_playing vE_out vE_turn u.2.2.2) t.heap ∧ va_D (va_A (cl_L_endAt ad cs vH_fill vH_patience vS_camps vS_nexts vM_owners vR_hopsToEnd vR_level vR_queue vE_placed vE_playing vE_out vE_turn vO) sz) (cl_L_endAt ad cs vH_fill vH_patience vS_camps vS_nexts vM_owners u.1 u.2.1 u.2.2.1 vE_placed vE_playing vE_out vE_turn u.2.2.2)) (va_A (cl_L_endAt ad cs vH_fill vH_patience vS_camps vS_nexts vM_owners vR_hopsToEnd vR_level vR_queue vE_placed vE_playing vE_out vE_turn vO) sz)) 1 6 (va_A (cl_L_endAt ad cs vH_fill vH_patience vS_camps vS_nexts vM_owners vR_hopsToEnd vR_level vR_queue vE_placed vE_playing vE_out vE_turn vO) sz) := by
  refine va_MetW (cc := cL_endAt) (maxL := 5) (ret := (some .int)) (hh := [(0, 10, 13, 26)]) (by decide) rfl ?_
  intro p e s m args below meth c s₁ B hml hv
  obtain ⟨rfl, ⟨hsz, hP, hK, hD0, hN⟩, hC9, hX9, hB9⟩ := hv
  subst hsz
  have hl := lv_entry ([.ref (ad 0), .int x1, .int x2, .ref (ad 48)]) (n := 5) (Nat.le_of_ble_eq_true rfl)
  rw [lg_entry_eq]
  have hx := B.exec
  have hb := B.bytes
  have hr := B.returns
  have hts := atoms_spec (ws := wsL_endAt) B.pre
  have htab := vx_table (x := yL_endAt) B (hts _ List.mem_cons_self)
  exact b_L_endAt l D ad cs vH_fill vH_patience vS_camps vS_nexts vM_owners vR_hopsToEnd vR_level vR_queue vE_placed vE_playing vE_out vE_turn vO x1 x2 Q hx hb hml (findClass_of_methodNamed B.named) hts hN hst htab hC9 hX9 hB9 hP hK hD0.self (fun q h => Or.inr h) hl (fun r o0 o1 o2 o3 H locs pc ls hq hP hD hS hd => W.iret (v := r) hx hb hr (fun t ht hW => ⟨⟨r, (o0, o1, o2, o3), rfl, hq, by rw [ht]; exact hP, hD⟩, hS.F ht⟩) hS.2.2 hd) hw
abbrev rm_L_chainAt : Room := { frames := 7, cells := 1, slots := 6, locals := 142 }
abbrev cl_L_chainAt (ad : Nat → Nat) (cs : Nat → ClassId) (vH_fill vH_patience : Int32) (vS_camps vS_nexts vM_owners vR_hopsToEnd vR_level vR_queue : Nat → Int32) (vE_placed vE_playing vE_out vE_turn : Int32) (vO : Nat → Int64) : va_W := [((ad 0), .inr (6, [.ref (ad 1), .ref (ad 6), .ref (ad 8), .ref (ad 12), .ref (ad 19), .ref (ad 22), .int vH_fill, .int vH_patience])), ((ad 1), .inr (5, [.ref (ad 2), .ref (ad 3), .ref (ad 4), .ref (ad 5)])), ((ad 4), .inl ((cs 4), 121, .inl vS_camps)), ((ad 5), .inl ((cs 5), 726, .inl vS_nexts)), ((ad 6), .inr (1, [.ref (ad 1), .ref (ad 7)])), ((ad 7), .inl ((cs 7), 121, .inl vM_owners)), ((ad 8), .inr (3, [.ref (ad 1), .ref (ad 6), .ref (ad 9), .ref (ad 10), .ref (ad 11)])), ((ad 9), .inl ((cs 9), 121, .inl vR_hopsToEnd)), ((ad 10), .inl ((cs 10), 121, .inl vR_level)), ((ad 11), .inl ((cs 11), 121, .inl vR_queue)), ((ad 19), .inr (4, [.ref (ad 6), .ref (ad 20), .ref (ad 21), .int vE_placed, .int vE_playing, .int vE_out, .int vE_turn])), ((ad 48), .inl ((cs 48), 1, .inr (.inl vO)))]
abbrev ty_L_chainAt (cs : Nat → ClassId) : List (ClassId × FieldType) := [((cs 4), .int), ((cs 5), .int), ((cs 7), .int), ((cs 9), .int), ((cs 10), .int), ((cs 11), .int), ((cs 48), .long)]
def wp_L_chainAt (vH_fill vH_patience : Int32) (vS_camps vS_nexts vM_owners vR_hopsToEnd vR_level vR_queue : Nat → Int32) (vE_placed vE_playing vE_out vE_turn : Int32) (vO : Nat → Int64) (x1 x2 x3 : Int32) (Q : Int32 → (Nat → Int32) → (Nat → Int32) → (Nat → Int32) → (Nat → Int64) → Prop) : Prop :=
 wp_X6_chainAt vH_fill vH_patience vS_camps vS_nexts vM_owners vR_hopsToEnd vR_level vR_queue vE_placed vE_playing vE_out vE_turn x1 x2 x3 (fun r_1 vR_hopsToEnd_2 vR_level_3 vR_queue_4 =>
 (vp_in (0 : Int32) 1 ∧
 Q (0 : Int32) vR_hopsToEnd_2 vR_level_3 vR_queue_4 (vp_updL vO (0 : Int32).toNatClampNeg ((r_1).toInt64))))
 (fun E_8 vR_hopsToEnd_5 vR_level_6 vR_queue_7 => (E_8 = "java/lang/IndexOutOfBoundsException" ∧ Q (1 : Int32) vR_hopsToEnd_5 vR_level_6 vR_queue_7 vO))
set_option maxHeartbeats 4000000 in
set_option maxRecDepth 100000 in
theorem b_L_chainAt {p : Program} {e : Env} {s : State} {m : MethodId} {args : Array Value} {below : List Frame} {meth : Method} {c : Code} {QQ : State → Prop} {A : Nat → Prop} {ls : Array Slot} (l : Launch) (D : va_G) (ad : Nat → Nat) (cs : Nat → ClassId) (vH_fill vH_patience : Int32) (vS_camps vS_nexts vM_owners vR_hopsToEnd vR_level vR_queue : Nat → Int32) (vE_placed vE_playing vE_out vE_turn : Int32) (vO : Nat → Int64) (x1 x2 x3 : Int32) (Q : Int32 → (Nat → Int32) → (Nat → Int32) → (Nat → Int32) → (Nat → Int64) → Prop) (hx : p.tables.exec = Jvm.exec) (hb : c.code = cL_chainAt) (hml : c.maxLocals = 6) (hown : s.vm.findClass RL = some m.cls) (hts : ∀ w ∈ wsL_chainAt, w.before args s = true) (hN : NW s) (hst : l.stackTraces = false) (htab0 : c.exceptionTable.toList = [(⟨0, 12, 15, 26⟩ : ExceptionTableEntry)]) (hC9 : SXC s) (hX9 : SXT s) (hB9 : SB A s s.heap) (hP : va_P D vwCl (cl_L_chainAt ad cs vH_fill vH_patience vS_camps vS_nexts vM_owners vR_hopsToEnd vR_level vR_queue vE_placed vE_playing vE_out vE_turn vO) s.heap) (hK : va_K D vwCl (ty_L_chainAt cs) s) (hD : va_D A (cl_L_chainAt ad cs vH_fill vH_patience vS_camps vS_nexts vM_owners vR_hopsToEnd vR_level vR_queue vE_placed vE_playing vE_out vE_turn vO)) (hA : ∀ q : Nat, s.heap.size ≤ q → A q) (hl : lv_has ls 6 [(0, .ref (ad 0)), (1, .int x1), (2, .int x2), (3, .int x3), (4, .ref (ad 48))])
  (hret : ∀ (r : Int32) (o0 : Nat → Int32) (o1 : Nat → Int32) (o2 : Nat → Int32) (o3 : Nat → Int64) (H : Heap) (locs : List Loc) (pc : Nat) (ls : Array Slot), Q r o0 o1 o2 o3 → va_P D vwCl (cl_L_chainAt ad cs vH_fill vH_patience vS_camps vS_nexts vM_owners o0 o1 o2 vE_placed vE_playing vE_out vE_turn o3) H → va_D A (cl_L_chainAt ad cs vH_fill vH_patience vS_camps vS_nexts vM_owners o0 o1 o2 vE_placed vE_playing vE_out vE_turn o3) → va_S A s.heap H locs → decode cL_chainAt pc = .ok (.ireturn, 1) → W p l e rm_L_chainAt s m args below meth c H locs 1 6 QQ (F0 m pc ls [.int r]))
  (hw : wp_L_chainAt vH_fill vH_patience vS_camps vS_nexts vM_owners vR_hopsToEnd vR_level vR_queue vE_placed vE_playing vE_out vE_turn vO x1 x2 x3 Q) :
  W p l e rm_L_chainAt s m args below meth c s.heap [] 0 0 QQ (F0 m 0 ls []) := by
  have S0 : CallFix p m c cL_chainAt 6 s args wsL_chainAt RL := ⟨hx, hb, hml, hown, hts⟩
  have htab := htab0
  obtain ⟨H, hH⟩ : ∃ H : Heap, H = s.heap := ⟨_, rfl⟩
  have hS : va_S A s.heap H [] := by rw [hH]; exact va_S.rf
  rw [← hH] at hP ⊢
  unfold wp_L_chainAt at hw
  refine lv_aload hx hb dL_chainAt_0 (lv_at hl 4 rfl) ?_
  refine lv_iconst (v := (0 : Int32)) hx hb dL_chainAt_2 (by decide) ?_
  refine lv_aload_n hx hb dL_chainAt_3 rfl (lv_at hl 0 rfl) ?_
  refine lv_iload_n hx hb dL_chainAt_4 rfl (lv_at hl 1 rfl) ?_
  refine lv_iload_n hx hb dL_chainAt_5 rfl (lv_at hl 2 rfl) ?_
  refine lv_iload_n hx hb dL_chainAt_6 rfl (lv_at hl 3 rfl) ?_
  refine pxVi (rest := [.int (0 : Int32), .ref (ad 48)]) (wr := [((ad 48), .inl ((cs 48), 1, .inr (.inl vO)))]) (ci := 6) S0 (c_X6_chainAt l hst D ad cs H.size vH_fill vH_patience vS_camps vS_nexts vM_owners vR_hopsToEnd vR_level vR_queue vE_placed vE_playing vE_out vE_turn x1 x2 x3 _ _ hw) (cwV 3 hts gL_chainAt_X6_chainAt rfl rfl rfl (by decide +kernel) ⟨Nat.le_of_ble_eq_true rfl, Nat.le_of_ble_eq_true rfl⟩) hN hC9 hX9 hB9 hK hP hD hS hA [0, 1, 2, 3, 4, 5, 6, 7, 8, 9, 10] [11] [0, 1, 2, 3, 4, 5] ⟨rfl, rfl, rfl, rfl, rfl, by decide⟩ 0 rfl rfl rfl rfl hl.1 (Nat.le_of_ble_eq_true rfl) ⟨Nat.le_of_ble_eq_true rfl, Nat.le_of_ble_eq_true rfl⟩ dL_chainAt_7 (fun E ce q9_9 u H locs hw hP hD hS h7 h8 h9 => ?_) (fun r_1 u H locs hw hP hD hS => ?_)
  · skip
    obtain ⟨vR_hopsToEnd_5, vR_level_6, vR_queue_7⟩ := u
    try dsimp only at hw
    have hP : va_P D vwCl (cl_L_chainAt ad cs vH_fill vH_patience vS_camps vS_nexts vM_owners vR_hopsToEnd_5 vR_level_6 vR_queue_7 vE_placed vE_playing vE_out vE_turn vO) H := hP.sub [1, 2, 3, 4, 5, 6, 7, 8, 9, 10, 11, 0] rfl
    have hD : va_D A (cl_L_chainAt ad cs vH_fill vH_patience vS_camps vS_nexts vM_owners vR_hopsToEnd_5 vR_level_6 vR_queue_7 vE_placed vE_playing vE_out vE_turn vO) := hD.sub [1, 2, 3, 4, 5, 6, 7, 8, 9, 10, 11, 0] (by decide) rfl
    obtain ⟨hE, hw⟩ := hw
    subst hE
    refine vx_catch (name := jI) hown [] (⟨0, 12, 15, 26⟩ : ExceptionTableEntry) [] htab (fun z hz => by exact absurd hz List.not_mem_nil) (by decide) (by decide) (hts (.classLink RL 26 jI) (by decide +kernel)) (va_Nw.use rfl hC9.1) h7 h8 h9 ?_
    refine lv_astore (lv' := [(5, .ref q9_9), (0, .ref (ad 0)), (1, .int x1), (2, .int x2), (3, .int x3), (4, .ref (ad 48))]) hx hb dL_chainAt_15 hl (by decide) rfl (fun ls hl => ?_)
    refine lv_iconst (v := (1 : Int32)) hx hb dL_chainAt_17 (by decide) ?_
    exact hret _ _ _ _ _ _ _ _ _ hw hP hD hS dL_chainAt_18
  obtain ⟨vR_hopsToEnd_2, vR_level_3, vR_queue_4⟩ := u
  try dsimp only at hw
  have hP : va_P D vwCl (cl_L_chainAt ad cs vH_fill vH_patience vS_camps vS_nexts vM_owners vR_hopsToEnd_2 vR_level_3 vR_queue_4 vE_placed vE_playing vE_out vE_turn vO) H := hP.sub [1, 2, 3, 4, 5, 6, 7, 8, 9, 10, 11, 0] rfl
  have hD : va_D A (cl_L_chainAt ad cs vH_fill vH_patience vS_camps vS_nexts vM_owners vR_hopsToEnd_2 vR_level_3 vR_queue_4 vE_placed vE_playing vE_out vE_turn vO) := hD.sub [1, 2, 3, 4, 5, 6, 7, 8, 9, 10, 11, 0] (by decide) rfl
  refine lv_i2l (v := (r_1).toInt64) hx hb dL_chainAt_10 rfl ?_
  obtain ⟨h_10, hw⟩ := hw
  refine va_last hx hb hK hP hD hS 11 6 rfl rfl h_10 dL_chainAt_11 (fun H locs hP hD hS => ?_)
  have hP : va_P D vwCl (cl_L_chainAt ad cs vH_fill vH_patience vS_camps vS_nexts vM_owners vR_hopsToEnd_2 vR_level_3 vR_queue_4 vE_placed vE_playing vE_out vE_turn (vp_updL vO (0 : Int32).toNatClampNeg ((r_1).toInt64))) H := hP
  have hD : va_D A (cl_L_chainAt ad cs vH_fill vH_patience vS_camps vS_nexts vM_owners vR_hopsToEnd_2 vR_level_3 vR_queue_4 vE_placed vE_playing vE_out vE_turn (vp_updL vO (0 : Int32).toNatClampNeg ((r_1).toInt64))) := hD
  refine lv_goto (tgt := 19) hx hb dL_chainAt_12 (by decide) ?_
  refine lv_iconst (v := (0 : Int32)) hx hb dL_chainAt_19 (by decide) ?_
  exact hret _ _ _ _ _ _ _ _ _ hw hP hD hS dL_chainAt_20
set_option maxHeartbeats 4000000 in
set_option maxRecDepth 100000 in
theorem c_L_chainAt (l : Launch) (hst : l.stackTraces = false) (D : va_G) (ad : Nat → Nat) (cs : Nat → ClassId) (sz : Nat) (vH_fill vH_patience : Int32) (vS_camps vS_nexts vM_owners vR_hopsToEnd vR_level vR_queue : Nat → Int32) (vE_placed vE_playing vE_out vE_turn : Int32) (vO : Nat → Int64) (x1 x2 x3 : Int32) (Q : Int32 → (Nat → Int32) → (Nat → Int32) → (Nat → Int32) → (Nat → Int64) → Prop) (hw : wp_L_chainAt vH_fill vH_patience vS_camps vS_nexts vM_owners vR_hopsToEnd vR_level vR_queue vE_placed vE_playing vE_out vE_turn vO x1 x2 x3 Q) :
  Met l yL_chainAt wsL_chainAt rm_L_chainAt (va_Pc [.ref (ad 0), .int x1, .int x2, .int x3, .ref (ad 48)] (PXE D (cl_L_chainAt ad cs vH_fill vH_patience vS_camps vS_nexts vM_owners vR_hopsToEnd vR_level vR_queue vE_placed vE_playing vE_out vE_turn vO) (ty_L_chainAt cs) sz)) (va_Qi (fun (r : Int32) (u : (Nat → Int32) × (Nat → Int32) × (Nat → Int32) × (Nat → Int64)) => Q r u.1 u.2.1 u.2.2.1 u.2.2.2) (fun (u : (Nat → Int32) × (Nat → Int32) × (Nat → Int32) × (Nat → Int64)) t => va_P D vwCl (cl_L_chainAt ad cs vH_fill vH_patience vS_camps vS_nexts vM_owners u.1 u.2.1 u.2.2.1 vE_placed vE_playing vE_out vE_turn u.2.2.2) t.heap ∧ va_D (va_A (cl_L_chainAt ad cs vH_fill vH_patience vS_camps vS_nexts vM_owners vR_hopsToEnd vR_level vR_queue vE_placed vE_playing vE_out vE_turn vO) sz) (cl_L_chainAt ad cs vH_fill vH_patience vS_camps vS_nexts vM_owners u.1 u.2.1 u.2.2.1 vE_placed vE_playing vE_out vE_turn u.2.2.2)) (va_A (cl_L_chainAt ad cs vH_fill vH_patience vS_camps vS_nexts vM_owners vR_hopsToEnd vR_level vR_queue vE_placed vE_playing vE_out vE_turn vO) sz)) 1 6 (va_A (cl_L_chainAt ad cs vH_fill vH_patience vS_camps vS_nexts vM_owners vR_hopsToEnd vR_level vR_queue vE_placed vE_playing vE_out vE_turn vO) sz) := by
  refine va_MetW (cc := cL_chainAt) (maxL := 6) (ret := (some .int)) (hh := [(0, 12, 15, 26)]) (by decide) rfl ?_
  intro p e s m args below meth c s₁ B hml hv
  obtain ⟨rfl, ⟨hsz, hP, hK, hD0, hN⟩, hC9, hX9, hB9⟩ := hv
  subst hsz
  have hl := lv_entry ([.ref (ad 0), .int x1, .int x2, .int x3, .ref (ad 48)]) (n := 6) (Nat.le_of_ble_eq_true rfl)
  rw [lg_entry_eq]
  have hx := B.exec
  have hb := B.bytes
  have hr := B.returns
  have hts := atoms_spec (ws := wsL_chainAt) B.pre
  have htab := vx_table (x := yL_chainAt) B (hts _ List.mem_cons_self)
  exact b_L_chainAt l D ad cs vH_fill vH_patience vS_camps vS_nexts vM_owners vR_hopsToEnd vR_level vR_queue vE_placed vE_playing vE_out vE_turn vO x1 x2 x3 Q hx hb hml (findClass_of_methodNamed B.named) hts hN hst htab hC9 hX9 hB9 hP hK hD0.self (fun q h => Or.inr h) hl (fun r o0 o1 o2 o3 H locs pc ls hq hP hD hS hd => W.iret (v := r) hx hb hr (fun t ht hW => ⟨⟨r, (o0, o1, o2, o3), rfl, hq, by rw [ht]; exact hP, hD⟩, hS.F ht⟩) hS.2.2 hd) hw
abbrev rm_L_hops : Room := { frames := 7, cells := 1, slots := 6, locals := 140 }
abbrev cl_L_hops (ad : Nat → Nat) (cs : Nat → ClassId) (vH_fill vH_patience : Int32) (vS_camps vS_nexts vM_owners vR_hopsToEnd vR_level vR_queue : Nat → Int32) (vE_placed vE_playing vE_out vE_turn : Int32) (vO : Nat → Int64) : va_W := [((ad 0), .inr (6, [.ref (ad 1), .ref (ad 6), .ref (ad 8), .ref (ad 12), .ref (ad 19), .ref (ad 22), .int vH_fill, .int vH_patience])), ((ad 1), .inr (5, [.ref (ad 2), .ref (ad 3), .ref (ad 4), .ref (ad 5)])), ((ad 4), .inl ((cs 4), 121, .inl vS_camps)), ((ad 5), .inl ((cs 5), 726, .inl vS_nexts)), ((ad 6), .inr (1, [.ref (ad 1), .ref (ad 7)])), ((ad 7), .inl ((cs 7), 121, .inl vM_owners)), ((ad 8), .inr (3, [.ref (ad 1), .ref (ad 6), .ref (ad 9), .ref (ad 10), .ref (ad 11)])), ((ad 9), .inl ((cs 9), 121, .inl vR_hopsToEnd)), ((ad 10), .inl ((cs 10), 121, .inl vR_level)), ((ad 11), .inl ((cs 11), 121, .inl vR_queue)), ((ad 19), .inr (4, [.ref (ad 6), .ref (ad 20), .ref (ad 21), .int vE_placed, .int vE_playing, .int vE_out, .int vE_turn])), ((ad 48), .inl ((cs 48), 1, .inr (.inl vO)))]
abbrev ty_L_hops (cs : Nat → ClassId) : List (ClassId × FieldType) := [((cs 4), .int), ((cs 5), .int), ((cs 7), .int), ((cs 9), .int), ((cs 10), .int), ((cs 11), .int), ((cs 48), .long)]
def wp_L_hops (vH_fill vH_patience : Int32) (vS_camps vS_nexts vM_owners vR_hopsToEnd vR_level vR_queue : Nat → Int32) (vE_placed vE_playing vE_out vE_turn : Int32) (vO : Nat → Int64) (x1 x2 : Int32) (Q : Int32 → (Nat → Int32) → (Nat → Int32) → (Nat → Int32) → (Nat → Int64) → Prop) : Prop :=
 wp_X6_hops vH_fill vH_patience vS_camps vS_nexts vM_owners vR_hopsToEnd vR_level vR_queue vE_placed vE_playing vE_out vE_turn x1 x2 (fun r_1 vR_hopsToEnd_2 vR_level_3 vR_queue_4 =>
 (vp_in (0 : Int32) 1 ∧
 Q (0 : Int32) vR_hopsToEnd_2 vR_level_3 vR_queue_4 (vp_updL vO (0 : Int32).toNatClampNeg ((r_1).toInt64))))
 (fun E_8 vR_hopsToEnd_5 vR_level_6 vR_queue_7 => (E_8 = "java/lang/IndexOutOfBoundsException" ∧ Q (1 : Int32) vR_hopsToEnd_5 vR_level_6 vR_queue_7 vO))
set_option maxHeartbeats 4000000 in
set_option maxRecDepth 100000 in
theorem b_L_hops {p : Program} {e : Env} {s : State} {m : MethodId} {args : Array Value} {below : List Frame} {meth : Method} {c : Code} {QQ : State → Prop} {A : Nat → Prop} {ls : Array Slot} (l : Launch) (D : va_G) (ad : Nat → Nat) (cs : Nat → ClassId) (vH_fill vH_patience : Int32) (vS_camps vS_nexts vM_owners vR_hopsToEnd vR_level vR_queue : Nat → Int32) (vE_placed vE_playing vE_out vE_turn : Int32) (vO : Nat → Int64) (x1 x2 : Int32) (Q : Int32 → (Nat → Int32) → (Nat → Int32) → (Nat → Int32) → (Nat → Int64) → Prop) (hx : p.tables.exec = Jvm.exec) (hb : c.code = cL_hops) (hml : c.maxLocals = 5) (hown : s.vm.findClass RL = some m.cls) (hts : ∀ w ∈ wsL_hops, w.before args s = true) (hN : NW s) (hst : l.stackTraces = false) (htab0 : c.exceptionTable.toList = [(⟨0, 10, 13, 26⟩ : ExceptionTableEntry)]) (hC9 : SXC s) (hX9 : SXT s) (hB9 : SB A s s.heap) (hP : va_P D vwCl (cl_L_hops ad cs vH_fill vH_patience vS_camps vS_nexts vM_owners vR_hopsToEnd vR_level vR_queue vE_placed vE_playing vE_out vE_turn vO) s.heap) (hK : va_K D vwCl (ty_L_hops cs) s) (hD : va_D A (cl_L_hops ad cs vH_fill vH_patience vS_camps vS_nexts vM_owners vR_hopsToEnd vR_level vR_queue vE_placed vE_playing vE_out vE_turn vO)) (hA : ∀ q : Nat, s.heap.size ≤ q → A q) (hl : lv_has ls 5 [(0, .ref (ad 0)), (1, .int x1), (2, .int x2), (3, .ref (ad 48))])
  (hret : ∀ (r : Int32) (o0 : Nat → Int32) (o1 : Nat → Int32) (o2 : Nat → Int32) (o3 : Nat → Int64) (H : Heap) (locs : List Loc) (pc : Nat) (ls : Array Slot), Q r o0 o1 o2 o3 → va_P D vwCl (cl_L_hops ad cs vH_fill vH_patience vS_camps vS_nexts vM_owners o0 o1 o2 vE_placed vE_playing vE_out vE_turn o3) H → va_D A (cl_L_hops ad cs vH_fill vH_patience vS_camps vS_nexts vM_owners o0 o1 o2 vE_placed vE_playing vE_out vE_turn o3) → va_S A s.heap H locs → decode cL_hops pc = .ok (.ireturn, 1) → W p l e rm_L_hops s m args below meth c H locs 1 6 QQ (F0 m pc ls [.int r]))
  (hw : wp_L_hops vH_fill vH_patience vS_camps vS_nexts vM_owners vR_hopsToEnd vR_level vR_queue vE_placed vE_playing vE_out vE_turn vO x1 x2 Q) :
  W p l e rm_L_hops s m args below meth c s.heap [] 0 0 QQ (F0 m 0 ls []) := by
  have S0 : CallFix p m c cL_hops 5 s args wsL_hops RL := ⟨hx, hb, hml, hown, hts⟩
  have htab := htab0
  obtain ⟨H, hH⟩ : ∃ H : Heap, H = s.heap := ⟨_, rfl⟩
  have hS : va_S A s.heap H [] := by rw [hH]; exact va_S.rf
  rw [← hH] at hP ⊢
  unfold wp_L_hops at hw
  refine lv_aload_n hx hb dL_hops_0 rfl (lv_at hl 3 rfl) ?_
  refine lv_iconst (v := (0 : Int32)) hx hb dL_hops_1 (by decide) ?_
  refine lv_aload_n hx hb dL_hops_2 rfl (lv_at hl 0 rfl) ?_
  refine lv_iload_n hx hb dL_hops_3 rfl (lv_at hl 1 rfl) ?_
  refine lv_iload_n hx hb dL_hops_4 rfl (lv_at hl 2 rfl) ?_
  refine pxVi (rest := [.int (0 : Int32), .ref (ad 48)]) (wr := [((ad 48), .inl ((cs 48), 1, .inr (.inl vO)))]) (ci := 6) S0 (c_X6_hops l hst D ad cs H.size vH_fill vH_patience vS_camps vS_nexts vM_owners vR_hopsToEnd vR_level vR_queue vE_placed vE_playing vE_out vE_turn x1 x2 _ _ hw) (cwV 2 hts gL_hops_X6_hops rfl rfl rfl (by decide +kernel) ⟨Nat.le_of_ble_eq_true rfl, Nat.le_of_ble_eq_true rfl⟩) hN hC9 hX9 hB9 hK hP hD hS hA [0, 1, 2, 3, 4, 5, 6, 7, 8, 9, 10] [11] [0, 1, 2, 3, 4, 5] ⟨rfl, rfl, rfl, rfl, rfl, by decide⟩ 0 rfl rfl rfl rfl hl.1 (Nat.le_of_ble_eq_true rfl) ⟨Nat.le_of_ble_eq_true rfl, Nat.le_of_ble_eq_true rfl⟩ dL_hops_5 (fun E ce q9_9 u H locs hw hP hD hS h7 h8 h9 => ?_) (fun r_1 u H locs hw hP hD hS => ?_)
  · skip
    obtain ⟨vR_hopsToEnd_5, vR_level_6, vR_queue_7⟩ := u
    try dsimp only at hw
    have hP : va_P D vwCl (cl_L_hops ad cs vH_fill vH_patience vS_camps vS_nexts vM_owners vR_hopsToEnd_5 vR_level_6 vR_queue_7 vE_placed vE_playing vE_out vE_turn vO) H := hP.sub [1, 2, 3, 4, 5, 6, 7, 8, 9, 10, 11, 0] rfl
    have hD : va_D A (cl_L_hops ad cs vH_fill vH_patience vS_camps vS_nexts vM_owners vR_hopsToEnd_5 vR_level_6 vR_queue_7 vE_placed vE_playing vE_out vE_turn vO) := hD.sub [1, 2, 3, 4, 5, 6, 7, 8, 9, 10, 11, 0] (by decide) rfl
    obtain ⟨hE, hw⟩ := hw
    subst hE
    refine vx_catch (name := jI) hown [] (⟨0, 10, 13, 26⟩ : ExceptionTableEntry) [] htab (fun z hz => by exact absurd hz List.not_mem_nil) (by decide) (by decide) (hts (.classLink RL 26 jI) (by decide +kernel)) (va_Nw.use rfl hC9.1) h7 h8 h9 ?_
    refine lv_astore (lv' := [(4, .ref q9_9), (0, .ref (ad 0)), (1, .int x1), (2, .int x2), (3, .ref (ad 48))]) hx hb dL_hops_13 hl (by decide) rfl (fun ls hl => ?_)
    refine lv_iconst (v := (1 : Int32)) hx hb dL_hops_15 (by decide) ?_
    exact hret _ _ _ _ _ _ _ _ _ hw hP hD hS dL_hops_16
  obtain ⟨vR_hopsToEnd_2, vR_level_3, vR_queue_4⟩ := u
  try dsimp only at hw
  have hP : va_P D vwCl (cl_L_hops ad cs vH_fill vH_patience vS_camps vS_nexts vM_owners vR_hopsToEnd_2 vR_level_3 vR_queue_4 vE_placed vE_playing vE_out vE_turn vO) H := hP.sub [1, 2, 3, 4, 5, 6, 7, 8, 9, 10, 11, 0] rfl
  have hD : va_D A (cl_L_hops ad cs vH_fill vH_patience vS_camps vS_nexts vM_owners vR_hopsToEnd_2 vR_level_3 vR_queue_4 vE_placed vE_playing vE_out vE_turn vO) := hD.sub [1, 2, 3, 4, 5, 6, 7, 8, 9, 10, 11, 0] (by decide) rfl
  refine lv_i2l (v := (r_1).toInt64) hx hb dL_hops_8 rfl ?_
  obtain ⟨h_10, hw⟩ := hw
  refine va_last hx hb hK hP hD hS 11 6 rfl rfl h_10 dL_hops_9 (fun H locs hP hD hS => ?_)
  have hP : va_P D vwCl (cl_L_hops ad cs vH_fill vH_patience vS_camps vS_nexts vM_owners vR_hopsToEnd_2 vR_level_3 vR_queue_4 vE_placed vE_playing vE_out vE_turn (vp_updL vO (0 : Int32).toNatClampNeg ((r_1).toInt64))) H := hP
  have hD : va_D A (cl_L_hops ad cs vH_fill vH_patience vS_camps vS_nexts vM_owners vR_hopsToEnd_2 vR_level_3 vR_queue_4 vE_placed vE_playing vE_out vE_turn (vp_updL vO (0 : Int32).toNatClampNeg ((r_1).toInt64))) := hD
  refine lv_goto (tgt := 17) hx hb dL_hops_10 (by decide) ?_
  refine lv_iconst (v := (0 : Int32)) hx hb dL_hops_17 (by decide) ?_
  exact hret _ _ _ _ _ _ _ _ _ hw hP hD hS dL_hops_18
set_option maxHeartbeats 4000000 in
set_option maxRecDepth 100000 in
theorem c_L_hops (l : Launch) (hst : l.stackTraces = false) (D : va_G) (ad : Nat → Nat) (cs : Nat → ClassId) (sz : Nat) (vH_fill vH_patience : Int32) (vS_camps vS_nexts vM_owners vR_hopsToEnd vR_level vR_queue : Nat → Int32) (vE_placed vE_playing vE_out vE_turn : Int32) (vO : Nat → Int64) (x1 x2 : Int32) (Q : Int32 → (Nat → Int32) → (Nat → Int32) → (Nat → Int32) → (Nat → Int64) → Prop) (hw : wp_L_hops vH_fill vH_patience vS_camps vS_nexts vM_owners vR_hopsToEnd vR_level vR_queue vE_placed vE_playing vE_out vE_turn vO x1 x2 Q) :
  Met l yL_hops wsL_hops rm_L_hops (va_Pc [.ref (ad 0), .int x1, .int x2, .ref (ad 48)] (PXE D (cl_L_hops ad cs vH_fill vH_patience vS_camps vS_nexts vM_owners vR_hopsToEnd vR_level vR_queue vE_placed vE_playing vE_out vE_turn vO) (ty_L_hops cs) sz)) (va_Qi (fun (r : Int32) (u : (Nat → Int32) × (Nat → Int32) × (Nat → Int32) × (Nat → Int64)) => Q r u.1 u.2.1 u.2.2.1 u.2.2.2) (fun (u : (Nat → Int32) × (Nat → Int32) × (Nat → Int32) × (Nat → Int64)) t => va_P D vwCl (cl_L_hops ad cs vH_fill vH_patience vS_camps vS_nexts vM_owners u.1 u.2.1 u.2.2.1 vE_placed vE_playing vE_out vE_turn u.2.2.2) t.heap ∧ va_D (va_A (cl_L_hops ad cs vH_fill vH_patience vS_camps vS_nexts vM_owners vR_hopsToEnd vR_level vR_queue vE_placed vE_playing vE_out vE_turn vO) sz) (cl_L_hops ad cs vH_fill vH_patience vS_camps vS_nexts vM_owners u.1 u.2.1 u.2.2.1 vE_placed vE_playing vE_out vE_turn u.2.2.2)) (va_A (cl_L_hops ad cs vH_fill vH_patience vS_camps vS_nexts vM_owners vR_hopsToEnd vR_level vR_queue vE_placed vE_playing vE_out vE_turn vO) sz)) 1 6 (va_A (cl_L_hops ad cs vH_fill vH_patience vS_camps vS_nexts vM_owners vR_hopsToEnd vR_level vR_queue vE_placed vE_playing vE_out vE_turn vO) sz) := by
  refine va_MetW (cc := cL_hops) (maxL := 5) (ret := (some .int)) (hh := [(0, 10, 13, 26)]) (by decide) rfl ?_
  intro p e s m args below meth c s₁ B hml hv
  obtain ⟨rfl, ⟨hsz, hP, hK, hD0, hN⟩, hC9, hX9, hB9⟩ := hv
  subst hsz
  have hl := lv_entry ([.ref (ad 0), .int x1, .int x2, .ref (ad 48)]) (n := 5) (Nat.le_of_ble_eq_true rfl)
  rw [lg_entry_eq]
  have hx := B.exec
  have hb := B.bytes
  have hr := B.returns
  have hts := atoms_spec (ws := wsL_hops) B.pre
  have htab := vx_table (x := yL_hops) B (hts _ List.mem_cons_self)
  exact b_L_hops l D ad cs vH_fill vH_patience vS_camps vS_nexts vM_owners vR_hopsToEnd vR_level vR_queue vE_placed vE_playing vE_out vE_turn vO x1 x2 Q hx hb hml (findClass_of_methodNamed B.named) hts hN hst htab hC9 hX9 hB9 hP hK hD0.self (fun q h => Or.inr h) hl (fun r o0 o1 o2 o3 H locs pc ls hq hP hD hS hd => W.iret (v := r) hx hb hr (fun t ht hW => ⟨⟨r, (o0, o1, o2, o3), rfl, hq, by rw [ht]; exact hP, hD⟩, hS.F ht⟩) hS.2.2 hd) hw
abbrev rm_L_finished : Room := { frames := 7, cells := 1, slots := 6, locals := 111 }
abbrev cl_L_finished (ad : Nat → Nat) (cs : Nat → ClassId) (vH_fill vH_patience vE_placed vE_playing vE_out vE_turn : Int32) (vE_places : Nat → Int32) (vO : Nat → Int64) : va_W := [((ad 0), .inr (6, [.ref (ad 1), .ref (ad 6), .ref (ad 8), .ref (ad 12), .ref (ad 19), .ref (ad 22), .int vH_fill, .int vH_patience])), ((ad 19), .inr (4, [.ref (ad 6), .ref (ad 20), .ref (ad 21), .int vE_placed, .int vE_playing, .int vE_out, .int vE_turn])), ((ad 21), .inl ((cs 21), 6, .inl vE_places)), ((ad 48), .inl ((cs 48), 1, .inr (.inl vO)))]
abbrev ty_L_finished (cs : Nat → ClassId) : List (ClassId × FieldType) := [((cs 21), .int), ((cs 48), .long)]
def wp_L_finished (vH_fill vH_patience vE_placed vE_playing vE_out vE_turn : Int32) (vE_places : Nat → Int32) (vO : Nat → Int64) (x1 : Int32) (Q : Int32 → (Nat → Int64) → Prop) : Prop :=
 wp_X6_finished vH_fill vH_patience vE_placed vE_playing vE_out vE_turn vE_places x1 (fun r_1 =>
 (vp_in (0 : Int32) 1 ∧
 Q (0 : Int32) (vp_updL vO (0 : Int32).toNatClampNeg ((r_1).toInt64))))
 (fun E_2 => (E_2 = "java/lang/IndexOutOfBoundsException" ∧ Q (1 : Int32) vO))
set_option maxHeartbeats 4000000 in
set_option maxRecDepth 100000 in
theorem b_L_finished {p : Program} {e : Env} {s : State} {m : MethodId} {args : Array Value} {below : List Frame} {meth : Method} {c : Code} {QQ : State → Prop} {A : Nat → Prop} {ls : Array Slot} (l : Launch) (D : va_G) (ad : Nat → Nat) (cs : Nat → ClassId) (vH_fill vH_patience vE_placed vE_playing vE_out vE_turn : Int32) (vE_places : Nat → Int32) (vO : Nat → Int64) (x1 : Int32) (Q : Int32 → (Nat → Int64) → Prop) (hx : p.tables.exec = Jvm.exec) (hb : c.code = cL_finished) (hml : c.maxLocals = 4) (hown : s.vm.findClass RL = some m.cls) (hts : ∀ w ∈ wsL_finished, w.before args s = true) (hN : NW s) (hst : l.stackTraces = false) (htab0 : c.exceptionTable.toList = [(⟨0, 9, 12, 26⟩ : ExceptionTableEntry)]) (hC9 : SXC s) (hX9 : SXT s) (hB9 : SB A s s.heap) (hP : va_P D vwCl (cl_L_finished ad cs vH_fill vH_patience vE_placed vE_playing vE_out vE_turn vE_places vO) s.heap) (hK : va_K D vwCl (ty_L_finished cs) s) (hD : va_D A (cl_L_finished ad cs vH_fill vH_patience vE_placed vE_playing vE_out vE_turn vE_places vO)) (hA : ∀ q : Nat, s.heap.size ≤ q → A q) (hl : lv_has ls 4 [(0, .ref (ad 0)), (1, .int x1), (2, .ref (ad 48))])
  (hret : ∀ (r : Int32) (o0 : Nat → Int64) (H : Heap) (locs : List Loc) (pc : Nat) (ls : Array Slot), Q r o0 → va_P D vwCl (cl_L_finished ad cs vH_fill vH_patience vE_placed vE_playing vE_out vE_turn vE_places o0) H → va_D A (cl_L_finished ad cs vH_fill vH_patience vE_placed vE_playing vE_out vE_turn vE_places o0) → va_S A s.heap H locs → decode cL_finished pc = .ok (.ireturn, 1) → W p l e rm_L_finished s m args below meth c H locs 1 6 QQ (F0 m pc ls [.int r]))
  (hw : wp_L_finished vH_fill vH_patience vE_placed vE_playing vE_out vE_turn vE_places vO x1 Q) :
  W p l e rm_L_finished s m args below meth c s.heap [] 0 0 QQ (F0 m 0 ls []) := by
  have S0 : CallFix p m c cL_finished 4 s args wsL_finished RL := ⟨hx, hb, hml, hown, hts⟩
  have htab := htab0
  obtain ⟨H, hH⟩ : ∃ H : Heap, H = s.heap := ⟨_, rfl⟩
  have hS : va_S A s.heap H [] := by rw [hH]; exact va_S.rf
  rw [← hH] at hP ⊢
  unfold wp_L_finished at hw
  refine lv_aload_n hx hb dL_finished_0 rfl (lv_at hl 2 rfl) ?_
  refine lv_iconst (v := (0 : Int32)) hx hb dL_finished_1 (by decide) ?_
  refine lv_aload_n hx hb dL_finished_2 rfl (lv_at hl 0 rfl) ?_
  refine lv_iload_n hx hb dL_finished_3 rfl (lv_at hl 1 rfl) ?_
  refine pxVi (rest := [.int (0 : Int32), .ref (ad 48)]) (wr := [((ad 48), .inl ((cs 48), 1, .inr (.inl vO)))]) (ci := 6) S0 (c_X6_finished l hst D ad cs H.size vH_fill vH_patience vE_placed vE_playing vE_out vE_turn vE_places x1 _ _ hw) (cwV 1 hts gL_finished_X6_finished rfl rfl rfl (by decide +kernel) ⟨Nat.le_of_ble_eq_true rfl, Nat.le_of_ble_eq_true rfl⟩) hN hC9 hX9 hB9 hK hP hD hS hA [0, 1, 2] [3] [0] ⟨rfl, rfl, rfl, rfl, rfl, by decide⟩ 0 rfl rfl rfl rfl hl.1 (Nat.le_of_ble_eq_true rfl) ⟨Nat.le_of_ble_eq_true rfl, Nat.le_of_ble_eq_true rfl⟩ dL_finished_4 (fun E ce q9_3 u H locs hw hP hD hS h7 h8 h9 => ?_) (fun r_1 u H locs hw hP hD hS => ?_)
  · skip
    try dsimp only at hw
    have hP : va_P D vwCl (cl_L_finished ad cs vH_fill vH_patience vE_placed vE_playing vE_out vE_turn vE_places vO) H := hP.sub [1, 2, 3, 0] rfl
    have hD : va_D A (cl_L_finished ad cs vH_fill vH_patience vE_placed vE_playing vE_out vE_turn vE_places vO) := hD.sub [1, 2, 3, 0] (by decide) rfl
    obtain ⟨hE, hw⟩ := hw
    subst hE
    refine vx_catch (name := jI) hown [] (⟨0, 9, 12, 26⟩ : ExceptionTableEntry) [] htab (fun z hz => by exact absurd hz List.not_mem_nil) (by decide) (by decide) (hts (.classLink RL 26 jI) (by decide +kernel)) (va_Nw.use rfl hC9.1) h7 h8 h9 ?_
    refine lv_astore_n (lv' := [(3, .ref q9_3), (0, .ref (ad 0)), (1, .int x1), (2, .ref (ad 48))]) hx hb dL_finished_12 rfl hl (by decide) rfl (fun ls hl => ?_)
    refine lv_iconst (v := (1 : Int32)) hx hb dL_finished_13 (by decide) ?_
    exact hret _ _ _ _ _ _ hw hP hD hS dL_finished_14
  try dsimp only at hw
  have hP : va_P D vwCl (cl_L_finished ad cs vH_fill vH_patience vE_placed vE_playing vE_out vE_turn vE_places vO) H := hP.sub [1, 2, 3, 0] rfl
  have hD : va_D A (cl_L_finished ad cs vH_fill vH_patience vE_placed vE_playing vE_out vE_turn vE_places vO) := hD.sub [1, 2, 3, 0] (by decide) rfl
  refine lv_i2l (v := (r_1).toInt64) hx hb dL_finished_7 rfl ?_
  obtain ⟨h_4, hw⟩ := hw
  refine va_last hx hb hK hP hD hS 3 1 rfl rfl h_4 dL_finished_8 (fun H locs hP hD hS => ?_)
  have hP : va_P D vwCl (cl_L_finished ad cs vH_fill vH_patience vE_placed vE_playing vE_out vE_turn vE_places (vp_updL vO (0 : Int32).toNatClampNeg ((r_1).toInt64))) H := hP
  have hD : va_D A (cl_L_finished ad cs vH_fill vH_patience vE_placed vE_playing vE_out vE_turn vE_places (vp_updL vO (0 : Int32).toNatClampNeg ((r_1).toInt64))) := hD
  refine lv_goto (tgt := 15) hx hb dL_finished_9 (by decide) ?_
  refine lv_iconst (v := (0 : Int32)) hx hb dL_finished_15 (by decide) ?_
  exact hret _ _ _ _ _ _ hw hP hD hS dL_finished_16
set_option maxHeartbeats 4000000 in
set_option maxRecDepth 100000 in
theorem c_L_finished (l : Launch) (hst : l.stackTraces = false) (D : va_G) (ad : Nat → Nat) (cs : Nat → ClassId) (sz : Nat) (vH_fill vH_patience vE_placed vE_playing vE_out vE_turn : Int32) (vE_places : Nat → Int32) (vO : Nat → Int64) (x1 : Int32) (Q : Int32 → (Nat → Int64) → Prop) (hw : wp_L_finished vH_fill vH_patience vE_placed vE_playing vE_out vE_turn vE_places vO x1 Q) :
  Met l yL_finished wsL_finished rm_L_finished (va_Pc [.ref (ad 0), .int x1, .ref (ad 48)] (PXE D (cl_L_finished ad cs vH_fill vH_patience vE_placed vE_playing vE_out vE_turn vE_places vO) (ty_L_finished cs) sz)) (va_Qi (fun (r : Int32) (u : (Nat → Int64)) => Q r u) (fun (u : (Nat → Int64)) t => va_P D vwCl (cl_L_finished ad cs vH_fill vH_patience vE_placed vE_playing vE_out vE_turn vE_places u) t.heap ∧ va_D (va_A (cl_L_finished ad cs vH_fill vH_patience vE_placed vE_playing vE_out vE_turn vE_places vO) sz) (cl_L_finished ad cs vH_fill vH_patience vE_placed vE_playing vE_out vE_turn vE_places u)) (va_A (cl_L_finished ad cs vH_fill vH_patience vE_placed vE_playing vE_out vE_turn vE_places vO) sz)) 1 6 (va_A (cl_L_finished ad cs vH_fill vH_patience vE_placed vE_playing vE_out vE_turn vE_places vO) sz) := by
  refine va_MetW (cc := cL_finished) (maxL := 4) (ret := (some .int)) (hh := [(0, 9, 12, 26)]) (by decide) rfl ?_
  intro p e s m args below meth c s₁ B hml hv
  obtain ⟨rfl, ⟨hsz, hP, hK, hD0, hN⟩, hC9, hX9, hB9⟩ := hv
  subst hsz
  have hl := lv_entry ([.ref (ad 0), .int x1, .ref (ad 48)]) (n := 4) (Nat.le_of_ble_eq_true rfl)
  rw [lg_entry_eq]
  have hx := B.exec
  have hb := B.bytes
  have hr := B.returns
  have hts := atoms_spec (ws := wsL_finished) B.pre
  have htab := vx_table (x := yL_finished) B (hts _ List.mem_cons_self)
  exact b_L_finished l D ad cs vH_fill vH_patience vE_placed vE_playing vE_out vE_turn vE_places vO x1 Q hx hb hml (findClass_of_methodNamed B.named) hts hN hst htab hC9 hX9 hB9 hP hK hD0.self (fun q h => Or.inr h) hl (fun r o0 H locs pc ls hq hP hD hS hd => W.iret (v := r) hx hb hr (fun t ht hW => ⟨⟨r, o0, rfl, hq, by rw [ht]; exact hP, hD⟩, hS.F ht⟩) hS.2.2 hd) hw
abbrev rm_L_isOut : Room := { frames := 7, cells := 1, slots := 6, locals := 111 }
abbrev cl_L_isOut (ad : Nat → Nat) (cs : Nat → ClassId) (vH_fill vH_patience vE_placed vE_playing vE_out vE_turn : Int32) (vO : Nat → Int64) : va_W := [((ad 0), .inr (6, [.ref (ad 1), .ref (ad 6), .ref (ad 8), .ref (ad 12), .ref (ad 19), .ref (ad 22), .int vH_fill, .int vH_patience])), ((ad 19), .inr (4, [.ref (ad 6), .ref (ad 20), .ref (ad 21), .int vE_placed, .int vE_playing, .int vE_out, .int vE_turn])), ((ad 48), .inl ((cs 48), 1, .inr (.inl vO)))]
abbrev ty_L_isOut (cs : Nat → ClassId) : List (ClassId × FieldType) := [((cs 48), .long)]
def wp_L_isOut (vH_fill vH_patience vE_placed vE_playing vE_out vE_turn : Int32) (vO : Nat → Int64) (x1 : Int32) (Q : Int32 → (Nat → Int64) → Prop) : Prop :=
 wp_X6_isOut vH_fill vH_patience vE_placed vE_playing vE_out vE_turn x1 (fun r_1 =>
 ((r_1 = 0 → (vp_in (0 : Int32) 1 ∧
 Q (0 : Int32) (vp_updL vO (0 : Int32).toNatClampNeg (0 : Int64)))) ∧
 (¬ r_1 = 0 → (vp_in (0 : Int32) 1 ∧
 Q (0 : Int32) (vp_updL vO (0 : Int32).toNatClampNeg (1 : Int64))))))
 (fun E_2 => (E_2 = "java/lang/IndexOutOfBoundsException" ∧ Q (1 : Int32) vO))
set_option maxHeartbeats 4000000 in
set_option maxRecDepth 100000 in
theorem b_L_isOut {p : Program} {e : Env} {s : State} {m : MethodId} {args : Array Value} {below : List Frame} {meth : Method} {c : Code} {QQ : State → Prop} {A : Nat → Prop} {ls : Array Slot} (l : Launch) (D : va_G) (ad : Nat → Nat) (cs : Nat → ClassId) (vH_fill vH_patience vE_placed vE_playing vE_out vE_turn : Int32) (vO : Nat → Int64) (x1 : Int32) (Q : Int32 → (Nat → Int64) → Prop) (hx : p.tables.exec = Jvm.exec) (hb : c.code = cL_isOut) (hml : c.maxLocals = 4) (hown : s.vm.findClass RL = some m.cls) (hts : ∀ w ∈ wsL_isOut, w.before args s = true) (hN : NW s) (hst : l.stackTraces = false) (htab0 : c.exceptionTable.toList = [(⟨0, 16, 19, 26⟩ : ExceptionTableEntry)]) (hC9 : SXC s) (hX9 : SXT s) (hB9 : SB A s s.heap) (hP : va_P D vwCl (cl_L_isOut ad cs vH_fill vH_patience vE_placed vE_playing vE_out vE_turn vO) s.heap) (hK : va_K D vwCl (ty_L_isOut cs) s) (hD : va_D A (cl_L_isOut ad cs vH_fill vH_patience vE_placed vE_playing vE_out vE_turn vO)) (hA : ∀ q : Nat, s.heap.size ≤ q → A q) (hl : lv_has ls 4 [(0, .ref (ad 0)), (1, .int x1), (2, .ref (ad 48))])
  (hret : ∀ (r : Int32) (o0 : Nat → Int64) (H : Heap) (locs : List Loc) (pc : Nat) (ls : Array Slot), Q r o0 → va_P D vwCl (cl_L_isOut ad cs vH_fill vH_patience vE_placed vE_playing vE_out vE_turn o0) H → va_D A (cl_L_isOut ad cs vH_fill vH_patience vE_placed vE_playing vE_out vE_turn o0) → va_S A s.heap H locs → decode cL_isOut pc = .ok (.ireturn, 1) → W p l e rm_L_isOut s m args below meth c H locs 1 6 QQ (F0 m pc ls [.int r]))
  (hw : wp_L_isOut vH_fill vH_patience vE_placed vE_playing vE_out vE_turn vO x1 Q) :
  W p l e rm_L_isOut s m args below meth c s.heap [] 0 0 QQ (F0 m 0 ls []) := by
  have S0 : CallFix p m c cL_isOut 4 s args wsL_isOut RL := ⟨hx, hb, hml, hown, hts⟩
  have htab := htab0
  obtain ⟨H, hH⟩ : ∃ H : Heap, H = s.heap := ⟨_, rfl⟩
  have hS : va_S A s.heap H [] := by rw [hH]; exact va_S.rf
  rw [← hH] at hP ⊢
  unfold wp_L_isOut at hw
  refine lv_aload_n hx hb dL_isOut_0 rfl (lv_at hl 2 rfl) ?_
  refine lv_iconst (v := (0 : Int32)) hx hb dL_isOut_1 (by decide) ?_
  refine lv_aload_n hx hb dL_isOut_2 rfl (lv_at hl 0 rfl) ?_
  refine lv_iload_n hx hb dL_isOut_3 rfl (lv_at hl 1 rfl) ?_
  refine pxVi (rest := [.int (0 : Int32), .ref (ad 48)]) (wr := [((ad 48), .inl ((cs 48), 1, .inr (.inl vO)))]) (ci := 6) S0 (c_X6_isOut l hst D ad cs H.size vH_fill vH_patience vE_placed vE_playing vE_out vE_turn x1 _ _ hw) (cwV 1 hts gL_isOut_X6_isOut rfl rfl rfl (by decide +kernel) ⟨Nat.le_of_ble_eq_true rfl, Nat.le_of_ble_eq_true rfl⟩) hN hC9 hX9 hB9 hK hP hD hS hA [0, 1] [2] [] ⟨rfl, rfl, rfl, rfl, rfl, by decide⟩ 0 rfl rfl rfl rfl hl.1 (Nat.le_of_ble_eq_true rfl) ⟨Nat.le_of_ble_eq_true rfl, Nat.le_of_ble_eq_true rfl⟩ dL_isOut_4 (fun E ce q9_3 u H locs hw hP hD hS h7 h8 h9 => ?_) (fun r_1 u H locs hw hP hD hS => ?_)
  · skip
    try dsimp only at hw
    have hP : va_P D vwCl (cl_L_isOut ad cs vH_fill vH_patience vE_placed vE_playing vE_out vE_turn vO) H := hP.sub [1, 2, 0] rfl
    have hD : va_D A (cl_L_isOut ad cs vH_fill vH_patience vE_placed vE_playing vE_out vE_turn vO) := hD.sub [1, 2, 0] (by decide) rfl
    obtain ⟨hE, hw⟩ := hw
    subst hE
    refine vx_catch (name := jI) hown [] (⟨0, 16, 19, 26⟩ : ExceptionTableEntry) [] htab (fun z hz => by exact absurd hz List.not_mem_nil) (by decide) (by decide) (hts (.classLink RL 26 jI) (by decide +kernel)) (va_Nw.use rfl hC9.1) h7 h8 h9 ?_
    refine lv_astore_n (lv' := [(3, .ref q9_3), (0, .ref (ad 0)), (1, .int x1), (2, .ref (ad 48))]) hx hb dL_isOut_19 rfl hl (by decide) rfl (fun ls hl => ?_)
    refine lv_iconst (v := (1 : Int32)) hx hb dL_isOut_20 (by decide) ?_
    exact hret _ _ _ _ _ _ hw hP hD hS dL_isOut_21
  try dsimp only at hw
  have hP : va_P D vwCl (cl_L_isOut ad cs vH_fill vH_patience vE_placed vE_playing vE_out vE_turn vO) H := hP.sub [1, 2, 0] rfl
  have hD : va_D A (cl_L_isOut ad cs vH_fill vH_patience vE_placed vE_playing vE_out vE_turn vO) := hD.sub [1, 2, 0] (by decide) rfl
  refine lv_if_eq (tgt := 14) hx hb dL_isOut_7 (by decide) (fun c_4 => ?_) (fun c_4 => ?_)
  · have hw := hw.1 c_4
    refine lv_lconst (v := (0 : Int64)) hx hb dL_isOut_14 (by decide) ?_
    obtain ⟨h_5, hw⟩ := hw
    refine va_last hx hb hK hP hD hS 2 0 rfl rfl h_5 dL_isOut_15 (fun H locs hP hD hS => ?_)
    have hP : va_P D vwCl (cl_L_isOut ad cs vH_fill vH_patience vE_placed vE_playing vE_out vE_turn (vp_updL vO (0 : Int32).toNatClampNeg (0 : Int64))) H := hP
    have hD : va_D A (cl_L_isOut ad cs vH_fill vH_patience vE_placed vE_playing vE_out vE_turn (vp_updL vO (0 : Int32).toNatClampNeg (0 : Int64))) := hD
    refine lv_goto (tgt := 22) hx hb dL_isOut_16 (by decide) ?_
    refine lv_iconst (v := (0 : Int32)) hx hb dL_isOut_22 (by decide) ?_
    exact hret _ _ _ _ _ _ hw hP hD hS dL_isOut_23
  · have hw := hw.2 c_4
    refine lv_lconst (v := (1 : Int64)) hx hb dL_isOut_10 (by decide) ?_
    refine lv_goto (tgt := 15) hx hb dL_isOut_11 (by decide) ?_
    obtain ⟨h_6, hw⟩ := hw
    refine va_last hx hb hK hP hD hS 2 0 rfl rfl h_6 dL_isOut_15 (fun H locs hP hD hS => ?_)
    have hP : va_P D vwCl (cl_L_isOut ad cs vH_fill vH_patience vE_placed vE_playing vE_out vE_turn (vp_updL vO (0 : Int32).toNatClampNeg (1 : Int64))) H := hP
    have hD : va_D A (cl_L_isOut ad cs vH_fill vH_patience vE_placed vE_playing vE_out vE_turn (vp_updL vO (0 : Int32).toNatClampNeg (1 : Int64))) := hD
    refine lv_goto (tgt := 22) hx hb dL_isOut_16 (by decide) ?_
    refine lv_iconst (v := (0 : Int32)) hx hb dL_isOut_22 (by decide) ?_
    exact hret _ _ _ _ _ _ hw hP hD hS dL_isOut_23
set_option maxHeartbeats 4000000 in
set_option maxRecDepth 100000 in
theorem c_L_isOut (l : Launch) (hst : l.stackTraces = false) (D : va_G) (ad : Nat → Nat) (cs : Nat → ClassId) (sz : Nat) (vH_fill vH_patience vE_placed vE_playing vE_out vE_turn : Int32) (vO : Nat → Int64) (x1 : Int32) (Q : Int32 → (Nat → Int64) → Prop) (hw : wp_L_isOut vH_fill vH_patience vE_placed vE_playing vE_out vE_turn vO x1 Q) :
  Met l yL_isOut wsL_isOut rm_L_isOut (va_Pc [.ref (ad 0), .int x1, .ref (ad 48)] (PXE D (cl_L_isOut ad cs vH_fill vH_patience vE_placed vE_playing vE_out vE_turn vO) (ty_L_isOut cs) sz)) (va_Qi (fun (r : Int32) (u : (Nat → Int64)) => Q r u) (fun (u : (Nat → Int64)) t => va_P D vwCl (cl_L_isOut ad cs vH_fill vH_patience vE_placed vE_playing vE_out vE_turn u) t.heap ∧ va_D (va_A (cl_L_isOut ad cs vH_fill vH_patience vE_placed vE_playing vE_out vE_turn vO) sz) (cl_L_isOut ad cs vH_fill vH_patience vE_placed vE_playing vE_out vE_turn u)) (va_A (cl_L_isOut ad cs vH_fill vH_patience vE_placed vE_playing vE_out vE_turn vO) sz)) 1 6 (va_A (cl_L_isOut ad cs vH_fill vH_patience vE_placed vE_playing vE_out vE_turn vO) sz) := by
  refine va_MetW (cc := cL_isOut) (maxL := 4) (ret := (some .int)) (hh := [(0, 16, 19, 26)]) (by decide) rfl ?_
  intro p e s m args below meth c s₁ B hml hv
  obtain ⟨rfl, ⟨hsz, hP, hK, hD0, hN⟩, hC9, hX9, hB9⟩ := hv
  subst hsz
  have hl := lv_entry ([.ref (ad 0), .int x1, .ref (ad 48)]) (n := 4) (Nat.le_of_ble_eq_true rfl)
  rw [lg_entry_eq]
  have hx := B.exec
  have hb := B.bytes
  have hr := B.returns
  have hts := atoms_spec (ws := wsL_isOut) B.pre
  have htab := vx_table (x := yL_isOut) B (hts _ List.mem_cons_self)
  exact b_L_isOut l D ad cs vH_fill vH_patience vE_placed vE_playing vE_out vE_turn vO x1 Q hx hb hml (findClass_of_methodNamed B.named) hts hN hst htab hC9 hX9 hB9 hP hK hD0.self (fun q h => Or.inr h) hl (fun r o0 H locs pc ls hq hP hD hS hd => W.iret (v := r) hx hb hr (fun t ht hW => ⟨⟨r, o0, rfl, hq, by rw [ht]; exact hP, hD⟩, hS.F ht⟩) hS.2.2 hd) hw
abbrev rm_L_way : Room := { frames := 7, cells := 1, slots := 6, locals := 131 }
abbrev cl_L_way (ad : Nat → Nat) (cs : Nat → ClassId) (vH_fill vH_patience : Int32) (vS_rows vS_columns vS_camps vM_owners vP_marbleCells vP_goalCells vP_steps vP_firstSums : Nat → Int32) (vE_placed vE_playing vE_out vE_turn : Int32) (vO : Nat → Int64) : va_W := [((ad 0), .inr (6, [.ref (ad 1), .ref (ad 6), .ref (ad 8), .ref (ad 12), .ref (ad 19), .ref (ad 22), .int vH_fill, .int vH_patience])), ((ad 1), .inr (5, [.ref (ad 2), .ref (ad 3), .ref (ad 4), .ref (ad 5)])), ((ad 2), .inl ((cs 2), 121, .inl vS_rows)), ((ad 3), .inl ((cs 3), 121, .inl vS_columns)), ((ad 4), .inl ((cs 4), 121, .inl vS_camps)), ((ad 6), .inr (1, [.ref (ad 1), .ref (ad 7)])), ((ad 7), .inl ((cs 7), 121, .inl vM_owners)), ((ad 12), .inr (2, [.ref (ad 1), .ref (ad 6), .ref (ad 13), .ref (ad 14), .ref (ad 15), .ref (ad 16), .ref (ad 17), .ref (ad 18)])), ((ad 13), .inl ((cs 13), 10, .inl vP_marbleCells)), ((ad 14), .inl ((cs 14), 10, .inl vP_goalCells)), ((ad 15), .inl ((cs 15), 100, .inl vP_steps)), ((ad 16), .inl ((cs 16), 1024, .inl vP_firstSums)), ((ad 19), .inr (4, [.ref (ad 6), .ref (ad 20), .ref (ad 21), .int vE_placed, .int vE_playing, .int vE_out, .int vE_turn])), ((ad 48), .inl ((cs 48), 1, .inr (.inl vO)))]
abbrev ty_L_way (cs : Nat → ClassId) : List (ClassId × FieldType) := [((cs 2), .int), ((cs 3), .int), ((cs 4), .int), ((cs 7), .int), ((cs 13), .int), ((cs 14), .int), ((cs 15), .int), ((cs 16), .int), ((cs 48), .long)]
def wp_L_way (vH_fill vH_patience : Int32) (vS_rows vS_columns vS_camps vM_owners vP_marbleCells vP_goalCells vP_steps vP_firstSums : Nat → Int32) (vE_placed vE_playing vE_out vE_turn : Int32) (vO : Nat → Int64) (x1 : Int32) (Q : Int32 → (Nat → Int32) → (Nat → Int32) → (Nat → Int32) → (Nat → Int32) → (Nat → Int64) → Prop) : Prop :=
 wp_X6_way vH_fill vH_patience vS_rows vS_columns vS_camps vM_owners vP_marbleCells vP_goalCells vP_steps vP_firstSums vE_placed vE_playing vE_out vE_turn x1 (fun r_1 vP_marbleCells_2 vP_goalCells_3 vP_steps_4 vP_firstSums_5 =>
 (vp_in (0 : Int32) 1 ∧
 Q (0 : Int32) vP_marbleCells_2 vP_goalCells_3 vP_steps_4 vP_firstSums_5 (vp_updL vO (0 : Int32).toNatClampNeg ((r_1).toInt64))))
 (fun E_10 vP_marbleCells_6 vP_goalCells_7 vP_steps_8 vP_firstSums_9 => (E_10 = "java/lang/IndexOutOfBoundsException" ∧ Q (1 : Int32) vP_marbleCells_6 vP_goalCells_7 vP_steps_8 vP_firstSums_9 vO))
set_option maxHeartbeats 4000000 in
set_option maxRecDepth 100000 in
theorem b_L_way {p : Program} {e : Env} {s : State} {m : MethodId} {args : Array Value} {below : List Frame} {meth : Method} {c : Code} {QQ : State → Prop} {A : Nat → Prop} {ls : Array Slot} (l : Launch) (D : va_G) (ad : Nat → Nat) (cs : Nat → ClassId) (vH_fill vH_patience : Int32) (vS_rows vS_columns vS_camps vM_owners vP_marbleCells vP_goalCells vP_steps vP_firstSums : Nat → Int32) (vE_placed vE_playing vE_out vE_turn : Int32) (vO : Nat → Int64) (x1 : Int32) (Q : Int32 → (Nat → Int32) → (Nat → Int32) → (Nat → Int32) → (Nat → Int32) → (Nat → Int64) → Prop) (hx : p.tables.exec = Jvm.exec) (hb : c.code = cL_way) (hml : c.maxLocals = 4) (hown : s.vm.findClass RL = some m.cls) (hts : ∀ w ∈ wsL_way, w.before args s = true) (hN : NW s) (hst : l.stackTraces = false) (htab0 : c.exceptionTable.toList = [(⟨0, 9, 12, 26⟩ : ExceptionTableEntry)]) (hC9 : SXC s) (hX9 : SXT s) (hB9 : SB A s s.heap) (hP : va_P D vwCl (cl_L_way ad cs vH_fill vH_patience vS_rows vS_columns vS_camps vM_owners vP_marbleCells vP_goalCells vP_steps vP_firstSums vE_placed vE_playing vE_out vE_turn vO) s.heap) (hK : va_K D vwCl (ty_L_way cs) s) (hD : va_D A (cl_L_way ad cs vH_fill vH_patience vS_rows vS_columns vS_camps vM_owners vP_marbleCells vP_goalCells vP_steps vP_firstSums vE_placed vE_playing vE_out vE_turn vO)) (hA : ∀ q : Nat, s.heap.size ≤ q → A q) (hl : lv_has ls 4 [(0, .ref (ad 0)), (1, .int x1), (2, .ref (ad 48))])
  (hret : ∀ (r : Int32) (o0 : Nat → Int32) (o1 : Nat → Int32) (o2 : Nat → Int32) (o3 : Nat → Int32) (o4 : Nat → Int64) (H : Heap) (locs : List Loc) (pc : Nat) (ls : Array Slot), Q r o0 o1 o2 o3 o4 → va_P D vwCl (cl_L_way ad cs vH_fill vH_patience vS_rows vS_columns vS_camps vM_owners o0 o1 o2 o3 vE_placed vE_playing vE_out vE_turn o4) H → va_D A (cl_L_way ad cs vH_fill vH_patience vS_rows vS_columns vS_camps vM_owners o0 o1 o2 o3 vE_placed vE_playing vE_out vE_turn o4) → va_S A s.heap H locs → decode cL_way pc = .ok (.ireturn, 1) → W p l e rm_L_way s m args below meth c H locs 1 6 QQ (F0 m pc ls [.int r]))
  (hw : wp_L_way vH_fill vH_patience vS_rows vS_columns vS_camps vM_owners vP_marbleCells vP_goalCells vP_steps vP_firstSums vE_placed vE_playing vE_out vE_turn vO x1 Q) :
  W p l e rm_L_way s m args below meth c s.heap [] 0 0 QQ (F0 m 0 ls []) := by
  have S0 : CallFix p m c cL_way 4 s args wsL_way RL := ⟨hx, hb, hml, hown, hts⟩
  have htab := htab0
  obtain ⟨H, hH⟩ : ∃ H : Heap, H = s.heap := ⟨_, rfl⟩
  have hS : va_S A s.heap H [] := by rw [hH]; exact va_S.rf
  rw [← hH] at hP ⊢
  unfold wp_L_way at hw
  refine lv_aload_n hx hb dL_way_0 rfl (lv_at hl 2 rfl) ?_
  refine lv_iconst (v := (0 : Int32)) hx hb dL_way_1 (by decide) ?_
  refine lv_aload_n hx hb dL_way_2 rfl (lv_at hl 0 rfl) ?_
  refine lv_iload_n hx hb dL_way_3 rfl (lv_at hl 1 rfl) ?_
  refine pxVi (rest := [.int (0 : Int32), .ref (ad 48)]) (wr := [((ad 48), .inl ((cs 48), 1, .inr (.inl vO)))]) (ci := 6) S0 (c_X6_way l hst D ad cs H.size vH_fill vH_patience vS_rows vS_columns vS_camps vM_owners vP_marbleCells vP_goalCells vP_steps vP_firstSums vE_placed vE_playing vE_out vE_turn x1 _ _ hw) (cwV 1 hts gL_way_X6_way rfl rfl rfl (by decide +kernel) ⟨Nat.le_of_ble_eq_true rfl, Nat.le_of_ble_eq_true rfl⟩) hN hC9 hX9 hB9 hK hP hD hS hA [0, 1, 2, 3, 4, 5, 6, 7, 8, 9, 10, 11, 12] [13] [0, 1, 2, 3, 4, 5, 6, 7] ⟨rfl, rfl, rfl, rfl, rfl, by decide⟩ 0 rfl rfl rfl rfl hl.1 (Nat.le_of_ble_eq_true rfl) ⟨Nat.le_of_ble_eq_true rfl, Nat.le_of_ble_eq_true rfl⟩ dL_way_4 (fun E ce q9_11 u H locs hw hP hD hS h7 h8 h9 => ?_) (fun r_1 u H locs hw hP hD hS => ?_)
  · skip
    obtain ⟨vP_marbleCells_6, vP_goalCells_7, vP_steps_8, vP_firstSums_9⟩ := u
    try dsimp only at hw
    have hP : va_P D vwCl (cl_L_way ad cs vH_fill vH_patience vS_rows vS_columns vS_camps vM_owners vP_marbleCells_6 vP_goalCells_7 vP_steps_8 vP_firstSums_9 vE_placed vE_playing vE_out vE_turn vO) H := hP.sub [1, 2, 3, 4, 5, 6, 7, 8, 9, 10, 11, 12, 13, 0] rfl
    have hD : va_D A (cl_L_way ad cs vH_fill vH_patience vS_rows vS_columns vS_camps vM_owners vP_marbleCells_6 vP_goalCells_7 vP_steps_8 vP_firstSums_9 vE_placed vE_playing vE_out vE_turn vO) := hD.sub [1, 2, 3, 4, 5, 6, 7, 8, 9, 10, 11, 12, 13, 0] (by decide) rfl
    obtain ⟨hE, hw⟩ := hw
    subst hE
    refine vx_catch (name := jI) hown [] (⟨0, 9, 12, 26⟩ : ExceptionTableEntry) [] htab (fun z hz => by exact absurd hz List.not_mem_nil) (by decide) (by decide) (hts (.classLink RL 26 jI) (by decide +kernel)) (va_Nw.use rfl hC9.1) h7 h8 h9 ?_
    refine lv_astore_n (lv' := [(3, .ref q9_11), (0, .ref (ad 0)), (1, .int x1), (2, .ref (ad 48))]) hx hb dL_way_12 rfl hl (by decide) rfl (fun ls hl => ?_)
    refine lv_iconst (v := (1 : Int32)) hx hb dL_way_13 (by decide) ?_
    exact hret _ _ _ _ _ _ _ _ _ _ hw hP hD hS dL_way_14
  obtain ⟨vP_marbleCells_2, vP_goalCells_3, vP_steps_4, vP_firstSums_5⟩ := u
  try dsimp only at hw
  have hP : va_P D vwCl (cl_L_way ad cs vH_fill vH_patience vS_rows vS_columns vS_camps vM_owners vP_marbleCells_2 vP_goalCells_3 vP_steps_4 vP_firstSums_5 vE_placed vE_playing vE_out vE_turn vO) H := hP.sub [1, 2, 3, 4, 5, 6, 7, 8, 9, 10, 11, 12, 13, 0] rfl
  have hD : va_D A (cl_L_way ad cs vH_fill vH_patience vS_rows vS_columns vS_camps vM_owners vP_marbleCells_2 vP_goalCells_3 vP_steps_4 vP_firstSums_5 vE_placed vE_playing vE_out vE_turn vO) := hD.sub [1, 2, 3, 4, 5, 6, 7, 8, 9, 10, 11, 12, 13, 0] (by decide) rfl
  refine lv_i2l (v := (r_1).toInt64) hx hb dL_way_7 rfl ?_
  obtain ⟨h_12, hw⟩ := hw
  refine va_last hx hb hK hP hD hS 13 8 rfl rfl h_12 dL_way_8 (fun H locs hP hD hS => ?_)
  have hP : va_P D vwCl (cl_L_way ad cs vH_fill vH_patience vS_rows vS_columns vS_camps vM_owners vP_marbleCells_2 vP_goalCells_3 vP_steps_4 vP_firstSums_5 vE_placed vE_playing vE_out vE_turn (vp_updL vO (0 : Int32).toNatClampNeg ((r_1).toInt64))) H := hP
  have hD : va_D A (cl_L_way ad cs vH_fill vH_patience vS_rows vS_columns vS_camps vM_owners vP_marbleCells_2 vP_goalCells_3 vP_steps_4 vP_firstSums_5 vE_placed vE_playing vE_out vE_turn (vp_updL vO (0 : Int32).toNatClampNeg ((r_1).toInt64))) := hD
  refine lv_goto (tgt := 15) hx hb dL_way_9 (by decide) ?_
  refine lv_iconst (v := (0 : Int32)) hx hb dL_way_15 (by decide) ?_
  exact hret _ _ _ _ _ _ _ _ _ _ hw hP hD hS dL_way_16
set_option maxHeartbeats 4000000 in
set_option maxRecDepth 100000 in
theorem c_L_way (l : Launch) (hst : l.stackTraces = false) (D : va_G) (ad : Nat → Nat) (cs : Nat → ClassId) (sz : Nat) (vH_fill vH_patience : Int32) (vS_rows vS_columns vS_camps vM_owners vP_marbleCells vP_goalCells vP_steps vP_firstSums : Nat → Int32) (vE_placed vE_playing vE_out vE_turn : Int32) (vO : Nat → Int64) (x1 : Int32) (Q : Int32 → (Nat → Int32) → (Nat → Int32) → (Nat → Int32) → (Nat → Int32) → (Nat → Int64) → Prop) (hw : wp_L_way vH_fill vH_patience vS_rows vS_columns vS_camps vM_owners vP_marbleCells vP_goalCells vP_steps vP_firstSums vE_placed vE_playing vE_out vE_turn vO x1 Q) :
  Met l yL_way wsL_way rm_L_way (va_Pc [.ref (ad 0), .int x1, .ref (ad 48)] (PXE D (cl_L_way ad cs vH_fill vH_patience vS_rows vS_columns vS_camps vM_owners vP_marbleCells vP_goalCells vP_steps vP_firstSums vE_placed vE_playing vE_out vE_turn vO) (ty_L_way cs) sz)) (va_Qi (fun (r : Int32) (u : (Nat → Int32) × (Nat → Int32) × (Nat → Int32) × (Nat → Int32) × (Nat → Int64)) => Q r u.1 u.2.1 u.2.2.1 u.2.2.2.1 u.2.2.2.2) (fun (u : (Nat → Int32) × (Nat → Int32) × (Nat → Int32) × (Nat → Int32) × (Nat → Int64)) t => va_P D vwCl (cl_L_way ad cs vH_fill vH_patience vS_rows vS_columns vS_camps vM_owners u.1 u.2.1 u.2.2.1 u.2.2.2.1 vE_placed vE_playing vE_out vE_turn u.2.2.2.2) t.heap ∧ va_D (va_A (cl_L_way ad cs vH_fill vH_patience vS_rows vS_columns vS_camps vM_owners vP_marbleCells vP_goalCells vP_steps vP_firstSums vE_placed vE_playing vE_out vE_turn vO) sz) (cl_L_way ad cs vH_fill vH_patience vS_rows vS_columns vS_camps vM_owners u.1 u.2.1 u.2.2.1 u.2.2.2.1 vE_placed vE_playing vE_out vE_turn u.2.2.2.2)) (va_A (cl_L_way ad cs vH_fill vH_patience vS_rows vS_columns vS_camps vM_owners vP_marbleCells vP_goalCells vP_steps vP_firstSums vE_placed vE_playing vE_out vE_turn vO) sz)) 1 6 (va_A (cl_L_way ad cs vH_fill vH_patience vS_rows vS_columns vS_camps vM_owners vP_marbleCells vP_goalCells vP_steps vP_firstSums vE_placed vE_playing vE_out vE_turn vO) sz) := by
  refine va_MetW (cc := cL_way) (maxL := 4) (ret := (some .int)) (hh := [(0, 9, 12, 26)]) (by decide) rfl ?_
  intro p e s m args below meth c s₁ B hml hv
  obtain ⟨rfl, ⟨hsz, hP, hK, hD0, hN⟩, hC9, hX9, hB9⟩ := hv
  subst hsz
  have hl := lv_entry ([.ref (ad 0), .int x1, .ref (ad 48)]) (n := 4) (Nat.le_of_ble_eq_true rfl)
  rw [lg_entry_eq]
  have hx := B.exec
  have hb := B.bytes
  have hr := B.returns
  have hts := atoms_spec (ws := wsL_way) B.pre
  have htab := vx_table (x := yL_way) B (hts _ List.mem_cons_self)
  exact b_L_way l D ad cs vH_fill vH_patience vS_rows vS_columns vS_camps vM_owners vP_marbleCells vP_goalCells vP_steps vP_firstSums vE_placed vE_playing vE_out vE_turn vO x1 Q hx hb hml (findClass_of_methodNamed B.named) hts hN hst htab hC9 hX9 hB9 hP hK hD0.self (fun q h => Or.inr h) hl (fun r o0 o1 o2 o3 o4 H locs pc ls hq hP hD hS hd => W.iret (v := r) hx hb hr (fun t ht hW => ⟨⟨r, (o0, o1, o2, o3, o4), rfl, hq, by rw [ht]; exact hP, hD⟩, hS.F ht⟩) hS.2.2 hd) hw
