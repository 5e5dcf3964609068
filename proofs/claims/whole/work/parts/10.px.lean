/-! WHAT IS GIVEN AT EVERY ENTRY, and calls in one row -/
/-- the links to private members of nest mates -/
def NW (U : State) : Prop := va_Nw (.methodLinkNest RX5 43 yX6_isCell RX6) U ∧ va_Nw (.methodLinkNest RX1 29 yX6_isCell RX6) U ∧ va_Nw (.methodLinkNest RX3 53 yX6_isCell RX6) U ∧ va_Nw (.methodLinkNest RX3 63 yX6_goalOf RX6) U ∧ va_Nw (.methodLinkNest RX2 68 yX6_goalOf RX6) U ∧ va_Nw (.methodLinkNest RX4 39 yX6_isCamp RX6) U ∧ va_Nw (.methodLinkNest RX4 58 yX6_goalOf RX6) U ∧ va_Nw (.methodLinkNest RX6 52 yX0_init RX6) U
theorem NW_warm {s U : State} (hW : s.WarmedH U.vm) (h : NW s) : NW U := ⟨va_Nw.warmM hW h.1, va_Nw.warmM hW h.2.1, va_Nw.warmM hW h.2.2.1, va_Nw.warmM hW h.2.2.2.1, va_Nw.warmM hW h.2.2.2.2.1, va_Nw.warmM hW h.2.2.2.2.2.1, va_Nw.warmM hW h.2.2.2.2.2.2.1, va_Nw.warmM hW h.2.2.2.2.2.2.2⟩
theorem NW_vm {u U : State} (e : u.vm = U.vm) (h : NW u) : NW U := ⟨va_Nw.same rfl e h.1, va_Nw.same rfl e h.2.1, va_Nw.same rfl e h.2.2.1, va_Nw.same rfl e h.2.2.2.1, va_Nw.same rfl e h.2.2.2.2.1, va_Nw.same rfl e h.2.2.2.2.2.1, va_Nw.same rfl e h.2.2.2.2.2.2.1, va_Nw.same rfl e h.2.2.2.2.2.2.2⟩
def PX (D : va_G) (ws : va_W) (ty : List (ClassId × FieldType)) (sz : Nat) (U : State) : Prop := U.heap.size = sz ∧ va_P D vwCl ws U.heap ∧ va_K D vwCl ty U ∧ va_D (fun _ => True) ws ∧ NW U
theorem PX_blind {av : List Value} {D : va_G} {ws : va_W} {ty : List (ClassId × FieldType)} {sz : Nat} : FrameBlind (va_Pc av (PX D ws ty sz)) := fun a U g mk q => ⟨q.1, q.2.1, q.2.2.1, va_K.moved (u := U) (U := U.calling g mk a) (Vm.Alike.refl U.vm) q.2.2.2.1, q.2.2.2.2.1, NW_vm (u := U) (U := U.calling g mk a) rfl q.2.2.2.2.2⟩
theorem PX_at {A : Nat → Prop} {D : va_G} {ws wc : va_W} {ty tc : List (ClassId × FieldType)} {s : State} {H : Heap} {As : List Value} (hN : NW s) (hK : va_K D vwCl ty s) (hP : va_P D vwCl ws H) (hD : va_D A ws) (isC isT : List Nat) (hC : isC.map (fun i => ws[i]?) = wc.map some) (hn : va_nd isC = true) (hT : isT.filterMap (fun i => ty[i]?) = tc) :
    ∀ U : State, U.heap = H → s.WarmedH U.vm → va_Pc As (PX D wc tc H.size) As.toArray U := by
  intro U hU hW
  refine ⟨rfl, by rw [hU], ?_, va_K.moved hW.alike (hK.sub isT hT), (hD.sub isC hn hC).weaken (fun _ _ _ _ => trivial), NW_warm hW hN⟩
  rw [hU]
  refine hP.sub isC ?_
  have : isC.filterMap (fun i => ws[i]?) = (isC.map (fun i => ws[i]?)).filterMap id := by
    rw [List.filterMap_map]; rfl
  rw [this, hC, List.filterMap_map]
  show List.filterMap some wc = wc
  exact List.filterMap_some ..
section PXC
variable {p : Program} {l : Launch} {e : Env} {R : Room} {s : State} {m : MethodId} {args : Array Value} {below : List Frame} {meth : Method} {c : Code} {H : Heap} {locs : List Loc} {cells slots : Nat} {Q : State → Prop}
variable {y : MethodName} {bytes cc : ByteArray} {maxL nL mc ms n index : Nat} {ret : Option FieldType} {wsY : List Cond} {rm : Room} {Ts : List Cond} {own C host : String} {b : Addr} {As rest st0 : List Value} {pc : Nat} {ls : Array Slot}
variable {A : Nat → Prop} {D : va_G} {ws wc wr : va_W} {ty tc : List (ClassId × FieldType)} {fs : List Value} {ci : Nat} {cq : u_T × Nat}
/-- what a call site says of the worlds -/
def pxS (A : Nat → Prop) (ws wc wr : va_W) (ty tc : List (ClassId × FieldType)) (isC isR isT : List Nat) : Prop := isC.map (fun i => ws[i]?) = wc.map some ∧ va_nd isC = true ∧ isT.filterMap (fun i => ty[i]?) = tc ∧ isR.map (fun i => ws[i]?) = wr.map some ∧ va_nd isR = true ∧ ∀ i ∈ isR, i ∉ isC
/-- an instance call that only reads, int -/
theorem pcV {post : Int32 → Prop} (S : CallFix p m c cc nL s args Ts own) (hM : Met l y wsY rm (va_Pc (.ref b :: As) (PX D wc tc H.size)) (vp_Si post) 0 0 (fun _ => False)) (cw : CallW R s args own C index y bytes maxL ret wsY rm 0 0 n) (hN : NW s) (hK : va_K D vwCl ty s) (hP : va_P D vwCl ws H) (hD : va_D A ws)
    (isC isT : List Nat) (hC : isC.map (fun i => ws[i]?) = wc.map some) (hnd : va_nd isC = true) (hT : isT.filterMap (fun i => ty[i]?) = tc) (q0 : Nat) (hc : vwCl[ci]? = some (C, cq)) (he : ws[q0]? = some (b, .inr (ci, fs))) (hst : st0 = As.reverse ++ .ref b :: rest) (hn : As.length = n) (hl : ls.size = nL) (hroom : (rest.map fun v => v.category).sum ≤ 8) (hcs : cells ≤ R.cells ∧ slots ≤ R.slots) (hdg : decode cc pc = .ok (.invokevirtual index, 3))
    (kk : ∀ r : Int32, post r → W p l e R s m args below meth c H locs cells slots Q (F0 m (pc + 3) ls (.int r :: rest))) : W p l e R s m args below meth c H locs cells slots Q (F0 m pc ls st0) := by
  subst hst
  exact vp_callSi (va_runV (As := As) (rest := rest) S hM cw ⟨PX_blind, va_recv hK hP hc he, PX_at hN hK hP hD isC isT hC hnd hT⟩ rfl hn hl rfl (lv_room (pc := pc) (ls := ls) (rest := As.reverse ++ .ref b :: rest) hroom) hdg hcs).run kk
/-- a static call that only reads, int -/
theorem pcS {post : Int32 → Prop} (S : CallFix p m c cc nL s args Ts own) (hM : Met l y wsY rm (va_Pc As (PX D wc tc H.size)) (vp_Si post) 0 0 (fun _ => False)) (cw : CallB R s args own index y bytes maxL ret wsY rm 0 0 n ∧ (Cond.static y).before args s = true) (hN : NW s) (hK : va_K D vwCl ty s) (hP : va_P D vwCl ws H) (hD : va_D A ws)
    (isC isT : List Nat) (hC : isC.map (fun i => ws[i]?) = wc.map some) (hnd : va_nd isC = true) (hT : isT.filterMap (fun i => ty[i]?) = tc) (hst : st0 = As.reverse ++ rest) (hn : As.length = n) (hl : ls.size = nL) (hroom : (rest.map fun v => v.category).sum ≤ 8) (hcs : cells ≤ R.cells ∧ slots ≤ R.slots) (hdg : decode cc pc = .ok (.invokestatic index, 3))
    (kk : ∀ r : Int32, post r → W p l e R s m args below meth c H locs cells slots Q (F0 m (pc + 3) ls (.int r :: rest))) : W p l e R s m args below meth c H locs cells slots Q (F0 m pc ls st0) := by
  subst hst
  exact vp_callSi (va_runS (As := As) (rest := rest) S hM cw ⟨PX_blind, PX_at hN hK hP hD isC isT hC hnd hT⟩ rfl hn hl rfl (lv_room (pc := pc) (ls := ls) (rest := As.reverse ++ rest) hroom) hdg hcs).run kk
/-- a static call of a nest mate's private method, that only reads, int -/
theorem pcSN {post : Int32 → Prop} (S : CallFix p m c cc nL s args Ts own) (hM : Met l y wsY rm (va_Pc As (PX D wc tc H.size)) (vp_Si post) 0 0 (fun _ => False)) (cw : va_CN R s args own index y host bytes maxL ret wsY rm 0 0 n ∧ (Cond.static y).before args s = true ∧ True) (hN : NW s) (hK : va_K D vwCl ty s) (hP : va_P D vwCl ws H) (hD : va_D A ws)
    (isC isT : List Nat) (hC : isC.map (fun i => ws[i]?) = wc.map some) (hnd : va_nd isC = true) (hT : isT.filterMap (fun i => ty[i]?) = tc) (hst : st0 = As.reverse ++ rest) (hn : As.length = n) (hl : ls.size = nL) (hroom : (rest.map fun v => v.category).sum ≤ 8) (hcs : cells ≤ R.cells ∧ slots ≤ R.slots) (hdg : decode cc pc = .ok (.invokestatic index, 3))
    (kk : ∀ r : Int32, post r → W p l e R s m args below meth c H locs cells slots Q (F0 m (pc + 3) ls (.int r :: rest))) : W p l e R s m args below meth c H locs cells slots Q (F0 m pc ls st0) := by
  subst hst
  exact vp_callSi (va_runSN (As := As) (rest := rest) S hM cw ⟨PX_blind, PX_at hN hK hP hD isC isT hC hnd hT⟩ rfl hn hl rfl (lv_room (pc := pc) (ls := ls) (rest := As.reverse ++ rest) hroom) hdg hcs).run kk
/-- an instance call that writes, int -/
theorem pcVi {S' : Type} {post : Int32 → S' → Prop} {w1 : S' → va_W} (S : CallFix p m c cc nL s args Ts own) (hM : Met l y wsY rm (va_Pc (.ref b :: As) (PX D wc tc H.size)) (va_Qi post (fun u t => va_P D vwCl (w1 u) t.heap ∧ va_D (va_A wc H.size) (w1 u)) (va_A wc H.size)) mc ms (va_A wc H.size)) (cw : CallW R s args own C index y bytes maxL ret wsY rm mc ms n) (hN : NW s) (hK : va_K D vwCl ty s) (hP : va_P D vwCl ws H) (hD : va_D A ws)
    (hS : va_S A s.heap H locs) (hA : ∀ q, s.heap.size ≤ q → A q) (isC isR isT : List Nat) (hx : pxS A ws wc wr ty tc isC isR isT) (q0 : Nat) (hc : vwCl[ci]? = some (C, cq)) (he : ws[q0]? = some (b, .inr (ci, fs))) (hst : st0 = As.reverse ++ .ref b :: rest) (hn : As.length = n) (hl : ls.size = nL) (hroom : (rest.map fun v => v.category).sum ≤ 8) (hcs : cells + mc ≤ R.cells ∧ slots + ms ≤ R.slots) (hdg : decode cc pc = .ok (.invokevirtual index, 3))
    (kk : ∀ (r : Int32) (u : S') (H1 : Heap) (locs1 : List Loc), post r u → va_P D vwCl (wr ++ w1 u) H1 → va_D A (wr ++ w1 u) → va_S A s.heap H1 locs1 → W p l e R s m args below meth c H1 locs1 (cells + mc) (slots + ms) Q (F0 m (pc + 3) ls (.int r :: rest))) : W p l e R s m args below meth c H locs cells slots Q (F0 m pc ls st0) := by
  subst hst
  obtain ⟨hC, hnd, hT, hR, hnr, hdis⟩ := hx
  have hFc := va_free (wc := wc) hD hS hA isC hC
  refine va_calli (va_runV (As := As) (rest := rest) S hM cw ⟨PX_blind, va_recv hK hP hc he, PX_at hN hK hP hD isC isT hC hnd hT⟩ rfl hn hl rfl (lv_room (pc := pc) (ls := ls) (rest := As.reverse ++ .ref b :: rest) hroom) hdg hcs) hS (fun q _ h => hFc q h) hFc (fun r u t H1 locs1 ht hvm hw hB hz1 hk1 hS => ?_)
  obtain ⟨hP1, hD1⟩ := hB
  rw [ht] at hP1
  obtain ⟨hP2, hD2⟩ := va_join hP hD isC isR hC hR hnr hdis hk1 hFc hP1 hD1
  exact kk r u H1 locs1 hw hP2 hD2 hS
/-- an instance call that writes, void -/
theorem pcVv {S' : Type} {post : S' → Prop} {w1 : S' → va_W} (S : CallFix p m c cc nL s args Ts own) (hM : Met l y wsY rm (va_Pc (.ref b :: As) (PX D wc tc H.size)) (va_Qv post (fun u t => va_P D vwCl (w1 u) t.heap ∧ va_D (va_A wc H.size) (w1 u)) (va_A wc H.size)) mc ms (va_A wc H.size)) (cw : CallW R s args own C index y bytes maxL ret wsY rm mc ms n) (hN : NW s) (hK : va_K D vwCl ty s) (hP : va_P D vwCl ws H) (hD : va_D A ws)
    (hS : va_S A s.heap H locs) (hA : ∀ q, s.heap.size ≤ q → A q) (isC isR isT : List Nat) (hx : pxS A ws wc wr ty tc isC isR isT) (q0 : Nat) (hc : vwCl[ci]? = some (C, cq)) (he : ws[q0]? = some (b, .inr (ci, fs))) (hst : st0 = As.reverse ++ .ref b :: rest) (hn : As.length = n) (hl : ls.size = nL) (hroom : (rest.map fun v => v.category).sum ≤ 8) (hcs : cells + mc ≤ R.cells ∧ slots + ms ≤ R.slots) (hdg : decode cc pc = .ok (.invokevirtual index, 3))
    (kk : ∀ (u : S') (H1 : Heap) (locs1 : List Loc), post u → va_P D vwCl (wr ++ w1 u) H1 → va_D A (wr ++ w1 u) → va_S A s.heap H1 locs1 → W p l e R s m args below meth c H1 locs1 (cells + mc) (slots + ms) Q (F0 m (pc + 3) ls rest)) : W p l e R s m args below meth c H locs cells slots Q (F0 m pc ls st0) := by
  subst hst
  obtain ⟨hC, hnd, hT, hR, hnr, hdis⟩ := hx
  have hFc := va_free (wc := wc) hD hS hA isC hC
  refine va_callv (va_runV (As := As) (rest := rest) S hM cw ⟨PX_blind, va_recv hK hP hc he, PX_at hN hK hP hD isC isT hC hnd hT⟩ rfl hn hl rfl (lv_room (pc := pc) (ls := ls) (rest := As.reverse ++ .ref b :: rest) hroom) hdg hcs) hS (fun q _ h => hFc q h) hFc (fun u t H1 locs1 ht hvm hw hB hz1 hk1 hS => ?_)
  obtain ⟨hP1, hD1⟩ := hB
  rw [ht] at hP1
  obtain ⟨hP2, hD2⟩ := va_join hP hD isC isR hC hR hnr hdis hk1 hFc hP1 hD1
  exact kk u H1 locs1 hw hP2 hD2 hS
end PXC
def nb (r : Int32) : Prop := narrow .boolean (.int r) = .int r
theorem nb_0 : nb 0 := by unfold nb; first | rfl | decide
theorem nb_1 : nb 1 := by unfold nb; first | rfl | decide
/-! STATIC TABLES of the board, and what a throwing method takes from its surroundings -/
def tb_FIRST_CELL : Nat → Int32 := fun j => ([0, 1, 3, 6, 10, 23, 35, 46, 56, 65, 75, 86, 98, 111, 115, 118, 120, 121] : List Int32).getD j 0
def tb_FIRST_COLUMN : Nat → Int32 := fun j => ([12, 11, 10, 9, 0, 1, 2, 3, 4, 3, 2, 1, 0, 9, 10, 11, 12] : List Int32).getD j 0
def tb_ROW_STEP : Nat → Int32 := fun j => ([0, 1, 1, 0, -1, -1] : List Int32).getD j 0
def tb_COLUMN_STEP : Nat → Int32 := fun j => ([2, 1, -1, -2, -1, 1] : List Int32).getD j 0
/-- a static int array that nobody writes -/
def STq (n : String) (N : Nat) (f : Nat → Int32) (t : Nat) (A : Nat → Prop) (U : State) (H : Heap) : Prop := va_Z "HopperCourt$Star" n "[I" (.ref t) A U H ∧ va_T .int t N (fun j => .int (f j)) A U H
theorem STq.go {n : String} {N : Nat} {f : Nat → Int32} {t : Nat} {A A1 : Nat → Prop} {s U : State} {H : Heap} {locs : List Loc} (h : STq n N f t A s s.heap) (hS : va_S A s.heap H locs) (hU : U.heap = H) (hv : s.vm.Alike U.vm) (hF : ∀ q, A1 q → A q) : STq n N f t A1 U U.heap := by
  rw [hU]
  exact ⟨((va_Z.moved hv (h.1.kept hS.2.1))).narrow hF, (va_T.moved hv (h.2.kept hS.2.1)).narrow hF⟩
def ST (t1 t2 t3 t4 : Nat) (A : Nat → Prop) (U : State) (H : Heap) : Prop := STq "FIRST_CELL" 18 tb_FIRST_CELL t1 A U H ∧ STq "FIRST_COLUMN" 17 tb_FIRST_COLUMN t2 A U H ∧ STq "ROW_STEP" 6 tb_ROW_STEP t3 A U H ∧ STq "COLUMN_STEP" 6 tb_COLUMN_STEP t4 A U H
theorem ST.go {t1 t2 t3 t4 : Nat} {A A1 : Nat → Prop} {s U : State} {H : Heap} {locs : List Loc} (h : ST t1 t2 t3 t4 A s s.heap) (hS : va_S A s.heap H locs) (hU : U.heap = H) (hv : s.vm.Alike U.vm) (hF : ∀ q, A1 q → A q) : ST t1 t2 t3 t4 A1 U U.heap := ⟨h.1.go hS hU hv hF, h.2.1.go hS hU hv hF, h.2.2.1.go hS hU hv hF, h.2.2.2.go hS hU hv hF⟩
def PXT (D : va_G) (ws : va_W) (ty : List (ClassId × FieldType)) (sz t1 t2 t3 t4 : Nat) (U : State) : Prop := PX D ws ty sz U ∧ ST t1 t2 t3 t4 (va_A ws sz) U U.heap
theorem PXT_blind {av : List Value} {D : va_G} {ws : va_W} {ty : List (ClassId × FieldType)} {sz t1 t2 t3 t4 : Nat} : FrameBlind (va_Pc av (PXT D ws ty sz t1 t2 t3 t4)) := fun a U g mk q => ⟨q.1, (PX_blind (av := av) (D := D) (ws := ws) (ty := ty) (sz := sz) a U g mk ⟨q.1, q.2.1⟩).2, ST.go (s := U) (U := U.calling g mk a) (H := U.heap) (locs := []) q.2.2 va_S.rf rfl (Vm.Alike.refl U.vm) (fun _ h => h)⟩
theorem PXT_at {A : Nat → Prop} {D : va_G} {ws wc : va_W} {ty tc : List (ClassId × FieldType)} {s : State} {H : Heap} {locs : List Loc} {As : List Value} {t1 t2 t3 t4 : Nat} (hN : NW s) (hK : va_K D vwCl ty s) (hP : va_P D vwCl ws H) (hD : va_D A ws) (hS : va_S A s.heap H locs) (hA : ∀ q, s.heap.size ≤ q → A q) (hT : ST t1 t2 t3 t4 A s s.heap) (isC isT : List Nat) (hC : isC.map (fun i => ws[i]?) = wc.map some) (hn : va_nd isC = true) (hTy : isT.filterMap (fun i => ty[i]?) = tc) :
    ∀ U : State, U.heap = H → s.WarmedH U.vm → va_Pc As (PXT D wc tc H.size t1 t2 t3 t4) As.toArray U := fun U hU hW => ⟨rfl, (PX_at (As := As) hN hK hP hD isC isT hC hn hTy U hU hW).2, hT.go hS hU hW.alike (va_free hD hS hA isC hC)⟩
section PXTC
variable {p : Program} {l : Launch} {e : Env} {R : Room} {s : State} {m : MethodId} {args : Array Value} {below : List Frame} {meth : Method} {c : Code} {H : Heap} {locs : List Loc} {cells slots : Nat} {Q : State → Prop}
variable {y : MethodName} {bytes cc : ByteArray} {maxL nL mc ms n index : Nat} {ret : Option FieldType} {wsY : List Cond} {rm : Room} {Ts : List Cond} {own C host : String} {b : Addr} {As rest st0 : List Value} {pc : Nat} {ls : Array Slot}
variable {A : Nat → Prop} {D : va_G} {ws wc wr : va_W} {ty tc : List (ClassId × FieldType)} {fs : List Value} {ci : Nat} {cq : u_T × Nat} {t1 t2 t3 t4 : Nat}
theorem pcST {post : Int32 → Prop} (S : CallFix p m c cc nL s args Ts own) (hM : Met l y wsY rm (va_Pc As (PXT D wc tc H.size t1 t2 t3 t4)) (vp_Si post) 0 0 (fun _ => False)) (cw : CallB R s args own index y bytes maxL ret wsY rm 0 0 n ∧ (Cond.static y).before args s = true) (hN : NW s) (hK : va_K D vwCl ty s) (hP : va_P D vwCl ws H) (hD : va_D A ws) (hS : va_S A s.heap H locs) (hA : ∀ q, s.heap.size ≤ q → A q) (hT : ST t1 t2 t3 t4 A s s.heap)
    (isC isT : List Nat) (hC : isC.map (fun i => ws[i]?) = wc.map some) (hnd : va_nd isC = true) (hTy : isT.filterMap (fun i => ty[i]?) = tc) (hst : st0 = As.reverse ++ rest) (hn : As.length = n) (hl : ls.size = nL) (hroom : (rest.map fun v => v.category).sum ≤ 8) (hcs : cells ≤ R.cells ∧ slots ≤ R.slots) (hdg : decode cc pc = .ok (.invokestatic index, 3))
    (kk : ∀ r : Int32, post r → W p l e R s m args below meth c H locs cells slots Q (F0 m (pc + 3) ls (.int r :: rest))) : W p l e R s m args below meth c H locs cells slots Q (F0 m pc ls st0) := by
  subst hst
  exact vp_callSi (va_runS (As := As) (rest := rest) S hM cw ⟨PXT_blind, PXT_at hN hK hP hD hS hA hT isC isT hC hnd hTy⟩ rfl hn hl rfl (lv_room (pc := pc) (ls := ls) (rest := As.reverse ++ rest) hroom) hdg hcs).run kk
end PXTC
/-- words for throwing and catching: casts, and the texts -/
abbrev jI : String := "java/lang/IndexOutOfBoundsException"
abbrev jS : String := "java/lang/IllegalStateException"
abbrev jA : String := "java/lang/IllegalArgumentException"
def TXR (k : Nat) (tx : String) (U : State) : Prop := ∃ a : Nat, vk_R RX6 k tx a U
theorem TXR.warm {k : Nat} {tx : String} {s U : State} (hW : s.WarmedH U.vm) (h : TXR k tx s) : TXR k tx U := h.elim fun a q => ⟨a, vk_R.warm hW q⟩
theorem TXR.vm {k : Nat} {tx : String} {u U : State} (e : U.vm = u.vm) (h : TXR k tx u) : TXR k tx U := h.elim fun a q => ⟨a, vk_R.same e q⟩
def SXC (U : State) : Prop := va_Nw (.castable jI jI) U ∧ va_Nw (.castable jS jS) U ∧ va_Nw (.castable jA jA) U ∧ va_Nc jS jI U ∧ va_Nc jA jI U ∧ va_Nc jA jS U
theorem SXC.warm {s U : State} (hW : s.WarmedH U.vm) (h : SXC s) : SXC U := ⟨va_Nw.warmC hW h.1, va_Nw.warmC hW h.2.1, va_Nw.warmC hW h.2.2.1, va_Nc.moved hW.alike h.2.2.2.1, va_Nc.moved hW.alike h.2.2.2.2.1, va_Nc.moved hW.alike h.2.2.2.2.2⟩
theorem SXC.vm {u U : State} (e : u.vm = U.vm) (h : SXC u) : SXC U := ⟨va_Nw.same rfl e h.1, va_Nw.same rfl e h.2.1, va_Nw.same rfl e h.2.2.1, va_Nc.moved (by rw [e]; exact Vm.Alike.refl _) h.2.2.2.1, va_Nc.moved (by rw [e]; exact Vm.Alike.refl _) h.2.2.2.2.1, va_Nc.moved (by rw [e]; exact Vm.Alike.refl _) h.2.2.2.2.2⟩
def SXD (U : State) : Prop := va_Nw (.declares (Bundle.initS "java/lang/RuntimeException")) U ∧ va_Nw (.declares (Bundle.initS "java/lang/Exception")) U ∧ va_Nw (.declares (Bundle.initS "java/lang/Throwable")) U
theorem SXD.warm {s U : State} (hW : s.WarmedH U.vm) (h : SXD s) : SXD U := ⟨va_Nw.warmD hW h.1, va_Nw.warmD hW h.2.1, va_Nw.warmD hW h.2.2⟩
theorem SXD.vm {u U : State} (e : u.vm = U.vm) (h : SXD u) : SXD U := ⟨va_Nw.same rfl e h.1, va_Nw.same rfl e h.2.1, va_Nw.same rfl e h.2.2⟩
theorem SXD.in {args : Array Value} {s : State} (h : SXD s) : ∀ w ∈ [Cond.declares (Bundle.initS "java/lang/RuntimeException"), Cond.declares (Bundle.initS "java/lang/Exception"), Cond.declares (Bundle.initS "java/lang/Throwable")], w.before args s = true := vx_c (va_Nw.use rfl h.1) (vx_c (va_Nw.use rfl h.2.1) (vx_c (va_Nw.use rfl h.2.2) vx_n))
def SXT (U : State) : Prop := TXR 72 "no set of at least 2 of the camps 0 to 5" U ∧ TXR 85 "marbles is not 1 to 10" U ∧ TXR 87 "moves is not 0 to 100" U ∧ TXR 95 "no such cell" U ∧ TXR 104 "no game is on, or 300 moves were made" U ∧ TXR 118 "no move" U ∧ TXR 139 "no game is on, 300 moves were made, or there is a move" U ∧ TXR 144 "no move was made" U ∧ TXR 169 "so many ends are not there" U ∧ TXR 171 "no such cell, or hop is below 0" U ∧ TXR 180 "place is not 0 to 5" U ∧ TXR 185 "no such player" U ∧ SXD U
theorem SXT.warm {s U : State} (hW : s.WarmedH U.vm) (h : SXT s) : SXT U := by
  obtain ⟨h1, h2, h3, h4, h5, h6, h7, h8, h9, h10, h11, h12, h13⟩ := h
  exact ⟨h1.warm hW, h2.warm hW, h3.warm hW, h4.warm hW, h5.warm hW, h6.warm hW, h7.warm hW, h8.warm hW, h9.warm hW, h10.warm hW, h11.warm hW, h12.warm hW, h13.warm hW⟩
theorem SXT.vm {u U : State} (e : U.vm = u.vm) (h : SXT u) : SXT U := by
  obtain ⟨h1, h2, h3, h4, h5, h6, h7, h8, h9, h10, h11, h12, h13⟩ := h
  exact ⟨h1.vm e, h2.vm e, h3.vm e, h4.vm e, h5.vm e, h6.vm e, h7.vm e, h8.vm e, h9.vm e, h10.vm e, h11.vm e, h12.vm e, h13.vm e.symm⟩
def SB (A : Nat → Prop) (U : State) (H : Heap) : Prop := vx_Zq Bundle.tN "UNASSIGNED_STACK" Bundle.steD A U H ∧ vx_Zq Bundle.tN "SUPPRESSED_SENTINEL" Bundle.listD A U H
theorem SB.go {A A1 : Nat → Prop} {s U : State} {H : Heap} {locs : List Loc} (h : SB A s s.heap) (hS : va_S A s.heap H locs) (hU : U.heap = H) (hv : s.vm.Alike U.vm) (hF : ∀ q, A1 q → A q) : SB A1 U U.heap := by
  rw [hU]
  exact ⟨(vx_Zq.moved hv (h.1.kept hS.2.1)).narrow hF, (vx_Zq.moved hv (h.2.kept hS.2.1)).narrow hF⟩
def PXE (D : va_G) (ws : va_W) (ty : List (ClassId × FieldType)) (sz : Nat) (U : State) : Prop := PX D ws ty sz U ∧ SXC U ∧ SXT U ∧ SB (va_A ws sz) U U.heap
theorem PXE_blind {av : List Value} {D : va_G} {ws : va_W} {ty : List (ClassId × FieldType)} {sz : Nat} : FrameBlind (va_Pc av (PXE D ws ty sz)) := fun a U g mk q => ⟨q.1, (PX_blind (av := av) (D := D) (ws := ws) (ty := ty) (sz := sz) a U g mk ⟨q.1, q.2.1⟩).2, SXC.vm (u := U) (U := U.calling g mk a) rfl q.2.2.1, SXT.vm (u := U) (U := U.calling g mk a) rfl q.2.2.2.1, SB.go (s := U) (U := U.calling g mk a) (H := U.heap) (locs := []) q.2.2.2.2 va_S.rf rfl (Vm.Alike.refl U.vm) (fun _ h => h)⟩
theorem PXE_at {A : Nat → Prop} {D : va_G} {ws wc : va_W} {ty tc : List (ClassId × FieldType)} {s : State} {H : Heap} {locs : List Loc} {As : List Value} (hN : NW s) (hC9 : SXC s) (hX9 : SXT s) (hB9 : SB A s s.heap) (hK : va_K D vwCl ty s) (hP : va_P D vwCl ws H) (hD : va_D A ws) (hS : va_S A s.heap H locs) (hA : ∀ q, s.heap.size ≤ q → A q) (isC isT : List Nat) (hC : isC.map (fun i => ws[i]?) = wc.map some) (hn : va_nd isC = true) (hTy : isT.filterMap (fun i => ty[i]?) = tc) :
    ∀ U : State, U.heap = H → s.WarmedH U.vm → va_Pc As (PXE D wc tc H.size) As.toArray U := fun U hU hW => ⟨rfl, (PX_at (As := As) hN hK hP hD isC isT hC hn hTy U hU hW).2, hC9.warm hW, hX9.warm hW, hB9.go hS hU hW.alike (va_free hD hS hA isC hC)⟩
/-- how a throw ends -/
theorem PXE_out {S' : Type} {X : String → S' → Prop} {w1 : S' → va_W} {D : va_G} {A : Nat → Prop} {s : State} {H : Heap} {locs : List Loc} {E : String} (u : S') (hw : X E u) (hP : va_P D vwCl (w1 u) H) (hD : va_D A (w1 u)) (hS : va_S A s.heap H locs) :
    ∀ t : State, s.vm.Alike t.vm → H.size ≤ t.heap.size → (∀ q : Nat, q < H.size → t.heap[q]? = H[q]?) → vx_X (fun _ => True) (fun E (u : S') t => X E u ∧ va_P D vwCl (w1 u) t.heap ∧ va_D A (w1 u)) A E s t := by
  intro t _ h1 h2
  refine ⟨u, trivial, ⟨hw, hP.kept (fun k q hk => h2 q.1 (vx_lt hP hk)), hD⟩, Nat.le_trans hS.1 h1, fun q hq hn => ?_⟩
  rw [h2 q (Nat.lt_of_lt_of_le hq hS.1)]
  exact hS.2.1 q hq hn
section PXEC
variable {p : Program} {l : Launch} {e : Env} {R : Room} {s : State} {m : MethodId} {args : Array Value} {below : List Frame} {meth : Method} {c : Code} {H : Heap} {locs : List Loc} {cells slots : Nat} {Q : State → Prop}
variable {y : MethodName} {bytes cc : ByteArray} {maxL nL mc ms n index : Nat} {ret : Option FieldType} {wsY : List Cond} {rm : Room} {Ts : List Cond} {own C host : String} {b : Addr} {As rest st0 : List Value} {pc : Nat} {ls : Array Slot}
variable {A : Nat → Prop} {D : va_G} {ws wc wr : va_W} {ty tc : List (ClassId × FieldType)} {fs : List Value} {ci : Nat} {cq : u_T × Nat}
/-- an instance call that returns an int, or throws -/
theorem pxVi {S' : Type} {post : Int32 → S' → Prop} {X : String → S' → Prop} {w1 : S' → va_W} (S : CallFix p m c cc nL s args Ts own) (hM : vx_Met l y wsY rm (va_Pc (.ref b :: As) (PXE D wc tc H.size)) (va_Qi post (fun u t => va_P D vwCl (w1 u) t.heap ∧ va_D (va_A wc H.size) (w1 u)) (va_A wc H.size)) (vx_X (fun _ => True) (fun E (u : S') t => X E u ∧ va_P D vwCl (w1 u) t.heap ∧ va_D (va_A wc H.size) (w1 u)) (va_A wc H.size)) mc ms (va_A wc H.size)) (cw : CallW R s args own C index y bytes maxL ret wsY rm mc ms n) (hN : NW s) (hC9 : SXC s) (hX9 : SXT s) (hB9 : SB A s s.heap) (hK : va_K D vwCl ty s) (hP : va_P D vwCl ws H) (hD : va_D A ws)
    (hS : va_S A s.heap H locs) (hA : ∀ q, s.heap.size ≤ q → A q) (isC isR isT : List Nat) (hx : pxS A ws wc wr ty tc isC isR isT) (q0 : Nat) (hc : vwCl[ci]? = some (C, cq)) (he : ws[q0]? = some (b, .inr (ci, fs))) (hst : st0 = As.reverse ++ .ref b :: rest) (hn : As.length = n) (hl : ls.size = nL) (hroom : (rest.map fun v => v.category).sum ≤ 8) (hcs : cells + mc ≤ R.cells ∧ slots + ms ≤ R.slots) (hdg : decode cc pc = .ok (.invokevirtual index, 3))
    (kx : ∀ (E : String) (ce : Cell) (q9 : Addr) (u : S') (H1 : Heap) (locs1 : List Loc), X E u → va_P D vwCl (wr ++ w1 u) H1 → va_D A (wr ++ w1 u) → va_S A s.heap H1 locs1 → H1[q9]? = some ce → ce.vm = .none → s.vm.findClass E = some ce.cls → vx_W p l e R s m args below meth c H1 locs1 (cells + mc) (slots + ms) Q (F0 m pc ls rest) q9)
    (kk : ∀ (r : Int32) (u : S') (H1 : Heap) (locs1 : List Loc), post r u → va_P D vwCl (wr ++ w1 u) H1 → va_D A (wr ++ w1 u) → va_S A s.heap H1 locs1 → W p l e R s m args below meth c H1 locs1 (cells + mc) (slots + ms) Q (F0 m (pc + 3) ls (.int r :: rest))) : W p l e R s m args below meth c H locs cells slots Q (F0 m pc ls st0) := by
  subst hst
  obtain ⟨hC, hnd, hT, hR, hnr, hdis⟩ := hx
  have hFc := va_free (wc := wc) hD hS hA isC hC
  refine vx_calli (vx_runV (As := As) (rest := rest) S hM cw ⟨PXE_blind, va_recv hK hP hc he, PXE_at hN hC9 hX9 hB9 hK hP hD hS hA isC isT hC hnd hT⟩ rfl hn hl rfl (lv_room (pc := pc) (ls := ls) (rest := As.reverse ++ .ref b :: rest) hroom) hdg hcs) hS (fun q _ h => hFc q h) hFc (fun q _ h => hFc q h) (fun E ce q9 u t H1 locs1 ht hvm _ hB hz1 hk1 hS h7 h8 h9 => ?_) (fun r u t H1 locs1 ht hvm hw hB hz1 hk1 hS => ?_)
  · obtain ⟨hX, hP1, hD1⟩ := hB
    rw [ht] at hP1
    obtain ⟨hP2, hD2⟩ := va_join hP hD isC isR hC hR hnr hdis hk1 hFc hP1 hD1
    exact kx E ce q9 u H1 locs1 hX hP2 hD2 hS h7 h8 h9
  · obtain ⟨hP1, hD1⟩ := hB
    rw [ht] at hP1
    obtain ⟨hP2, hD2⟩ := va_join hP hD isC isR hC hR hnr hdis hk1 hFc hP1 hD1
    exact kk r u H1 locs1 hw hP2 hD2 hS
/-- an instance call that returns nothing, or throws -/
theorem pxVv {S' : Type} {post : S' → Prop} {X : String → S' → Prop} {w1 : S' → va_W} (S : CallFix p m c cc nL s args Ts own) (hM : vx_Met l y wsY rm (va_Pc (.ref b :: As) (PXE D wc tc H.size)) (va_Qv post (fun u t => va_P D vwCl (w1 u) t.heap ∧ va_D (va_A wc H.size) (w1 u)) (va_A wc H.size)) (vx_X (fun _ => True) (fun E (u : S') t => X E u ∧ va_P D vwCl (w1 u) t.heap ∧ va_D (va_A wc H.size) (w1 u)) (va_A wc H.size)) mc ms (va_A wc H.size)) (cw : CallW R s args own C index y bytes maxL ret wsY rm mc ms n) (hN : NW s) (hC9 : SXC s) (hX9 : SXT s) (hB9 : SB A s s.heap) (hK : va_K D vwCl ty s) (hP : va_P D vwCl ws H) (hD : va_D A ws)
    (hS : va_S A s.heap H locs) (hA : ∀ q, s.heap.size ≤ q → A q) (isC isR isT : List Nat) (hx : pxS A ws wc wr ty tc isC isR isT) (q0 : Nat) (hc : vwCl[ci]? = some (C, cq)) (he : ws[q0]? = some (b, .inr (ci, fs))) (hst : st0 = As.reverse ++ .ref b :: rest) (hn : As.length = n) (hl : ls.size = nL) (hroom : (rest.map fun v => v.category).sum ≤ 8) (hcs : cells + mc ≤ R.cells ∧ slots + ms ≤ R.slots) (hdg : decode cc pc = .ok (.invokevirtual index, 3))
    (kx : ∀ (E : String) (ce : Cell) (q9 : Addr) (u : S') (H1 : Heap) (locs1 : List Loc), X E u → va_P D vwCl (wr ++ w1 u) H1 → va_D A (wr ++ w1 u) → va_S A s.heap H1 locs1 → H1[q9]? = some ce → ce.vm = .none → s.vm.findClass E = some ce.cls → vx_W p l e R s m args below meth c H1 locs1 (cells + mc) (slots + ms) Q (F0 m pc ls rest) q9)
    (kk : ∀ (u : S') (H1 : Heap) (locs1 : List Loc), post u → va_P D vwCl (wr ++ w1 u) H1 → va_D A (wr ++ w1 u) → va_S A s.heap H1 locs1 → W p l e R s m args below meth c H1 locs1 (cells + mc) (slots + ms) Q (F0 m (pc + 3) ls rest)) : W p l e R s m args below meth c H locs cells slots Q (F0 m pc ls st0) := by
  subst hst
  obtain ⟨hC, hnd, hT, hR, hnr, hdis⟩ := hx
  have hFc := va_free (wc := wc) hD hS hA isC hC
  refine vx_callv (vx_runV (As := As) (rest := rest) S hM cw ⟨PXE_blind, va_recv hK hP hc he, PXE_at hN hC9 hX9 hB9 hK hP hD hS hA isC isT hC hnd hT⟩ rfl hn hl rfl (lv_room (pc := pc) (ls := ls) (rest := As.reverse ++ .ref b :: rest) hroom) hdg hcs) hS (fun q _ h => hFc q h) hFc (fun q _ h => hFc q h) (fun E ce q9 u t H1 locs1 ht hvm _ hB hz1 hk1 hS h7 h8 h9 => ?_) (fun u t H1 locs1 ht hvm hw hB hz1 hk1 hS => ?_)
  · obtain ⟨hX, hP1, hD1⟩ := hB
    rw [ht] at hP1
    obtain ⟨hP2, hD2⟩ := va_join hP hD isC isR hC hR hnr hdis hk1 hFc hP1 hD1
    exact kx E ce q9 u H1 locs1 hX hP2 hD2 hS h7 h8 h9
  · obtain ⟨hP1, hD1⟩ := hB
    rw [ht] at hP1
    obtain ⟨hP2, hD2⟩ := va_join hP hD isC isR hC hR hnr hdis hk1 hFc hP1 hD1
    exact kk u H1 locs1 hw hP2 hD2 hS
end PXEC
theorem og_I : ∀ w ∈ Cond.classLink RX6 93 jI :: Cond.initialized jI :: vx_atS RX6 97 jI ["java/lang/RuntimeException", "java/lang/Exception"], vx_ot w = true := by decide +kernel
theorem og_S : ∀ w ∈ Cond.classLink RX6 102 jS :: Cond.initialized jS :: vx_atS RX6 106 jS ["java/lang/RuntimeException", "java/lang/Exception"], vx_ot w = true := by decide +kernel
theorem og_A : ∀ w ∈ Cond.classLink RX6 70 jA :: Cond.initialized jA :: vx_atS RX6 74 jA ["java/lang/RuntimeException", "java/lang/Exception"], vx_ot w = true := by decide +kernel
theorem oc_I : ∀ w ∈ (vx_atS RX6 97 jI ["java/lang/RuntimeException", "java/lang/Exception"]).filter (fun w => !goodWord w), w ∈ [Cond.castable jI jI, Cond.declares (Bundle.initS "java/lang/RuntimeException"), Cond.declares (Bundle.initS "java/lang/Exception"), Cond.declares (Bundle.initS "java/lang/Throwable")] := by decide +kernel
theorem oc_S : ∀ w ∈ (vx_atS RX6 106 jS ["java/lang/RuntimeException", "java/lang/Exception"]).filter (fun w => !goodWord w), w ∈ [Cond.castable jS jS, Cond.declares (Bundle.initS "java/lang/RuntimeException"), Cond.declares (Bundle.initS "java/lang/Exception"), Cond.declares (Bundle.initS "java/lang/Throwable")] := by decide +kernel
theorem oc_A : ∀ w ∈ (vx_atS RX6 74 jA ["java/lang/RuntimeException", "java/lang/Exception"]).filter (fun w => !goodWord w), w ∈ [Cond.castable jA jA, Cond.declares (Bundle.initS "java/lang/RuntimeException"), Cond.declares (Bundle.initS "java/lang/Exception"), Cond.declares (Bundle.initS "java/lang/Throwable")] := by decide +kernel
