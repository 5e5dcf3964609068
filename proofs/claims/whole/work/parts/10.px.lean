/-! WHAT IS GIVEN AT EVERY ENTRY, and calls in one row -/
/-- the links to private members of nest mates -/
def NW (U : State) : Prop := va_Nw (.methodLinkNest RX5 43 yX6_isCell RX6) U ∧ va_Nw (.methodLinkNest RX1 29 yX6_isCell RX6) U ∧ va_Nw (.methodLinkNest RX3 53 yX6_isCell RX6) U ∧ va_Nw (.methodLinkNest RX3 63 yX6_goalOf RX6) U ∧ va_Nw (.methodLinkNest RX2 68 yX6_goalOf RX6) U ∧ va_Nw (.methodLinkNest RX4 39 yX6_isCamp RX6) U ∧ va_Nw (.methodLinkNest RX4 58 yX6_goalOf RX6) U ∧ va_Nw (.methodLinkNest RX6 52 yX0_init RX6) U
theorem NW_warm {s U : State} (hW : s.WarmedH U.vm) (h : NW s) : NW U := ⟨va_Nw.warmM hW h.1, va_Nw.warmM hW h.2.1, va_Nw.warmM hW h.2.2.1, va_Nw.warmM hW h.2.2.2.1, va_Nw.warmM hW h.2.2.2.2.1, va_Nw.warmM hW h.2.2.2.2.2.1, va_Nw.warmM hW h.2.2.2.2.2.2.1, va_Nw.warmM hW h.2.2.2.2.2.2.2⟩
theorem NW_vm {u U : State} (e : u.vm = U.vm) (h : NW u) : NW U := ⟨va_Nw.same rfl e h.1, va_Nw.same rfl e h.2.1, va_Nw.same rfl e h.2.2.1, va_Nw.same rfl e h.2.2.2.1, va_Nw.same rfl e h.2.2.2.2.1, va_Nw.same rfl e h.2.2.2.2.2.1, va_Nw.same rfl e h.2.2.2.2.2.2.1, va_Nw.same rfl e h.2.2.2.2.2.2.2⟩
def PX (D : va_G) (ws : va_W) (ty : List (ClassId × FieldType)) (sz : Nat) (U : State) : Prop := U.heap.size = sz ∧ va_P D vwCl ws U.heap ∧ va_K D vwCl ty U ∧ va_D (fun _ => True) ws ∧ NW U
theorem PX_blind {av : List Value} {D : va_G} {ws : va_W} {ty : List (ClassId × FieldType)} {sz : Nat} : FrameBlind (va_Pc av (PX D ws ty sz)) := fun a U g mk q => ⟨q.1, q.2.1, q.2.2.1, va_K.moved (u := U) (U := U.calling g mk a) (Vm.Alike.refl U.vm) q.2.2.2.1, q.2.2.2.2.1, NW_vm (u := U) (U := U.calling g mk a) rfl q.2.2.2.2.2⟩
theorem PX_at {A : Nat → Prop} {D : va_G} {ws wc : va_W} {ty tc : List (ClassId × FieldType)} {s : State} {H : Heap} {As : List Value} (hN : NW s) (hK : va_K D vwCl ty s) (hP : va_P D vwCl ws H) (hD : va_D A ws) (isC isT : List Nat) (hC : isC.map (fun i => ws[i]?) = wc.map some) (hn : va_nd isC = true) (hT : isT.filterMap (fun i => ty[i]?) = tc) :
    ∀ U : State, U.heap = H → s.WarmedH U.vm → va_Pc As (PX D wc tc H.size) As.toArray U := by
  intro U hU hW
  refine ⟨rfl, by rw [hU], ?_, va_K.moved hW.alike (hK.sub isT hT), (hD.sub isC hn hC).weaken (fun _ _ _ _ => trivial), NW_warm hW hN⟩
  rw [hU]
  refine hP.sub isC ?_
  have : isC.filterMap (fun i => ws[i]?) = (isC.map (fun i => ws[i]?)).filterMap id := by
    rw [List.filterMap_map]; rfl
  rw [this, hC, List.filterMap_map]
  show List.filterMap some wc = wc
  exact List.filterMap_some ..
section PXC
variable {p : Program} {l : Launch} {e : Env} {R : Room} {s : State} {m : MethodId} {args : Array Value} {below : List Frame} {meth : Method} {c : Code} {H : Heap} {locs : List Loc} {cells slots : Nat} {Q : State → Prop}
variable {y : MethodName} {bytes cc : ByteArray} {maxL nL mc ms n index : Nat} {ret : Option FieldType} {wsY : List Cond} {rm : Room} {Ts : List Cond} {own C host : String} {b : Addr} {As rest st0 : List Value} {pc : Nat} {ls : Array Slot}
variable {A : Nat → Prop} {D : va_G} {ws wc wr : va_W} {ty tc : List (ClassId × FieldType)} {fs : List Value} {ci : Nat} {cq : u_T × Nat}
/-- what a call site says of the worlds -/
def pxS (A : Nat → Prop) (ws wc wr : va_W) (ty tc : List (ClassId × FieldType)) (isC isR isT : List Nat) : Prop := isC.map (fun i => ws[i]?) = wc.map some ∧ va_nd isC = true ∧ isT.filterMap (fun i => ty[i]?) = tc ∧ isR.map (fun i => ws[i]?) = wr.map some ∧ va_nd isR = true ∧ ∀ i ∈ isR, i ∉ isC
/-- an instance call that only reads, int -/
theorem pcV {post : Int32 → Prop} (S : CallFix p m c cc nL s args Ts own) (hM : Met l y wsY rm (va_Pc (.ref b :: As) (PX D wc tc H.size)) (vp_Si post) 0 0 (fun _ => False)) (cw : CallW R s args own C index y bytes maxL ret wsY rm 0 0 n) (hN : NW s) (hK : va_K D vwCl ty s) (hP : va_P D vwCl ws H) (hD : va_D A ws)
    (isC isT : List Nat) (hC : isC.map (fun i => ws[i]?) = wc.map some) (hnd : va_nd isC = true) (hT : isT.filterMap (fun i => ty[i]?) = tc) (q0 : Nat) (hc : vwCl[ci]? = some (C, cq)) (he : ws[q0]? = some (b, .inr (ci, fs))) (hst : st0 = As.reverse ++ .ref b :: rest) (hn : As.length = n) (hl : ls.size = nL) (hroom : (rest.map fun v => v.category).sum ≤ 8) (hcs : cells ≤ R.cells ∧ slots ≤ R.slots) (hdg : decode cc pc = .ok (.invokevirtual index, 3))
    (kk : ∀ r : Int32, post r → W p l e R s m args below meth c H locs cells slots Q (F0 m (pc + 3) ls (.int r :: rest))) : W p l e R s m args below meth c H locs cells slots Q (F0 m pc ls st0) := by
  subst hst
  exact vp_callSi (va_runV (As := As) (rest := rest) S hM cw ⟨PX_blind, va_recv hK hP hc he, PX_at hN hK hP hD isC isT hC hnd hT⟩ rfl hn hl rfl (lv_room (pc := pc) (ls := ls) (rest := As.reverse ++ .ref b :: rest) hroom) hdg hcs).run kk
/-- a static call that only reads, int -/
theorem pcS {post : Int32 → Prop} (S : CallFix p m c cc nL s args Ts own) (hM : Met l y wsY rm (va_Pc As (PX D wc tc H.size)) (vp_Si post) 0 0 (fun _ => False)) (cw : CallB R s args own index y bytes maxL ret wsY rm 0 0 n ∧ (Cond.static y).before args s = true) (hN : NW s) (hK : va_K D vwCl ty s) (hP : va_P D vwCl ws H) (hD : va_D A ws)
    (isC isT : List Nat) (hC : isC.map (fun i => ws[i]?) = wc.map some) (hnd : va_nd isC = true) (hT : isT.filterMap (fun i => ty[i]?) = tc) (hst : st0 = As.reverse ++ rest) (hn : As.length = n) (hl : ls.size = nL) (hroom : (rest.map fun v => v.category).sum ≤ 8) (hcs : cells ≤ R.cells ∧ slots ≤ R.slots) (hdg : decode cc pc = .ok (.invokestatic index, 3))
    (kk : ∀ r : Int32, post r → W p l e R s m args below meth c H locs cells slots Q (F0 m (pc + 3) ls (.int r :: rest))) : W p l e R s m args below meth c H locs cells slots Q (F0 m pc ls st0) := by
  subst hst
  exact vp_callSi (va_runS (As := As) (rest := rest) S hM cw ⟨PX_blind, PX_at hN hK hP hD isC isT hC hnd hT⟩ rfl hn hl rfl (lv_room (pc := pc) (ls := ls) (rest := As.reverse ++ rest) hroom) hdg hcs).run kk
/-- a static call of a nest mate's private method, that only reads, int -/
theorem pcSN {post : Int32 → Prop} (S : CallFix p m c cc nL s args Ts own) (hM : Met l y wsY rm (va_Pc As (PX D wc tc H.size)) (vp_Si post) 0 0 (fun _ => False)) (cw : va_CN R s args own index y host bytes maxL ret wsY rm 0 0 n ∧ (Cond.static y).before args s = true ∧ True) (hN : NW s) (hK : va_K D vwCl ty s) (hP : va_P D vwCl ws H) (hD : va_D A ws)
    (isC isT : List Nat) (hC : isC.map (fun i => ws[i]?) = wc.map some) (hnd : va_nd isC = true) (hT : isT.filterMap (fun i => ty[i]?) = tc) (hst : st0 = As.reverse ++ rest) (hn : As.length = n) (hl : ls.size = nL) (hroom : (rest.map fun v => v.category).sum ≤ 8) (hcs : cells ≤ R.cells ∧ slots ≤ R.slots) (hdg : decode cc pc = .ok (.invokestatic index, 3))
    (kk : ∀ r : Int32, post r → W p l e R s m args below meth c H locs cells slots Q (F0 m (pc + 3) ls (.int r :: rest))) : W p l e R s m args below meth c H locs cells slots Q (F0 m pc ls st0) := by
  subst hst
  exact vp_callSi (va_runSN (As := As) (rest := rest) S hM cw ⟨PX_blind, PX_at hN hK hP hD isC isT hC hnd hT⟩ rfl hn hl rfl (lv_room (pc := pc) (ls := ls) (rest := As.reverse ++ rest) hroom) hdg hcs).run kk
/-- an instance call that writes, int -/
theorem pcVi {S' : Type} {post : Int32 → S' → Prop} {w1 : S' → va_W} (S : CallFix p m c cc nL s args Ts own) (hM : Met l y wsY rm (va_Pc (.ref b :: As) (PX D wc tc H.size)) (va_Qi post (fun u t => va_P D vwCl (w1 u) t.heap ∧ va_D (va_A wc H.size) (w1 u)) (va_A wc H.size)) mc ms (va_A wc H.size)) (cw : CallW R s args own C index y bytes maxL ret wsY rm mc ms n) (hN : NW s) (hK : va_K D vwCl ty s) (hP : va_P D vwCl ws H) (hD : va_D A ws)
    (hS : va_S A s.heap H locs) (hA : ∀ q, s.heap.size ≤ q → A q) (isC isR isT : List Nat) (hx : pxS A ws wc wr ty tc isC isR isT) (q0 : Nat) (hc : vwCl[ci]? = some (C, cq)) (he : ws[q0]? = some (b, .inr (ci, fs))) (hst : st0 = As.reverse ++ .ref b :: rest) (hn : As.length = n) (hl : ls.size = nL) (hroom : (rest.map fun v => v.category).sum ≤ 8) (hcs : cells + mc ≤ R.cells ∧ slots + ms ≤ R.slots) (hdg : decode cc pc = .ok (.invokevirtual index, 3))
    (kk : ∀ (r : Int32) (u : S') (H1 : Heap) (locs1 : List Loc), post r u → va_P D vwCl (wr ++ w1 u) H1 → va_D A (wr ++ w1 u) → va_S A s.heap H1 locs1 → W p l e R s m args below meth c H1 locs1 (cells + mc) (slots + ms) Q (F0 m (pc + 3) ls (.int r :: rest))) : W p l e R s m args below meth c H locs cells slots Q (F0 m pc ls st0) := by
  subst hst
  obtain ⟨hC, hnd, hT, hR, hnr, hdis⟩ := hx
  have hFc := va_free (wc := wc) hD hS hA isC hC
  refine va_calli (va_runV (As := As) (rest := rest) S hM cw ⟨PX_blind, va_recv hK hP hc he, PX_at hN hK hP hD isC isT hC hnd hT⟩ rfl hn hl rfl (lv_room (pc := pc) (ls := ls) (rest := As.reverse ++ .ref b :: rest) hroom) hdg hcs) hS (fun q _ h => hFc q h) hFc (fun r u t H1 locs1 ht hvm hw hB hz1 hk1 hS => ?_)
  obtain ⟨hP1, hD1⟩ := hB
  rw [ht] at hP1
  obtain ⟨hP2, hD2⟩ := va_join hP hD isC isR hC hR hnr hdis hk1 hFc hP1 hD1
  exact kk r u H1 locs1 hw hP2 hD2 hS
/-- an instance call that writes, void -/
theorem pcVv {S' : Type} {post : S' → Prop} {w1 : S' → va_W} (S : CallFix p m c cc nL s args Ts own) (hM : Met l y wsY rm (va_Pc (.ref b :: As) (PX D wc tc H.size)) (va_Qv post (fun u t => va_P D vwCl (w1 u) t.heap ∧ va_D (va_A wc H.size) (w1 u)) (va_A wc H.size)) mc ms (va_A wc H.size)) (cw : CallW R s args own C index y bytes maxL ret wsY rm mc ms n) (hN : NW s) (hK : va_K D vwCl ty s) (hP : va_P D vwCl ws H) (hD : va_D A ws)
    (hS : va_S A s.heap H locs) (hA : ∀ q, s.heap.size ≤ q → A q) (isC isR isT : List Nat) (hx : pxS A ws wc wr ty tc isC isR isT) (q0 : Nat) (hc : vwCl[ci]? = some (C, cq)) (he : ws[q0]? = some (b, .inr (ci, fs))) (hst : st0 = As.reverse ++ .ref b :: rest) (hn : As.length = n) (hl : ls.size = nL) (hroom : (rest.map fun v => v.category).sum ≤ 8) (hcs : cells + mc ≤ R.cells ∧ slots + ms ≤ R.slots) (hdg : decode cc pc = .ok (.invokevirtual index, 3))
    (kk : ∀ (u : S') (H1 : Heap) (locs1 : List Loc), post u → va_P D vwCl (wr ++ w1 u) H1 → va_D A (wr ++ w1 u) → va_S A s.heap H1 locs1 → W p l e R s m args below meth c H1 locs1 (cells + mc) (slots + ms) Q (F0 m (pc + 3) ls rest)) : W p l e R s m args below meth c H locs cells slots Q (F0 m pc ls st0) := by
  subst hst
  obtain ⟨hC, hnd, hT, hR, hnr, hdis⟩ := hx
  have hFc := va_free (wc := wc) hD hS hA isC hC
  refine va_callv (va_runV (As := As) (rest := rest) S hM cw ⟨PX_blind, va_recv hK hP hc he, PX_at hN hK hP hD isC isT hC hnd hT⟩ rfl hn hl rfl (lv_room (pc := pc) (ls := ls) (rest := As.reverse ++ .ref b :: rest) hroom) hdg hcs) hS (fun q _ h => hFc q h) hFc (fun u t H1 locs1 ht hvm hw hB hz1 hk1 hS => ?_)
  obtain ⟨hP1, hD1⟩ := hB
  rw [ht] at hP1
  obtain ⟨hP2, hD2⟩ := va_join hP hD isC isR hC hR hnr hdis hk1 hFc hP1 hD1
  exact kk u H1 locs1 hw hP2 hD2 hS
end PXC
def nb (r : Int32) : Prop := narrow .boolean (.int r) = .int r
theorem nb_0 : nb 0 := by unfold nb; first | rfl | decide
theorem nb_1 : nb 1 := by unfold nb; first | rfl | decide
