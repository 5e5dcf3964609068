/-! the law's calls in one row, and its switch -/
section LPX
variable {p : Program} {l : Launch} {e : Env} {R : Room} {s : State} {m : MethodId} {args : Array Value} {below : List Frame} {meth : Method} {c : Code} {H : Heap} {locs : List Loc} {cells slots : Nat} {Q : State → Prop}
variable {y : MethodName} {bytes cc : ByteArray} {maxL nL mc ms n index : Nat} {ret : Option FieldType} {wsY : List Cond} {rm : Room} {Ts : List Cond} {own C host : String} {b : Addr} {As rest st0 : List Value} {pc : Nat} {ls : Array Slot} {hh : List (Nat × Nat × Nat × Nat)}
variable {A : Nat → Prop} {D : va_G} {ws wc wr : va_W} {ty tc : List (ClassId × FieldType)} {fs : List Value} {ci : Nat} {cq : u_T × Nat} {t1 t2 t3 t4 : Nat}
theorem pcSWi {S' : Type} {post : Int32 → S' → Prop} {w1 : S' → va_W} (S : CallFix p m c cc nL s args Ts own) (hM : Met l y wsY rm (va_Pc As (PXE D wc tc H.size)) (va_Qi post (fun u t => va_P D vwCl (w1 u) t.heap ∧ va_D (va_A wc H.size) (w1 u)) (va_A wc H.size)) mc ms (va_A wc H.size)) (cw : vx_CSW R s args own index y bytes maxL ret hh wsY rm mc ms n) (hN : NW s) (hC9 : SXC s) (hX9 : SXT s) (hB9 : SB A s s.heap) (hK : va_K D vwCl ty s) (hP : va_P D vwCl ws H) (hD : va_D A ws)
    (hS : va_S A s.heap H locs) (hA : ∀ q, s.heap.size ≤ q → A q) (isC isR isT : List Nat) (hx : pxS A ws wc wr ty tc isC isR isT) (hst : st0 = As.reverse ++ rest) (hn : As.length = n) (hl : ls.size = nL) (hroom : (rest.map fun v => v.category).sum ≤ 8) (hcs : cells + mc ≤ R.cells ∧ slots + ms ≤ R.slots) (hdg : decode cc pc = .ok (.invokestatic index, 3))
    (kk : ∀ (r : Int32) (u : S') (H1 : Heap) (locs1 : List Loc), post r u → va_P D vwCl (wr ++ w1 u) H1 → va_D A (wr ++ w1 u) → va_S A s.heap H1 locs1 → W p l e R s m args below meth c H1 locs1 (cells + mc) (slots + ms) Q (F0 m (pc + 3) ls (.int r :: rest))) : W p l e R s m args below meth c H locs cells slots Q (F0 m pc ls st0) := by
  subst hst
  obtain ⟨hC, hnd, hT, hR, hnr, hdis⟩ := hx
  have hFc := va_free (wc := wc) hD hS hA isC hC
  refine va_calli (vx_runSW (As := As) (rest := rest) S hM cw ⟨PXE_blind, PXE_at hN hC9 hX9 hB9 hK hP hD hS hA isC isT hC hnd hT⟩ rfl hn hl rfl (lv_room (pc := pc) (ls := ls) (rest := As.reverse ++ rest) hroom) hdg hcs) hS (fun q _ h => hFc q h) hFc (fun r u t H1 locs1 ht hvm hw hB hz1 hk1 hS => ?_)
  obtain ⟨hP1, hD1⟩ := hB
  rw [ht] at hP1
  obtain ⟨hP2, hD2⟩ := va_join hP hD isC isR hC hR hnr hdis hk1 hFc hP1 hD1
  exact kk r u H1 locs1 hw hP2 hD2 hS
theorem pcVT {post : Int32 → Prop} (S : CallFix p m c cc nL s args Ts own) (hM : Met l y wsY rm (va_Pc (.ref b :: As) (PXT D wc tc H.size t1 t2 t3 t4)) (vp_Si post) 0 0 (fun _ => False)) (cw : CallW R s args own C index y bytes maxL ret wsY rm 0 0 n) (hN : NW s) (hK : va_K D vwCl ty s) (hP : va_P D vwCl ws H) (hD : va_D A ws) (hS : va_S A s.heap H locs) (hA : ∀ q, s.heap.size ≤ q → A q) (hT : ST t1 t2 t3 t4 A s s.heap)
    (isC isT : List Nat) (hC : isC.map (fun i => ws[i]?) = wc.map some) (hnd : va_nd isC = true) (hTy : isT.filterMap (fun i => ty[i]?) = tc) (q0 : Nat) (hc : vwCl[ci]? = some (C, cq)) (he : ws[q0]? = some (b, .inr (ci, fs))) (hst : st0 = As.reverse ++ .ref b :: rest) (hn : As.length = n) (hl : ls.size = nL) (hroom : (rest.map fun v => v.category).sum ≤ 8) (hcs : cells ≤ R.cells ∧ slots ≤ R.slots) (hdg : decode cc pc = .ok (.invokevirtual index, 3))
    (kk : ∀ r : Int32, post r → W p l e R s m args below meth c H locs cells slots Q (F0 m (pc + 3) ls (.int r :: rest))) : W p l e R s m args below meth c H locs cells slots Q (F0 m pc ls st0) := by
  subst hst
  exact vp_callSi (va_runV (As := As) (rest := rest) S hM cw ⟨PXT_blind, va_recv hK hP hc he, PXT_at hN hK hP hD hS hA hT isC isT hC hnd hTy⟩ rfl hn hl rfl (lv_room (pc := pc) (ls := ls) (rest := As.reverse ++ .ref b :: rest) hroom) hdg hcs).run kk
end LPX
theorem sw22 {y : Int32} (q0 : ¬ y = 0) (q1 : ¬ y = 1) (q2 : ¬ y = 2) (q3 : ¬ y = 3) (q4 : ¬ y = 4) (q5 : ¬ y = 5) (q6 : ¬ y = 6) (q7 : ¬ y = 7) (q8 : ¬ y = 8) (q9 : ¬ y = 9) (q10 : ¬ y = 10) (q11 : ¬ y = 11) (q12 : ¬ y = 12) (q13 : ¬ y = 13) (q14 : ¬ y = 14) (q15 : ¬ y = 15) (q16 : ¬ y = 16) (q17 : ¬ y = 17) (q18 : ¬ y = 18) (q19 : ¬ y = 19) (q20 : ¬ y = 20) (q21 : ¬ y = 21) : y.toInt < 0 ∨ 21 < y.toInt := by
  have h : ∀ k : Int32, ¬ y = k → y.toInt ≠ k.toInt := fun k hk e => hk (Int32.toInt_inj.mp e)
  have h0 := h _ q0; have h1 := h _ q1; have h2 := h _ q2; have h3 := h _ q3; have h4 := h _ q4; have h5 := h _ q5; have h6 := h _ q6; have h7 := h _ q7; have h8 := h _ q8; have h9 := h _ q9; have h10 := h _ q10; have h11 := h _ q11; have h12 := h _ q12; have h13 := h _ q13; have h14 := h _ q14; have h15 := h _ q15; have h16 := h _ q16; have h17 := h _ q17; have h18 := h _ q18; have h19 := h _ q19; have h20 := h _ q20; have h21 := h _ q21
  have e : ∀ n : Nat, n < 22 → (nI n).toInt = (n : Int) := fun n hn => nI_toInt (by omega)
  have e0 : (0 : Int32).toInt = 0 := e 0 (by omega); have e1 : (1 : Int32).toInt = 1 := e 1 (by omega); have e2 : (2 : Int32).toInt = 2 := e 2 (by omega); have e3 : (3 : Int32).toInt = 3 := e 3 (by omega); have e4 : (4 : Int32).toInt = 4 := e 4 (by omega); have e5 : (5 : Int32).toInt = 5 := e 5 (by omega); have e6 : (6 : Int32).toInt = 6 := e 6 (by omega); have e7 : (7 : Int32).toInt = 7 := e 7 (by omega); have e8 : (8 : Int32).toInt = 8 := e 8 (by omega); have e9 : (9 : Int32).toInt = 9 := e 9 (by omega); have e10 : (10 : Int32).toInt = 10 := e 10 (by omega); have e11 : (11 : Int32).toInt = 11 := e 11 (by omega); have e12 : (12 : Int32).toInt = 12 := e 12 (by omega); have e13 : (13 : Int32).toInt = 13 := e 13 (by omega); have e14 : (14 : Int32).toInt = 14 := e 14 (by omega); have e15 : (15 : Int32).toInt = 15 := e 15 (by omega); have e16 : (16 : Int32).toInt = 16 := e 16 (by omega); have e17 : (17 : Int32).toInt = 17 := e 17 (by omega); have e18 : (18 : Int32).toInt = 18 := e 18 (by omega); have e19 : (19 : Int32).toInt = 19 := e 19 (by omega); have e20 : (20 : Int32).toInt = 20 := e 20 (by omega); have e21 : (21 : Int32).toInt = 21 := e 21 (by omega)
  omega
/-! constructors in one row: what comes back is named by u, its addresses among it -/
section CPX
variable {p : Program} {l : Launch} {e : Env} {R : Room} {s : State} {m : MethodId} {args : Array Value} {below : List Frame} {meth : Method} {c : Code} {H : Heap} {locs : List Loc} {cells slots : Nat} {Q : State → Prop}
variable {y : MethodName} {bytes cc : ByteArray} {maxL nL mc ms n index : Nat} {ret : Option FieldType} {wsY : List Cond} {rm : Room} {Ts : List Cond} {own C host : String} {b : Addr} {As rest st0 : List Value} {pc : Nat} {ls : Array Slot}
variable {A : Nat → Prop} {D : va_G} {ws wc wr : va_W} {ty tc : List (ClassId × FieldType)} {fs : List Value} {ci : Nat} {cq : u_T × Nat} {t1 t2 t3 t4 : Nat}
theorem pcI {S' : Type} {post : S' → Prop} {w1 : S' → va_W} {k1 : S' → List (ClassId × FieldType)} (S : CallFix p m c cc nL s args Ts own) (hM : Met l y wsY rm (va_Pc (.ref b :: As) (PX D wc tc H.size)) (va_Qv post (fun u t => va_P D vwCl (w1 u) t.heap ∧ va_K D vwCl (k1 u) t ∧ va_D (va_A wc H.size) (w1 u)) (va_A wc H.size)) mc ms (va_A wc H.size)) (cw : CallB R s args own index y bytes maxL none wsY rm mc ms n ∧ y.name = "<init>" ∧ (Cond.instanceMethod y).before args s = true) (hN : NW s) (hK : va_K D vwCl ty s) (hP : va_P D vwCl ws H) (hD : va_D A ws)
    (hS : va_S A s.heap H locs) (hA : ∀ q, s.heap.size ≤ q → A q) (isC isR isT : List Nat) (hx : pxS A ws wc wr ty tc isC isR isT) (hst : st0 = As.reverse ++ .ref b :: rest) (hn : As.length = n) (hl : ls.size = nL) (hroom : (rest.map fun v => v.category).sum ≤ 8) (hcs : cells + mc ≤ R.cells ∧ slots + ms ≤ R.slots) (hdg : decode cc pc = .ok (.invokespecial index, 3))
    (kk : ∀ (u : S') (H1 : Heap) (locs1 : List Loc), post u → va_K D vwCl (ty ++ k1 u) s → va_P D vwCl (wr ++ w1 u) H1 → va_D A (wr ++ w1 u) → va_S A s.heap H1 locs1 → W p l e R s m args below meth c H1 locs1 (cells + mc) (slots + ms) Q (F0 m (pc + 3) ls rest)) : W p l e R s m args below meth c H locs cells slots Q (F0 m pc ls st0) := by
  subst hst
  obtain ⟨hC, hnd, hT, hR, hnr, hdis⟩ := hx
  have hFc := va_free (wc := wc) hD hS hA isC hC
  refine va_callv (va_runI (As := As) (rest := rest) S hM cw ⟨PX_blind, PX_at hN hK hP hD isC isT hC hnd hT⟩ rfl hn hl rfl (lv_room (pc := pc) (ls := ls) (rest := As.reverse ++ .ref b :: rest) hroom) hdg hcs) hS (fun q _ h => hFc q h) hFc (fun u t H1 locs1 ht hvm hw hB hz1 hk1 hS => ?_)
  obtain ⟨hP1, hK1, hD1⟩ := hB
  rw [ht] at hP1
  obtain ⟨hP2, hD2⟩ := va_join hP hD isC isR hC hR hnr hdis hk1 hFc hP1 hD1
  exact kk u H1 locs1 hw (hK.app (va_K.moved hvm.symm hK1)) hP2 hD2 hS
theorem pcIT {S' : Type} {post : S' → Prop} {w1 : S' → va_W} {k1 : S' → List (ClassId × FieldType)} (S : CallFix p m c cc nL s args Ts own) (hM : Met l y wsY rm (va_Pc (.ref b :: As) (PXT D wc tc H.size t1 t2 t3 t4)) (va_Qv post (fun u t => va_P D vwCl (w1 u) t.heap ∧ va_K D vwCl (k1 u) t ∧ va_D (va_A wc H.size) (w1 u)) (va_A wc H.size)) mc ms (va_A wc H.size)) (cw : CallB R s args own index y bytes maxL none wsY rm mc ms n ∧ y.name = "<init>" ∧ (Cond.instanceMethod y).before args s = true) (hN : NW s) (hT9 : ST t1 t2 t3 t4 A s s.heap) (hK : va_K D vwCl ty s) (hP : va_P D vwCl ws H) (hD : va_D A ws)
    (hS : va_S A s.heap H locs) (hA : ∀ q, s.heap.size ≤ q → A q) (isC isR isT : List Nat) (hx : pxS A ws wc wr ty tc isC isR isT) (hst : st0 = As.reverse ++ .ref b :: rest) (hn : As.length = n) (hl : ls.size = nL) (hroom : (rest.map fun v => v.category).sum ≤ 8) (hcs : cells + mc ≤ R.cells ∧ slots + ms ≤ R.slots) (hdg : decode cc pc = .ok (.invokespecial index, 3))
    (kk : ∀ (u : S') (H1 : Heap) (locs1 : List Loc), post u → va_K D vwCl (ty ++ k1 u) s → va_P D vwCl (wr ++ w1 u) H1 → va_D A (wr ++ w1 u) → va_S A s.heap H1 locs1 → W p l e R s m args below meth c H1 locs1 (cells + mc) (slots + ms) Q (F0 m (pc + 3) ls rest)) : W p l e R s m args below meth c H locs cells slots Q (F0 m pc ls st0) := by
  subst hst
  obtain ⟨hC, hnd, hT, hR, hnr, hdis⟩ := hx
  have hFc := va_free (wc := wc) hD hS hA isC hC
  refine va_callv (va_runI (As := As) (rest := rest) S hM cw ⟨PXT_blind, PXT_at hN hK hP hD hS hA hT9 isC isT hC hnd hT⟩ rfl hn hl rfl (lv_room (pc := pc) (ls := ls) (rest := As.reverse ++ .ref b :: rest) hroom) hdg hcs) hS (fun q _ h => hFc q h) hFc (fun u t H1 locs1 ht hvm hw hB hz1 hk1 hS => ?_)
  obtain ⟨hP1, hK1, hD1⟩ := hB
  rw [ht] at hP1
  obtain ⟨hP2, hD2⟩ := va_join hP hD isC isR hC hR hnr hdis hk1 hFc hP1 hD1
  exact kk u H1 locs1 hw (hK.app (va_K.moved hvm.symm hK1)) hP2 hD2 hS
theorem pcIN {S' : Type} {post : S' → Prop} {w1 : S' → va_W} {k1 : S' → List (ClassId × FieldType)} (S : CallFix p m c cc nL s args Ts own) (hM : Met l y wsY rm (va_Pc (.ref b :: As) (PX D wc tc H.size)) (va_Qv post (fun u t => va_P D vwCl (w1 u) t.heap ∧ va_K D vwCl (k1 u) t ∧ va_D (va_A wc H.size) (w1 u)) (va_A wc H.size)) mc ms (va_A wc H.size)) (cw : va_CN R s args own index y host bytes maxL none wsY rm mc ms n ∧ y.name = "<init>" ∧ (Cond.instanceMethod y).before args s = true) (hN : NW s) (hK : va_K D vwCl ty s) (hP : va_P D vwCl ws H) (hD : va_D A ws)
    (hS : va_S A s.heap H locs) (hA : ∀ q, s.heap.size ≤ q → A q) (isC isR isT : List Nat) (hx : pxS A ws wc wr ty tc isC isR isT) (hst : st0 = As.reverse ++ .ref b :: rest) (hn : As.length = n) (hl : ls.size = nL) (hroom : (rest.map fun v => v.category).sum ≤ 8) (hcs : cells + mc ≤ R.cells ∧ slots + ms ≤ R.slots) (hdg : decode cc pc = .ok (.invokespecial index, 3))
    (kk : ∀ (u : S') (H1 : Heap) (locs1 : List Loc), post u → va_K D vwCl (ty ++ k1 u) s → va_P D vwCl (wr ++ w1 u) H1 → va_D A (wr ++ w1 u) → va_S A s.heap H1 locs1 → W p l e R s m args below meth c H1 locs1 (cells + mc) (slots + ms) Q (F0 m (pc + 3) ls rest)) : W p l e R s m args below meth c H locs cells slots Q (F0 m pc ls st0) := by
  subst hst
  obtain ⟨hC, hnd, hT, hR, hnr, hdis⟩ := hx
  have hFc := va_free (wc := wc) hD hS hA isC hC
  refine va_callv (va_runIN (As := As) (rest := rest) S hM cw ⟨PX_blind, PX_at hN hK hP hD isC isT hC hnd hT⟩ rfl hn hl rfl (lv_room (pc := pc) (ls := ls) (rest := As.reverse ++ .ref b :: rest) hroom) hdg hcs) hS (fun q _ h => hFc q h) hFc (fun u t H1 locs1 ht hvm hw hB hz1 hk1 hS => ?_)
  obtain ⟨hP1, hK1, hD1⟩ := hB
  rw [ht] at hP1
  obtain ⟨hP2, hD2⟩ := va_join hP hD isC isR hC hR hnr hdis hk1 hFc hP1 hD1
  exact kk u H1 locs1 hw (hK.app (va_K.moved hvm.symm hK1)) hP2 hD2 hS
end CPX
