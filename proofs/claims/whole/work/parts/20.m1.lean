abbrev rm_J6_bitCount_0f7a4 : Room := { frames := 0, cells := 0, slots := 0, locals := 0 }
abbrev cl_J6_bitCount_0f7a4 (ad : Nat → Nat) (cs : Nat → ClassId)  : va_W := []
abbrev ty_J6_bitCount_0f7a4 (cs : Nat → ClassId) : List (ClassId × FieldType) := []
def wp_J6_bitCount_0f7a4 (x0 : Int32) (Q : Int32 → Prop) : Prop :=
 Q ((((((((x0 - (((x0.toUInt32 >>> ((1 : Int32).toUInt32 &&& Int32.toUInt32 31)).toInt32) &&& (1431655765 : Int32))) &&& (858993459 : Int32)) + ((((x0 - (((x0.toUInt32 >>> ((1 : Int32).toUInt32 &&& Int32.toUInt32 31)).toInt32) &&& (1431655765 : Int32))).toUInt32 >>> ((2 : Int32).toUInt32 &&& Int32.toUInt32 31)).toInt32) &&& (858993459 : Int32))) + (((((x0 - (((x0.toUInt32 >>> ((1 : Int32).toUInt32 &&& Int32.toUInt32 31)).toInt32) &&& (1431655765 : Int32))) &&& (858993459 : Int32)) + ((((x0 - (((x0.toUInt32 >>> ((1 : Int32).toUInt32 &&& Int32.toUInt32 31)).toInt32) &&& (1431655765 : Int32))).toUInt32 >>> ((2 : Int32).toUInt32 &&& Int32.toUInt32 31)).toInt32) &&& (858993459 : Int32))).toUInt32 >>> ((4 : Int32).toUInt32 &&& Int32.toUInt32 31)).toInt32)) &&& (252645135 : Int32)) + (((((((x0 - (((x0.toUInt32 >>> ((1 : Int32).toUInt32 &&& Int32.toUInt32 31)).toInt32) &&& (1431655765 : Int32))) &&& (858993459 : Int32)) + ((((x0 - (((x0.toUInt32 >>> ((1 : Int32).toUInt32 &&& Int32.toUInt32 31)).toInt32) &&& (1431655765 : Int32))).toUInt32 >>> ((2 : Int32).toUInt32 &&& Int32.toUInt32 31)).toInt32) &&& (858993459 : Int32))) + (((((x0 - (((x0.toUInt32 >>> ((1 : Int32).toUInt32 &&& Int32.toUInt32 31)).toInt32) &&& (1431655765 : Int32))) &&& (858993459 : Int32)) + ((((x0 - (((x0.toUInt32 >>> ((1 : Int32).toUInt32 &&& Int32.toUInt32 31)).toInt32) &&& (1431655765 : Int32))).toUInt32 >>> ((2 : Int32).toUInt32 &&& Int32.toUInt32 31)).toInt32) &&& (858993459 : Int32))).toUInt32 >>> ((4 : Int32).toUInt32 &&& Int32.toUInt32 31)).toInt32)) &&& (252645135 : Int32)).toUInt32 >>> ((8 : Int32).toUInt32 &&& Int32.toUInt32 31)).toInt32)) + ((((((((x0 - (((x0.toUInt32 >>> ((1 : Int32).toUInt32 &&& Int32.toUInt32 31)).toInt32) &&& (1431655765 : Int32))) &&& (858993459 : Int32)) + ((((x0 - (((x0.toUInt32 >>> ((1 : Int32).toUInt32 &&& Int32.toUInt32 31)).toInt32) &&& (1431655765 : Int32))).toUInt32 >>> ((2 : Int32).toUInt32 &&& Int32.toUInt32 31)).toInt32) &&& (858993459 : Int32))) + (((((x0 - (((x0.toUInt32 >>> ((1 : Int32).toUInt32 &&& Int32.toUInt32 31)).toInt32) &&& (1431655765 : Int32))) &&& (858993459 : Int32)) + ((((x0 - (((x0.toUInt32 >>> ((1 : Int32).toUInt32 &&& Int32.toUInt32 31)).toInt32) &&& (1431655765 : Int32))).toUInt32 >>> ((2 : Int32).toUInt32 &&& Int32.toUInt32 31)).toInt32) &&& (858993459 : Int32))).toUInt32 >>> ((4 : Int32).toUInt32 &&& Int32.toUInt32 31)).toInt32)) &&& (252645135 : Int32)) + (((((((x0 - (((x0.toUInt32 >>> ((1 : Int32).toUInt32 &&& Int32.toUInt32 31)).toInt32) &&& (1431655765 : Int32))) &&& (858993459 : Int32)) + ((((x0 - (((x0.toUInt32 >>> ((1 : Int32).toUInt32 &&& Int32.toUInt32 31)).toInt32) &&& (1431655765 : Int32))).toUInt32 >>> ((2 : Int32).toUInt32 &&& Int32.toUInt32 31)).toInt32) &&& (858993459 : Int32))) + (((((x0 - (((x0.toUInt32 >>> ((1 : Int32).toUInt32 &&& Int32.toUInt32 31)).toInt32) &&& (1431655765 : Int32))) &&& (858993459 : Int32)) + ((((x0 - (((x0.toUInt32 >>> ((1 : Int32).toUInt32 &&& Int32.toUInt32 31)).toInt32) &&& (1431655765 : Int32))).toUInt32 >>> ((2 : Int32).toUInt32 &&& Int32.toUInt32 31)).toInt32) &&& (858993459 : Int32))).toUInt32 >>> ((4 : Int32).toUInt32 &&& Int32.toUInt32 31)).toInt32)) &&& (252645135 : Int32)).toUInt32 >>> ((8 : Int32).toUInt32 &&& Int32.toUInt32 31)).toInt32)).toUInt32 >>> ((16 : Int32).toUInt32 &&& Int32.toUInt32 31)).toInt32)) &&& (63 : Int32))
set_option maxHeartbeats 4000000 in
set_option maxRecDepth 100000 in
theorem b_J6_bitCount_0f7a4 {p : Program} {e : Env} {s : State} {m : MethodId} {args : Array Value} {below : List Frame} {meth : Method} {c : Code} {QQ : State → Prop} {A : Nat → Prop} {ls : Array Slot} (l : Launch) (D : va_G) (ad : Nat → Nat) (cs : Nat → ClassId) (x0 : Int32) (Q : Int32 → Prop) (hx : p.tables.exec = Jvm.exec) (hb : c.code = cJ6_bitCount_0f7a4) (hml : c.maxLocals = 1) (hown : s.vm.findClass RJ6 = some m.cls) (hts : ∀ w ∈ wsJ6_bitCount_0f7a4, w.before args s = true) (hN : NW s) (hP : va_P D vwCl (cl_J6_bitCount_0f7a4 ad cs) s.heap) (hK : va_K D vwCl (ty_J6_bitCount_0f7a4 cs) s) (hD : va_D A (cl_J6_bitCount_0f7a4 ad cs)) (hA : ∀ q : Nat, s.heap.size ≤ q → A q) (hl : lv_has ls 1 [(0, .int x0)])
  (hret : ∀ (r : Int32) (pc : Nat) (ls : Array Slot), Q r → decode cJ6_bitCount_0f7a4 pc = .ok (.ireturn, 1) → W p l e rm_J6_bitCount_0f7a4 s m args below meth c s.heap [] 0 0 QQ (F0 m pc ls [.int r]))
  (hw : wp_J6_bitCount_0f7a4 x0 Q) :
  W p l e rm_J6_bitCount_0f7a4 s m args below meth c s.heap [] 0 0 QQ (F0 m 0 ls []) := by
  have S0 : CallFix p m c cJ6_bitCount_0f7a4 1 s args wsJ6_bitCount_0f7a4 RJ6 := ⟨hx, hb, hml, hown, hts⟩
  unfold wp_J6_bitCount_0f7a4 at hw
  refine lv_iload_n hx hb dJ6_bitCount_0f7a4_0 rfl (lv_at hl 0 rfl) ?_
  refine lv_iload_n hx hb dJ6_bitCount_0f7a4_1 rfl (lv_at hl 0 rfl) ?_
  refine lv_iconst (v := (1 : Int32)) hx hb dJ6_bitCount_0f7a4_2 (by decide) ?_
  refine lv_iushr (v := ((x0.toUInt32 >>> ((1 : Int32).toUInt32 &&& Int32.toUInt32 31)).toInt32)) hx hb dJ6_bitCount_0f7a4_3 rfl ?_
  refine lv_ldcw hx hb hown (hts (.constant RJ6 265 (1431655765)) (by decide +kernel)) dJ6_bitCount_0f7a4_4 ?_
  refine lv_iand hx hb dJ6_bitCount_0f7a4_7 ?_
  refine lv_isub hx hb dJ6_bitCount_0f7a4_8 ?_
  refine lv_istore_n (lv' := [(0, .int (x0 - (((x0.toUInt32 >>> ((1 : Int32).toUInt32 &&& Int32.toUInt32 31)).toInt32) &&& (1431655765 : Int32))))]) hx hb dJ6_bitCount_0f7a4_9 rfl hl (by decide) rfl (fun ls hl => ?_)
  refine lv_iload_n hx hb dJ6_bitCount_0f7a4_10 rfl (lv_at hl 0 rfl) ?_
  refine lv_ldcw hx hb hown (hts (.constant RJ6 266 (858993459)) (by decide +kernel)) dJ6_bitCount_0f7a4_11 ?_
  refine lv_iand hx hb dJ6_bitCount_0f7a4_14 ?_
  refine lv_iload_n hx hb dJ6_bitCount_0f7a4_15 rfl (lv_at hl 0 rfl) ?_
  refine lv_iconst (v := (2 : Int32)) hx hb dJ6_bitCount_0f7a4_16 (by decide) ?_
  refine lv_iushr (v := (((x0 - (((x0.toUInt32 >>> ((1 : Int32).toUInt32 &&& Int32.toUInt32 31)).toInt32) &&& (1431655765 : Int32))).toUInt32 >>> ((2 : Int32).toUInt32 &&& Int32.toUInt32 31)).toInt32)) hx hb dJ6_bitCount_0f7a4_17 rfl ?_
  refine lv_ldcw hx hb hown (hts (.constant RJ6 266 (858993459)) (by decide +kernel)) dJ6_bitCount_0f7a4_18 ?_
  refine lv_iand hx hb dJ6_bitCount_0f7a4_21 ?_
  refine lv_iadd hx hb dJ6_bitCount_0f7a4_22 ?_
  refine lv_istore_n (lv' := [(0, .int (((x0 - (((x0.toUInt32 >>> ((1 : Int32).toUInt32 &&& Int32.toUInt32 31)).toInt32) &&& (1431655765 : Int32))) &&& (858993459 : Int32)) + ((((x0 - (((x0.toUInt32 >>> ((1 : Int32).toUInt32 &&& Int32.toUInt32 31)).toInt32) &&& (1431655765 : Int32))).toUInt32 >>> ((2 : Int32).toUInt32 &&& Int32.toUInt32 31)).toInt32) &&& (858993459 : Int32))))]) hx hb dJ6_bitCount_0f7a4_23 rfl hl (by decide) rfl (fun ls hl => ?_)
  refine lv_iload_n hx hb dJ6_bitCount_0f7a4_24 rfl (lv_at hl 0 rfl) ?_
  refine lv_iload_n hx hb dJ6_bitCount_0f7a4_25 rfl (lv_at hl 0 rfl) ?_
  refine lv_iconst (v := (4 : Int32)) hx hb dJ6_bitCount_0f7a4_26 (by decide) ?_
  refine lv_iushr (v := (((((x0 - (((x0.toUInt32 >>> ((1 : Int32).toUInt32 &&& Int32.toUInt32 31)).toInt32) &&& (1431655765 : Int32))) &&& (858993459 : Int32)) + ((((x0 - (((x0.toUInt32 >>> ((1 : Int32).toUInt32 &&& Int32.toUInt32 31)).toInt32) &&& (1431655765 : Int32))).toUInt32 >>> ((2 : Int32).toUInt32 &&& Int32.toUInt32 31)).toInt32) &&& (858993459 : Int32))).toUInt32 >>> ((4 : Int32).toUInt32 &&& Int32.toUInt32 31)).toInt32)) hx hb dJ6_bitCount_0f7a4_27 rfl ?_
  refine lv_iadd hx hb dJ6_bitCount_0f7a4_28 ?_
  refine lv_ldcw hx hb hown (hts (.constant RJ6 267 (252645135)) (by decide +kernel)) dJ6_bitCount_0f7a4_29 ?_
  refine lv_iand hx hb dJ6_bitCount_0f7a4_32 ?_
  refine lv_istore_n (lv' := [(0, .int (((((x0 - (((x0.toUInt32 >>> ((1 : Int32).toUInt32 &&& Int32.toUInt32 31)).toInt32) &&& (1431655765 : Int32))) &&& (858993459 : Int32)) + ((((x0 - (((x0.toUInt32 >>> ((1 : Int32).toUInt32 &&& Int32.toUInt32 31)).toInt32) &&& (1431655765 : Int32))).toUInt32 >>> ((2 : Int32).toUInt32 &&& Int32.toUInt32 31)).toInt32) &&& (858993459 : Int32))) + (((((x0 - (((x0.toUInt32 >>> ((1 : Int32).toUInt32 &&& Int32.toUInt32 31)).toInt32) &&& (1431655765 : Int32))) &&& (858993459 : Int32)) + ((((x0 - (((x0.toUInt32 >>> ((1 : Int32).toUInt32 &&& Int32.toUInt32 31)).toInt32) &&& (1431655765 : Int32))).toUInt32 >>> ((2 : Int32).toUInt32 &&& Int32.toUInt32 31)).toInt32) &&& (858993459 : Int32))).toUInt32 >>> ((4 : Int32).toUInt32 &&& Int32.toUInt32 31)).toInt32)) &&& (252645135 : Int32)))]) hx hb dJ6_bitCount_0f7a4_33 rfl hl (by decide) rfl (fun ls hl => ?_)
  refine lv_iload_n hx hb dJ6_bitCount_0f7a4_34 rfl (lv_at hl 0 rfl) ?_
  refine lv_iload_n hx hb dJ6_bitCount_0f7a4_35 rfl (lv_at hl 0 rfl) ?_
  refine lv_bipush (v := (8 : Int32)) hx hb dJ6_bitCount_0f7a4_36 (by decide) ?_
  refine lv_iushr (v := (((((((x0 - (((x0.toUInt32 >>> ((1 : Int32).toUInt32 &&& Int32.toUInt32 31)).toInt32) &&& (1431655765 : Int32))) &&& (858993459 : Int32)) + ((((x0 - (((x0.toUInt32 >>> ((1 : Int32).toUInt32 &&& Int32.toUInt32 31)).toInt32) &&& (1431655765 : Int32))).toUInt32 >>> ((2 : Int32).toUInt32 &&& Int32.toUInt32 31)).toInt32) &&& (858993459 : Int32))) + (((((x0 - (((x0.toUInt32 >>> ((1 : Int32).toUInt32 &&& Int32.toUInt32 31)).toInt32) &&& (1431655765 : Int32))) &&& (858993459 : Int32)) + ((((x0 - (((x0.toUInt32 >>> ((1 : Int32).toUInt32 &&& Int32.toUInt32 31)).toInt32) &&& (1431655765 : Int32))).toUInt32 >>> ((2 : Int32).toUInt32 &&& Int32.toUInt32 31)).toInt32) &&& (858993459 : Int32))).toUInt32 >>> ((4 : Int32).toUInt32 &&& Int32.toUInt32 31)).toInt32)) &&& (252645135 : Int32)).toUInt32 >>> ((8 : Int32).toUInt32 &&& Int32.toUInt32 31)).toInt32)) hx hb dJ6_bitCount_0f7a4_38 rfl ?_
  refine lv_iadd hx hb dJ6_bitCount_0f7a4_39 ?_
  refine lv_istore_n (lv' := [(0, .int ((((((x0 - (((x0.toUInt32 >>> ((1 : Int32).toUInt32 &&& Int32.toUInt32 31)).toInt32) &&& (1431655765 : Int32))) &&& (858993459 : Int32)) + ((((x0 - (((x0.toUInt32 >>> ((1 : Int32).toUInt32 &&& Int32.toUInt32 31)).toInt32) &&& (1431655765 : Int32))).toUInt32 >>> ((2 : Int32).toUInt32 &&& Int32.toUInt32 31)).toInt32) &&& (858993459 : Int32))) + (((((x0 - (((x0.toUInt32 >>> ((1 : Int32).toUInt32 &&& Int32.toUInt32 31)).toInt32) &&& (1431655765 : Int32))) &&& (858993459 : Int32)) + ((((x0 - (((x0.toUInt32 >>> ((1 : Int32).toUInt32 &&& Int32.toUInt32 31)).toInt32) &&& (1431655765 : Int32))).toUInt32 >>> ((2 : Int32).toUInt32 &&& Int32.toUInt32 31)).toInt32) &&& (858993459 : Int32))).toUInt32 >>> ((4 : Int32).toUInt32 &&& Int32.toUInt32 31)).toInt32)) &&& (252645135 : Int32)) + (((((((x0 - (((x0.toUInt32 >>> ((1 : Int32).toUInt32 &&& Int32.toUInt32 31)).toInt32) &&& (1431655765 : Int32))) &&& (858993459 : Int32)) + ((((x0 - (((x0.toUInt32 >>> ((1 : Int32).toUInt32 &&& Int32.toUInt32 31)).toInt32) &&& (1431655765 : Int32))).toUInt32 >>> ((2 : Int32).toUInt32 &&& Int32.toUInt32 31)).toInt32) &&& (858993459 : Int32))) + (((((x0 - (((x0.toUInt32 >>> ((1 : Int32).toUInt32 &&& Int32.toUInt32 31)).toInt32) &&& (1431655765 : Int32))) &&& (858993459 : Int32)) + ((((x0 - (((x0.toUInt32 >>> ((1 : Int32).toUInt32 &&& Int32.toUInt32 31)).toInt32) &&& (1431655765 : Int32))).toUInt32 >>> ((2 : Int32).toUInt32 &&& Int32.toUInt32 31)).toInt32) &&& (858993459 : Int32))).toUInt32 >>> ((4 : Int32).toUInt32 &&& Int32.toUInt32 31)).toInt32)) &&& (252645135 : Int32)).toUInt32 >>> ((8 : Int32).toUInt32 &&& Int32.toUInt32 31)).toInt32)))]) hx hb dJ6_bitCount_0f7a4_40 rfl hl (by decide) rfl (fun ls hl => ?_)
  refine lv_iload_n hx hb dJ6_bitCount_0f7a4_41 rfl (lv_at hl 0 rfl) ?_
  refine lv_iload_n hx hb dJ6_bitCount_0f7a4_42 rfl (lv_at hl 0 rfl) ?_
  refine lv_bipush (v := (16 : Int32)) hx hb dJ6_bitCount_0f7a4_43 (by decide) ?_
  refine lv_iushr (v := ((((((((x0 - (((x0.toUInt32 >>> ((1 : Int32).toUInt32 &&& Int32.toUInt32 31)).toInt32) &&& (1431655765 : Int32))) &&& (858993459 : Int32)) + ((((x0 - (((x0.toUInt32 >>> ((1 : Int32).toUInt32 &&& Int32.toUInt32 31)).toInt32) &&& (1431655765 : Int32))).toUInt32 >>> ((2 : Int32).toUInt32 &&& Int32.toUInt32 31)).toInt32) &&& (858993459 : Int32))) + (((((x0 - (((x0.toUInt32 >>> ((1 : Int32).toUInt32 &&& Int32.toUInt32 31)).toInt32) &&& (1431655765 : Int32))) &&& (858993459 : Int32)) + ((((x0 - (((x0.toUInt32 >>> ((1 : Int32).toUInt32 &&& Int32.toUInt32 31)).toInt32) &&& (1431655765 : Int32))).toUInt32 >>> ((2 : Int32).toUInt32 &&& Int32.toUInt32 31)).toInt32) &&& (858993459 : Int32))).toUInt32 >>> ((4 : Int32).toUInt32 &&& Int32.toUInt32 31)).toInt32)) &&& (252645135 : Int32)) + (((((((x0 - (((x0.toUInt32 >>> ((1 : Int32).toUInt32 &&& Int32.toUInt32 31)).toInt32) &&& (1431655765 : Int32))) &&& (858993459 : Int32)) + ((((x0 - (((x0.toUInt32 >>> ((1 : Int32).toUInt32 &&& Int32.toUInt32 31)).toInt32) &&& (1431655765 : Int32))).toUInt32 >>> ((2 : Int32).toUInt32 &&& Int32.toUInt32 31)).toInt32) &&& (858993459 : Int32))) + (((((x0 - (((x0.toUInt32 >>> ((1 : Int32).toUInt32 &&& Int32.toUInt32 31)).toInt32) &&& (1431655765 : Int32))) &&& (858993459 : Int32)) + ((((x0 - (((x0.toUInt32 >>> ((1 : Int32).toUInt32 &&& Int32.toUInt32 31)).toInt32) &&& (1431655765 : Int32))).toUInt32 >>> ((2 : Int32).toUInt32 &&& Int32.toUInt32 31)).toInt32) &&& (858993459 : Int32))).toUInt32 >>> ((4 : Int32).toUInt32 &&& Int32.toUInt32 31)).toInt32)) &&& (252645135 : Int32)).toUInt32 >>> ((8 : Int32).toUInt32 &&& Int32.toUInt32 31)).toInt32)).toUInt32 >>> ((16 : Int32).toUInt32 &&& Int32.toUInt32 31)).toInt32)) hx hb dJ6_bitCount_0f7a4_45 rfl ?_
  refine lv_iadd hx hb dJ6_bitCount_0f7a4_46 ?_
  refine lv_istore_n (lv' := [(0, .int (((((((x0 - (((x0.toUInt32 >>> ((1 : Int32).toUInt32 &&& Int32.toUInt32 31)).toInt32) &&& (1431655765 : Int32))) &&& (858993459 : Int32)) + ((((x0 - (((x0.toUInt32 >>> ((1 : Int32).toUInt32 &&& Int32.toUInt32 31)).toInt32) &&& (1431655765 : Int32))).toUInt32 >>> ((2 : Int32).toUInt32 &&& Int32.toUInt32 31)).toInt32) &&& (858993459 : Int32))) + (((((x0 - (((x0.toUInt32 >>> ((1 : Int32).toUInt32 &&& Int32.toUInt32 31)).toInt32) &&& (1431655765 : Int32))) &&& (858993459 : Int32)) + ((((x0 - (((x0.toUInt32 >>> ((1 : Int32).toUInt32 &&& Int32.toUInt32 31)).toInt32) &&& (1431655765 : Int32))).toUInt32 >>> ((2 : Int32).toUInt32 &&& Int32.toUInt32 31)).toInt32) &&& (858993459 : Int32))).toUInt32 >>> ((4 : Int32).toUInt32 &&& Int32.toUInt32 31)).toInt32)) &&& (252645135 : Int32)) + (((((((x0 - (((x0.toUInt32 >>> ((1 : Int32).toUInt32 &&& Int32.toUInt32 31)).toInt32) &&& (1431655765 : Int32))) &&& (858993459 : Int32)) + ((((x0 - (((x0.toUInt32 >>> ((1 : Int32).toUInt32 &&& Int32.toUInt32 31)).toInt32) &&& (1431655765 : Int32))).toUInt32 >>> ((2 : Int32).toUInt32 &&& Int32.toUInt32 31)).toInt32) &&& (858993459 : Int32))) + (((((x0 - (((x0.toUInt32 >>> ((1 : Int32).toUInt32 &&& Int32.toUInt32 31)).toInt32) &&& (1431655765 : Int32))) &&& (858993459 : Int32)) + ((((x0 - (((x0.toUInt32 >>> ((1 : Int32).toUInt32 &&& Int32.toUInt32 31)).toInt32) &&& (1431655765 : Int32))).toUInt32 >>> ((2 : Int32).toUInt32 &&& Int32.toUInt32 31)).toInt32) &&& (858993459 : Int32))).toUInt32 >>> ((4 : Int32).toUInt32 &&& Int32.toUInt32 31)).toInt32)) &&& (252645135 : Int32)).toUInt32 >>> ((8 : Int32).toUInt32 &&& Int32.toUInt32 31)).toInt32)) + ((((((((x0 - (((x0.toUInt32 >>> ((1 : Int32).toUInt32 &&& Int32.toUInt32 31)).toInt32) &&& (1431655765 : Int32))) &&& (858993459 : Int32)) + ((((x0 - (((x0.toUInt32 >>> ((1 : Int32).toUInt32 &&& Int32.toUInt32 31)).toInt32) &&& (1431655765 : Int32))).toUInt32 >>> ((2 : Int32).toUInt32 &&& Int32.toUInt32 31)).toInt32) &&& (858993459 : Int32))) + (((((x0 - (((x0.toUInt32 >>> ((1 : Int32).toUInt32 &&& Int32.toUInt32 31)).toInt32) &&& (1431655765 : Int32))) &&& (858993459 : Int32)) + ((((x0 - (((x0.toUInt32 >>> ((1 : Int32).toUInt32 &&& Int32.toUInt32 31)).toInt32) &&& (1431655765 : Int32))).toUInt32 >>> ((2 : Int32).toUInt32 &&& Int32.toUInt32 31)).toInt32) &&& (858993459 : Int32))).toUInt32 >>> ((4 : Int32).toUInt32 &&& Int32.toUInt32 31)).toInt32)) &&& (252645135 : Int32)) + (((((((x0 - (((x0.toUInt32 >>> ((1 : Int32).toUInt32 &&& Int32.toUInt32 31)).toInt32) &&& (1431655765 : Int32))) &&& (858993459 : Int32)) + ((((x0 - (((x0.toUInt32 >>> ((1 : Int32).toUInt32 &&& Int32.toUInt32 31)).toInt32) &&& (1431655765 : Int32))).toUInt32 >>> ((2 : Int32).toUInt32 &&& Int32.toUInt32 31)).toInt32) &&& (858993459 : Int32))) + (((((x0 - (((x0.toUInt32 >>> ((1 : Int32).toUInt32 &&& Int32.toUInt32 31)).toInt32) &&& (1431655765 : Int32))) &&& (858993459 : Int32)) + ((((x0 - (((x0.toUInt32 >>> ((1 : Int32).toUInt32 &&& Int32.toUInt32 31)).toInt32) &&& (1431655765 : Int32))).toUInt32 >>> ((2 : Int32).toUInt32 &&& Int32.toUInt32 31)).toInt32) &&& (858993459 : Int32))).toUInt32 >>> ((4 : Int32).toUInt32 &&& Int32.toUInt32 31)).toInt32)) &&& (252645135 : Int32)).toUInt32 >>> ((8 : Int32).toUInt32 &&& Int32.toUInt32 31)).toInt32)).toUInt32 >>> ((16 : Int32).toUInt32 &&& Int32.toUInt32 31)).toInt32)))]) hx hb dJ6_bitCount_0f7a4_47 rfl hl (by decide) rfl (fun ls hl => ?_)
  refine lv_iload_n hx hb dJ6_bitCount_0f7a4_48 rfl (lv_at hl 0 rfl) ?_
  refine lv_bipush (v := (63 : Int32)) hx hb dJ6_bitCount_0f7a4_49 (by decide) ?_
  refine lv_iand hx hb dJ6_bitCount_0f7a4_51 ?_
  exact hret _ _ _ hw dJ6_bitCount_0f7a4_52
set_option maxHeartbeats 4000000 in
set_option maxRecDepth 100000 in
theorem c_J6_bitCount_0f7a4 (l : Launch) (D : va_G) (ad : Nat → Nat) (cs : Nat → ClassId) (sz : Nat) (x0 : Int32) (Q : Int32 → Prop) (hw : wp_J6_bitCount_0f7a4 x0 Q) :
  Met l yJ6_bitCount_0f7a4 wsJ6_bitCount_0f7a4 rm_J6_bitCount_0f7a4 (va_Pc [.int x0] (PX D (cl_J6_bitCount_0f7a4 ad cs) (ty_J6_bitCount_0f7a4 cs) sz)) (vp_Si Q) 0 0 (fun _ => False) := by
  refine Met.ofW (cc := cJ6_bitCount_0f7a4) (maxL := 1) (ret := (some .int)) (by decide) rfl ?_
  intro p e s m args below meth c s₁ B hml hv
  obtain ⟨rfl, hsz, hP, hK, hD0, hN⟩ := hv
  subst hsz
  have hl := lv_entry ([.int x0]) (n := 1) (Nat.le_of_ble_eq_true rfl)
  rw [lg_entry_eq]
  have hx := B.exec
  have hb := B.bytes
  have hr := B.returns
  exact b_J6_bitCount_0f7a4 l D ad cs x0 Q hx hb hml (findClass_of_methodNamed B.named) (atoms_spec (ws := wsJ6_bitCount_0f7a4) B.pre) hN hP hK hD0.self (fun q h => Or.inr h) hl (A := va_A (cl_J6_bitCount_0f7a4 ad cs) s.heap.size) (fun r pc ls hq hd => W.iret (v := r) hx hb hr (fun t ht hW => ⟨r, rfl, hq, ht⟩) (fun _ h => nomatch h) hd) hw
abbrev rm_X6_isCell : Room := { frames := 0, cells := 0, slots := 0, locals := 0 }
abbrev cl_X6_isCell (ad : Nat → Nat) (cs : Nat → ClassId)  : va_W := []
abbrev ty_X6_isCell (cs : Nat → ClassId) : List (ClassId × FieldType) := []
def wp_X6_isCell (x0 : Int32) (Q : Int32 → Prop) : Prop :=
 ((x0 < 0 → Q (0 : Int32)) ∧
 (¬ x0 < 0 → (((121 : Int32) ≤ x0 → Q (0 : Int32)) ∧
 (¬ (121 : Int32) ≤ x0 → Q (1 : Int32)))))
set_option maxHeartbeats 4000000 in
set_option maxRecDepth 100000 in
theorem b_X6_isCell {p : Program} {e : Env} {s : State} {m : MethodId} {args : Array Value} {below : List Frame} {meth : Method} {c : Code} {QQ : State → Prop} {A : Nat → Prop} {ls : Array Slot} (l : Launch) (D : va_G) (ad : Nat → Nat) (cs : Nat → ClassId) (x0 : Int32) (Q : Int32 → Prop) (hx : p.tables.exec = Jvm.exec) (hb : c.code = cX6_isCell) (hml : c.maxLocals = 1) (hown : s.vm.findClass RX6 = some m.cls) (hts : ∀ w ∈ wsX6_isCell, w.before args s = true) (hN : NW s) (hP : va_P D vwCl (cl_X6_isCell ad cs) s.heap) (hK : va_K D vwCl (ty_X6_isCell cs) s) (hD : va_D A (cl_X6_isCell ad cs)) (hA : ∀ q : Nat, s.heap.size ≤ q → A q) (hl : lv_has ls 1 [(0, .int x0)])
  (hret : ∀ (r : Int32) (pc : Nat) (ls : Array Slot), nb r → Q r → decode cX6_isCell pc = .ok (.ireturn, 1) → W p l e rm_X6_isCell s m args below meth c s.heap [] 0 0 QQ (F0 m pc ls [.int r]))
  (hw : wp_X6_isCell x0 Q) :
  W p l e rm_X6_isCell s m args below meth c s.heap [] 0 0 QQ (F0 m 0 ls []) := by
  have S0 : CallFix p m c cX6_isCell 1 s args wsX6_isCell RX6 := ⟨hx, hb, hml, hown, hts⟩
  unfold wp_X6_isCell at hw
  refine lv_iload_n hx hb dX6_isCell_0 rfl (lv_at hl 0 rfl) ?_
  refine lv_if_lt (tgt := 14) hx hb dX6_isCell_1 (by decide) (fun c_1 => ?_) (fun c_1 => ?_)
  · have hw := hw.1 c_1
    refine lv_iconst (v := (0 : Int32)) hx hb dX6_isCell_14 (by decide) ?_
    exact hret _ _ _ nb_0 hw dX6_isCell_15
  · have hw := hw.2 c_1
    refine lv_iload_n hx hb dX6_isCell_4 rfl (lv_at hl 0 rfl) ?_
    refine lv_bipush (v := (121 : Int32)) hx hb dX6_isCell_5 (by decide) ?_
    refine lv_icmp_ge (tgt := 14) hx hb dX6_isCell_7 (by decide) (fun c_2 => ?_) (fun c_2 => ?_)
    · have hw := hw.1 c_2
      refine lv_iconst (v := (0 : Int32)) hx hb dX6_isCell_14 (by decide) ?_
      exact hret _ _ _ nb_0 hw dX6_isCell_15
    · have hw := hw.2 c_2
      refine lv_iconst (v := (1 : Int32)) hx hb dX6_isCell_10 (by decide) ?_
      refine lv_goto (tgt := 15) hx hb dX6_isCell_11 (by decide) ?_
      exact hret _ _ _ nb_1 hw dX6_isCell_15
set_option maxHeartbeats 4000000 in
set_option maxRecDepth 100000 in
theorem c_X6_isCell (l : Launch) (D : va_G) (ad : Nat → Nat) (cs : Nat → ClassId) (sz : Nat) (x0 : Int32) (Q : Int32 → Prop) (hw : wp_X6_isCell x0 Q) :
  Met l yX6_isCell wsX6_isCell rm_X6_isCell (va_Pc [.int x0] (PX D (cl_X6_isCell ad cs) (ty_X6_isCell cs) sz)) (vp_Si Q) 0 0 (fun _ => False) := by
  refine Met.ofW (cc := cX6_isCell) (maxL := 1) (ret := (some .boolean)) (by decide) rfl ?_
  intro p e s m args below meth c s₁ B hml hv
  obtain ⟨rfl, hsz, hP, hK, hD0, hN⟩ := hv
  subst hsz
  have hl := lv_entry ([.int x0]) (n := 1) (Nat.le_of_ble_eq_true rfl)
  rw [lg_entry_eq]
  have hx := B.exec
  have hb := B.bytes
  have hr := B.returns
  exact b_X6_isCell l D ad cs x0 Q hx hb hml (findClass_of_methodNamed B.named) (atoms_spec (ws := wsX6_isCell) B.pre) hN hP hK hD0.self (fun q h => Or.inr h) hl (A := va_A (cl_X6_isCell ad cs) s.heap.size) (fun r pc ls hn hq hd => W.zret (v := r) hx hb hr hn (fun t ht hW => ⟨r, rfl, hq, ht⟩) (fun _ h => nomatch h) hd) hw
abbrev rm_X5_camp : Room := { frames := 1, cells := 0, slots := 0, locals := 20 }
abbrev cl_X5_camp (ad : Nat → Nat) (cs : Nat → ClassId) (vS_camps : Nat → Int32) : va_W := [((ad 1), .inr (5, [.ref (ad 2), .ref (ad 3), .ref (ad 4), .ref (ad 5)])), ((ad 4), .inl ((cs 4), 121, .inl vS_camps))]
abbrev ty_X5_camp (cs : Nat → ClassId) : List (ClassId × FieldType) := [((cs 4), .int)]
def wp_X5_camp (vS_camps : Nat → Int32) (x1 : Int32) (Q : Int32 → Prop) : Prop :=
 wp_X6_isCell x1 (fun r_1 =>
 ((r_1 = 0 → Q (-1 : Int32)) ∧
 (¬ r_1 = 0 → (vp_in x1 121 ∧
 Q (vS_camps x1.toNatClampNeg)))))
set_option maxHeartbeats 4000000 in
set_option maxRecDepth 100000 in
theorem b_X5_camp {p : Program} {e : Env} {s : State} {m : MethodId} {args : Array Value} {below : List Frame} {meth : Method} {c : Code} {QQ : State → Prop} {A : Nat → Prop} {ls : Array Slot} (l : Launch) (D : va_G) (ad : Nat → Nat) (cs : Nat → ClassId) (vS_camps : Nat → Int32) (x1 : Int32) (Q : Int32 → Prop) (hx : p.tables.exec = Jvm.exec) (hb : c.code = cX5_camp) (hml : c.maxLocals = 2) (hown : s.vm.findClass RX5 = some m.cls) (hts : ∀ w ∈ wsX5_camp, w.before args s = true) (hN : NW s) (hP : va_P D vwCl (cl_X5_camp ad cs vS_camps) s.heap) (hK : va_K D vwCl (ty_X5_camp cs) s) (hD : va_D A (cl_X5_camp ad cs vS_camps)) (hA : ∀ q : Nat, s.heap.size ≤ q → A q) (hl : lv_has ls 2 [(0, .ref (ad 1)), (1, .int x1)])
  (hret : ∀ (r : Int32) (pc : Nat) (ls : Array Slot), Q r → decode cX5_camp pc = .ok (.ireturn, 1) → W p l e rm_X5_camp s m args below meth c s.heap [] 0 0 QQ (F0 m pc ls [.int r]))
  (hw : wp_X5_camp vS_camps x1 Q) :
  W p l e rm_X5_camp s m args below meth c s.heap [] 0 0 QQ (F0 m 0 ls []) := by
  have S0 : CallFix p m c cX5_camp 2 s args wsX5_camp RX5 := ⟨hx, hb, hml, hown, hts⟩
  have inX5 : ∀ w ∈ u_ws RX5 TX5 4, w ∈ wsX5_camp := by decide +kernel
  have fl_18 := hts (.fieldLink RX5 18 "HopperCourt$Star" "camps" "[I") (by decide +kernel)
  unfold wp_X5_camp at hw
  refine lv_iload_n hx hb dX5_camp_0 rfl (lv_at hl 1 rfl) ?_
  refine pcSN (rest := []) S0 (c_X6_isCell l D ad cs s.heap.size x1 _ hw) ⟨va_cnB (host := RX6) 1 hts gX5_camp_X6_isCell_n43 rfl rfl rfl hN.1 (hts (.initialized RX6) (by decide +kernel)) (by decide +kernel) ⟨Nat.le_of_ble_eq_true rfl, Nat.le_of_ble_eq_true rfl⟩, hts (.static yX6_isCell) (by decide +kernel), trivial⟩ hN hK hP hD [] [] rfl rfl rfl rfl rfl hl.1 (Nat.le_of_ble_eq_true rfl) ⟨Nat.le_of_ble_eq_true rfl, Nat.le_of_ble_eq_true rfl⟩ dX5_camp_1 (fun r_1 hw => ?_)
  refine lv_if_eq (tgt := 16) hx hb dX5_camp_4 (by decide) (fun c_2 => ?_) (fun c_2 => ?_)
  · have hw := hw.1 c_2
    refine lv_iconst (v := (-1 : Int32)) hx hb dX5_camp_16 (by decide) ?_
    exact hret _ _ _ hw dX5_camp_17
  · have hw := hw.2 c_2
    refine lv_aload_n hx hb dX5_camp_7 rfl (lv_at hl 0 rfl) ?_
    refine va_get (D := D) (ci := 5) (v := .ref (ad 4)) (C := RX5) (T := TX5) (N := 4) hx hb hts inX5 hown hK hP 0 rfl rfl 2 (by decide) fl_18 (fun _ h9 => h9) rfl dX5_camp_8 ?_
    refine lv_iload_n hx hb dX5_camp_11 rfl (lv_at hl 1 rfl) ?_
    obtain ⟨h_3, hw⟩ := hw
    refine va_iald hx hb hK hP 1 0 rfl rfl h_3 dX5_camp_12 ?_
    refine lv_goto (tgt := 17) hx hb dX5_camp_13 (by decide) ?_
    exact hret _ _ _ hw dX5_camp_17
set_option maxHeartbeats 4000000 in
set_option maxRecDepth 100000 in
theorem c_X5_camp (l : Launch) (D : va_G) (ad : Nat → Nat) (cs : Nat → ClassId) (sz : Nat) (vS_camps : Nat → Int32) (x1 : Int32) (Q : Int32 → Prop) (hw : wp_X5_camp vS_camps x1 Q) :
  Met l yX5_camp wsX5_camp rm_X5_camp (va_Pc [.ref (ad 1), .int x1] (PX D (cl_X5_camp ad cs vS_camps) (ty_X5_camp cs) sz)) (vp_Si Q) 0 0 (fun _ => False) := by
  refine Met.ofW (cc := cX5_camp) (maxL := 2) (ret := (some .int)) (by decide) rfl ?_
  intro p e s m args below meth c s₁ B hml hv
  obtain ⟨rfl, hsz, hP, hK, hD0, hN⟩ := hv
  subst hsz
  have hl := lv_entry ([.ref (ad 1), .int x1]) (n := 2) (Nat.le_of_ble_eq_true rfl)
  rw [lg_entry_eq]
  have hx := B.exec
  have hb := B.bytes
  have hr := B.returns
  exact b_X5_camp l D ad cs vS_camps x1 Q hx hb hml (findClass_of_methodNamed B.named) (atoms_spec (ws := wsX5_camp) B.pre) hN hP hK hD0.self (fun q h => Or.inr h) hl (A := va_A (cl_X5_camp ad cs vS_camps) s.heap.size) (fun r pc ls hq hd => W.iret (v := r) hx hb hr (fun t ht hW => ⟨r, rfl, hq, ht⟩) (fun _ h => nomatch h) hd) hw
abbrev rm_X1_setUp : Room := { frames := 2, cells := 0, slots := 0, locals := 41 }
abbrev cl_X1_setUp (ad : Nat → Nat) (cs : Nat → ClassId) (vS_camps vM_owners : Nat → Int32) : va_W := [((ad 1), .inr (5, [.ref (ad 2), .ref (ad 3), .ref (ad 4), .ref (ad 5)])), ((ad 4), .inl ((cs 4), 121, .inl vS_camps)), ((ad 6), .inr (1, [.ref (ad 1), .ref (ad 7)])), ((ad 7), .inl ((cs 7), 121, .inl vM_owners))]
abbrev ty_X1_setUp (cs : Nat → ClassId) : List (ClassId × FieldType) := [((cs 4), .int), ((cs 7), .int)]
def wJ_X1_setUp_41 (vM_owners : Nat → Int32) (x2 t1 t2 : Int32) (P2 : (Nat → Int32) → Int32 → Prop) : Prop :=
 (vp_in t1 121 ∧
 P2 (upd vM_owners t1.toNatClampNeg t2) (x2 + (1 : Int32)))
def wb_X1_setUp_2 (vS_camps : Nat → Int32) (x1 : Int32) (K2 : (Nat → Int32) → Prop) (P2 : (Nat → Int32) → Int32 → Prop) (vM_owners : Nat → Int32) (x2 : Int32) : Prop :=
 (((121 : Int32) ≤ x2 → K2 vM_owners) ∧
 (¬ (121 : Int32) ≤ x2 → wp_X5_camp vS_camps x2 (fun r_3 =>
 ((r_3 = (-1 : Int32) → wJ_X1_setUp_41 vM_owners x2 x2 (-1 : Int32) P2) ∧
 (¬ r_3 = (-1 : Int32) → ((¬ ((x1 >>> (r_3 &&& 31)) &&& (1 : Int32)) = (1 : Int32) → wJ_X1_setUp_41 vM_owners x2 x2 (-1 : Int32) P2) ∧
 (((x1 >>> (r_3 &&& 31)) &&& (1 : Int32)) = (1 : Int32) → wJ_X1_setUp_41 vM_owners x2 x2 r_3 P2)))))))
def wl_X1_setUp_2 (vS_camps : Nat → Int32) (x1 : Int32) (K2 : (Nat → Int32) → Prop) (vM_owners : Nat → Int32) (x2 : Int32) : Prop := ∀ P2 : (Nat → Int32) → Int32 → Prop, (∀ (vM_owners : Nat → Int32) (x2 : Int32), wb_X1_setUp_2 vS_camps x1 K2 P2 vM_owners x2 → P2 vM_owners x2) → P2 vM_owners x2
def wp_X1_setUp (vS_camps vM_owners : Nat → Int32) (x1 : Int32) (Q : (Nat → Int32) → Prop) : Prop :=
 wl_X1_setUp_2 vS_camps x1 (fun vM_owners_6 => Q vM_owners_6) vM_owners (0 : Int32)
set_option maxHeartbeats 4000000 in
set_option maxRecDepth 100000 in
theorem b_X1_setUp {p : Program} {e : Env} {s : State} {m : MethodId} {args : Array Value} {below : List Frame} {meth : Method} {c : Code} {QQ : State → Prop} {A : Nat → Prop} {ls : Array Slot} (l : Launch) (D : va_G) (ad : Nat → Nat) (cs : Nat → ClassId) (vS_camps vM_owners : Nat → Int32) (x1 : Int32) (Q : (Nat → Int32) → Prop) (hx : p.tables.exec = Jvm.exec) (hb : c.code = cX1_setUp) (hml : c.maxLocals = 4) (hown : s.vm.findClass RX1 = some m.cls) (hts : ∀ w ∈ wsX1_setUp, w.before args s = true) (hN : NW s) (hP : va_P D vwCl (cl_X1_setUp ad cs vS_camps vM_owners) s.heap) (hK : va_K D vwCl (ty_X1_setUp cs) s) (hD : va_D A (cl_X1_setUp ad cs vS_camps vM_owners)) (hA : ∀ q : Nat, s.heap.size ≤ q → A q) (hl : lv_has ls 4 [(0, .ref (ad 6)), (1, .int x1)])
  (hret : ∀ (o0 : Nat → Int32) (H : Heap) (locs : List Loc) (pc : Nat) (ls : Array Slot), Q o0 → va_P D vwCl (cl_X1_setUp ad cs vS_camps o0) H → va_D A (cl_X1_setUp ad cs vS_camps o0) → va_S A s.heap H locs → decode cX1_setUp pc = .ok (.return_, 1) → W p l e rm_X1_setUp s m args below meth c H locs 0 0 QQ (F0 m pc ls []))
  (hw : wp_X1_setUp vS_camps vM_owners x1 Q) :
  W p l e rm_X1_setUp s m args below meth c s.heap [] 0 0 QQ (F0 m 0 ls []) := by
  have S0 : CallFix p m c cX1_setUp 4 s args wsX1_setUp RX1 := ⟨hx, hb, hml, hown, hts⟩
  have inX1 : ∀ w ∈ u_ws RX1 TX1 2, w ∈ wsX1_setUp := by decide +kernel
  have fl_15 := hts (.fieldLink RX1 15 "HopperCourt$Marbles" "star" "LHopperCourt$Star;") (by decide +kernel)
  have fl_9 := hts (.fieldLink RX1 9 "HopperCourt$Marbles" "owners" "[I") (by decide +kernel)
  have hJ41 : ∀ (vM_owners : Nat → Int32) (x2 t1 t2 : Int32) (P2 : (Nat → Int32) → Int32 → Prop) (x1 : Int32), wJ_X1_setUp_41 vM_owners x2 t1 t2 P2 → (∀ (vM_owners : Nat → Int32) (x2 : Int32), P2 vM_owners x2 → ∀ (H : Heap) (locs : List Loc) (ls : Array Slot), va_P D vwCl (cl_X1_setUp ad cs vS_camps vM_owners) H → va_D A (cl_X1_setUp ad cs vS_camps vM_owners) → va_S A s.heap H locs → lv_has ls 4 [(0, .ref (ad 6)), (1, .int x1), (2, .int x2)] → W p l e rm_X1_setUp s m args below meth c H locs 0 0 QQ (F0 m 2 ls [])) → ∀ (H : Heap) (locs : List Loc) (ls : Array Slot), va_P D vwCl (cl_X1_setUp ad cs vS_camps vM_owners) H → va_D A (cl_X1_setUp ad cs vS_camps vM_owners) → va_S A s.heap H locs → lv_has ls 4 [(0, .ref (ad 6)), (1, .int x1), (2, .int x2)] → W p l e rm_X1_setUp s m args below meth c H locs 0 0 QQ (F0 m 41 ls [.int t2, .int t1, .ref (ad 7)]) := by
    intro vM_owners x2 t1 t2 P2 x1 hw hB2 H locs ls hP hD hS hl
    unfold wJ_X1_setUp_41 at hw
    obtain ⟨h_1, hw⟩ := hw
    refine va_iast hx hb hK hP hD hS 3 1 rfl rfl h_1 dX1_setUp_41 (fun H locs hP hD hS => ?_)
    have hP : va_P D vwCl (cl_X1_setUp ad cs vS_camps (upd vM_owners t1.toNatClampNeg t2)) H := hP
    have hD : va_D A (cl_X1_setUp ad cs vS_camps (upd vM_owners t1.toNatClampNeg t2)) := hD
    refine lv_iinc (v := (x2 + (1 : Int32))) (lv' := [(2, .int (x2 + (1 : Int32))), (0, .ref (ad 6)), (1, .int x1)]) hx hb dX1_setUp_42 hl (k := 2) rfl rfl (by decide) rfl (fun ls hl => ?_)
    refine lv_goto (tgt := 2) hx hb dX1_setUp_45 (by decide) ?_
    exact hB2 (upd vM_owners t1.toNatClampNeg t2) (x2 + (1 : Int32)) hw _ _ _ hP hD hS (lv_sub hl [1, 2, 0] rfl)
  have hL2 : ∀ (x1 : Int32) (K2 : (Nat → Int32) → Prop) (vM_owners : Nat → Int32) (x2 : Int32), wl_X1_setUp_2 vS_camps x1 K2 vM_owners x2 → (∀ (vM_owners : Nat → Int32), K2 vM_owners → ∀ (H : Heap) (locs : List Loc) (ls : Array Slot), va_P D vwCl (cl_X1_setUp ad cs vS_camps vM_owners) H → va_D A (cl_X1_setUp ad cs vS_camps vM_owners) → va_S A s.heap H locs → lv_has ls 4 [] → W p l e rm_X1_setUp s m args below meth c H locs 0 0 QQ (F0 m 48 ls [])) → ∀ (H : Heap) (locs : List Loc) (ls : Array Slot), va_P D vwCl (cl_X1_setUp ad cs vS_camps vM_owners) H → va_D A (cl_X1_setUp ad cs vS_camps vM_owners) → va_S A s.heap H locs → lv_has ls 4 [(0, .ref (ad 6)), (1, .int x1), (2, .int x2)] → W p l e rm_X1_setUp s m args below meth c H locs 0 0 QQ (F0 m 2 ls []) := by
    intro x1 K2 vM_owners x2 hw hK2
    unfold wl_X1_setUp_2 at hw
    refine hw (fun (vM_owners : Nat → Int32) (x2 : Int32) => ∀ (H : Heap) (locs : List Loc) (ls : Array Slot), va_P D vwCl (cl_X1_setUp ad cs vS_camps vM_owners) H → va_D A (cl_X1_setUp ad cs vS_camps vM_owners) → va_S A s.heap H locs → lv_has ls 4 [(0, .ref (ad 6)), (1, .int x1), (2, .int x2)] → W p l e rm_X1_setUp s m args below meth c H locs 0 0 QQ (F0 m 2 ls [])) ?_
    intro vM_owners x2 hw H locs ls hP hD hS hl
    unfold wb_X1_setUp_2 at hw
    refine lv_iload_n hx hb dX1_setUp_2 rfl (lv_at hl 2 rfl) ?_
    refine lv_bipush (v := (121 : Int32)) hx hb dX1_setUp_3 (by decide) ?_
    refine lv_icmp_ge (tgt := 48) hx hb dX1_setUp_5 (by decide) (fun c_2 => ?_) (fun c_2 => ?_)
    · have hw := hw.1 c_2
      exact hK2 vM_owners hw _ _ _ hP hD hS (lv_sub hl [] rfl)
    · have hw := hw.2 c_2
      refine lv_aload_n hx hb dX1_setUp_8 rfl (lv_at hl 0 rfl) ?_
      refine va_get (D := D) (ci := 1) (v := .ref (ad 1)) (C := RX1) (T := TX1) (N := 2) hx hb hts inX1 hown hK hP 2 rfl rfl 0 (by decide) fl_15 (fun _ h9 => h9) rfl dX1_setUp_9 ?_
      refine lv_iload_n hx hb dX1_setUp_12 rfl (lv_at hl 2 rfl) ?_
      refine pcV (rest := []) (ci := 5) S0 (c_X5_camp l D ad cs H.size vS_camps x2 _ hw) (cwV 1 hts gX1_setUp_X5_camp rfl rfl rfl (by decide +kernel) ⟨Nat.le_of_ble_eq_true rfl, Nat.le_of_ble_eq_true rfl⟩) hN hK hP hD [0, 1] [0] rfl rfl rfl 0 rfl rfl rfl rfl hl.1 (Nat.le_of_ble_eq_true rfl) ⟨Nat.le_of_ble_eq_true rfl, Nat.le_of_ble_eq_true rfl⟩ dX1_setUp_13 (fun r_3 hw => ?_)
      refine lv_istore_n (lv' := [(3, .int r_3), (0, .ref (ad 6)), (1, .int x1), (2, .int x2)]) hx hb dX1_setUp_16 rfl hl (by decide) rfl (fun ls hl => ?_)
      refine lv_aload_n hx hb dX1_setUp_17 rfl (lv_at hl 1 rfl) ?_
      refine va_get (D := D) (ci := 1) (v := .ref (ad 7)) (C := RX1) (T := TX1) (N := 2) hx hb hts inX1 hown hK hP 2 rfl rfl 1 (by decide) fl_9 (fun _ h9 => h9) rfl dX1_setUp_18 ?_
      refine lv_iload_n hx hb dX1_setUp_21 rfl (lv_at hl 3 rfl) ?_
      refine lv_iload_n hx hb dX1_setUp_22 rfl (lv_at hl 0 rfl) ?_
      refine lv_iconst (v := (-1 : Int32)) hx hb dX1_setUp_23 (by decide) ?_
      refine lv_icmp_eq (tgt := 40) hx hb dX1_setUp_24 (by decide) (fun c_4 => ?_) (fun c_4 => ?_)
      · have hw := hw.1 c_4
        refine lv_iconst (v := (-1 : Int32)) hx hb dX1_setUp_40 (by decide) ?_
        exact hJ41 vM_owners x2 x2 (-1 : Int32) _ _ hw (fun _ _ h => h) _ _ _ hP hD hS (lv_sub hl [1, 2, 3] rfl)
      · have hw := hw.2 c_4
        refine lv_iload_n hx hb dX1_setUp_27 rfl (lv_at hl 2 rfl) ?_
        refine lv_iload_n hx hb dX1_setUp_28 rfl (lv_at hl 0 rfl) ?_
        refine lv_ishr hx hb dX1_setUp_29 ?_
        refine lv_iconst (v := (1 : Int32)) hx hb dX1_setUp_30 (by decide) ?_
        refine lv_iand hx hb dX1_setUp_31 ?_
        refine lv_iconst (v := (1 : Int32)) hx hb dX1_setUp_32 (by decide) ?_
        refine lv_icmp_ne (tgt := 40) hx hb dX1_setUp_33 (by decide) (fun c_5 => ?_) (fun c_5 => ?_)
        · have hw := hw.1 c_5
          refine lv_iconst (v := (-1 : Int32)) hx hb dX1_setUp_40 (by decide) ?_
          exact hJ41 vM_owners x2 x2 (-1 : Int32) _ _ hw (fun _ _ h => h) _ _ _ hP hD hS (lv_sub hl [1, 2, 3] rfl)
        · have hw := hw.2 c_5
          refine lv_iload_n hx hb dX1_setUp_36 rfl (lv_at hl 0 rfl) ?_
          refine lv_goto (tgt := 41) hx hb dX1_setUp_37 (by decide) ?_
          exact hJ41 vM_owners x2 x2 r_3 _ _ hw (fun _ _ h => h) _ _ _ hP hD hS (lv_sub hl [1, 2, 3] rfl)
  obtain ⟨H, hH⟩ : ∃ H : Heap, H = s.heap := ⟨_, rfl⟩
  have hS : va_S A s.heap H [] := by rw [hH]; exact va_S.rf
  rw [← hH] at hP ⊢
  unfold wp_X1_setUp at hw
  refine lv_iconst (v := (0 : Int32)) hx hb dX1_setUp_0 (by decide) ?_
  refine lv_istore_n (lv' := [(2, .int (0 : Int32)), (0, .ref (ad 6)), (1, .int x1)]) hx hb dX1_setUp_1 rfl hl (by decide) rfl (fun ls hl => ?_)
  refine hL2 x1 _ vM_owners (0 : Int32) hw ?_ _ _ _ hP hD hS (lv_sub hl [1, 2, 0] rfl)
  intro vM_owners_6 hw H locs ls hP hD hS hl
  exact hret _ _ _ _ _ hw hP hD hS dX1_setUp_48
set_option maxHeartbeats 4000000 in
set_option maxRecDepth 100000 in
theorem c_X1_setUp (l : Launch) (D : va_G) (ad : Nat → Nat) (cs : Nat → ClassId) (sz : Nat) (vS_camps vM_owners : Nat → Int32) (x1 : Int32) (Q : (Nat → Int32) → Prop) (hw : wp_X1_setUp vS_camps vM_owners x1 Q) :
  Met l yX1_setUp wsX1_setUp rm_X1_setUp (va_Pc [.ref (ad 6), .int x1] (PX D (cl_X1_setUp ad cs vS_camps vM_owners) (ty_X1_setUp cs) sz)) (va_Qv (fun (u : (Nat → Int32)) => Q u) (fun (u : (Nat → Int32)) t => va_P D vwCl (cl_X1_setUp ad cs vS_camps u) t.heap ∧ va_D (va_A (cl_X1_setUp ad cs vS_camps vM_owners) sz) (cl_X1_setUp ad cs vS_camps u)) (va_A (cl_X1_setUp ad cs vS_camps vM_owners) sz)) 0 0 (va_A (cl_X1_setUp ad cs vS_camps vM_owners) sz) := by
  refine Met.ofW (cc := cX1_setUp) (maxL := 4) (ret := none) (by decide) rfl ?_
  intro p e s m args below meth c s₁ B hml hv
  obtain ⟨rfl, hsz, hP, hK, hD0, hN⟩ := hv
  subst hsz
  have hl := lv_entry ([.ref (ad 6), .int x1]) (n := 4) (Nat.le_of_ble_eq_true rfl)
  rw [lg_entry_eq]
  have hx := B.exec
  have hb := B.bytes
  have hr := B.returns
  exact b_X1_setUp l D ad cs vS_camps vM_owners x1 Q hx hb hml (findClass_of_methodNamed B.named) (atoms_spec (ws := wsX1_setUp) B.pre) hN hP hK hD0.self (fun q h => Or.inr h) hl (fun o0 H locs pc ls hq hP hD hS hd => W.vret hx hb hr (fun t ht hW => ⟨⟨o0, rfl, hq, by rw [ht]; exact hP, hD⟩, hS.F ht⟩) hS.2.2 hd) hw
abbrev rm_X6_isCamp : Room := { frames := 0, cells := 0, slots := 0, locals := 0 }
abbrev cl_X6_isCamp (ad : Nat → Nat) (cs : Nat → ClassId)  : va_W := []
abbrev ty_X6_isCamp (cs : Nat → ClassId) : List (ClassId × FieldType) := []
def wp_X6_isCamp (x0 : Int32) (Q : Int32 → Prop) : Prop :=
 ((x0 < 0 → Q (0 : Int32)) ∧
 (¬ x0 < 0 → (((6 : Int32) ≤ x0 → Q (0 : Int32)) ∧
 (¬ (6 : Int32) ≤ x0 → Q (1 : Int32)))))
set_option maxHeartbeats 4000000 in
set_option maxRecDepth 100000 in
theorem b_X6_isCamp {p : Program} {e : Env} {s : State} {m : MethodId} {args : Array Value} {below : List Frame} {meth : Method} {c : Code} {QQ : State → Prop} {A : Nat → Prop} {ls : Array Slot} (l : Launch) (D : va_G) (ad : Nat → Nat) (cs : Nat → ClassId) (x0 : Int32) (Q : Int32 → Prop) (hx : p.tables.exec = Jvm.exec) (hb : c.code = cX6_isCamp) (hml : c.maxLocals = 1) (hown : s.vm.findClass RX6 = some m.cls) (hts : ∀ w ∈ wsX6_isCamp, w.before args s = true) (hN : NW s) (hP : va_P D vwCl (cl_X6_isCamp ad cs) s.heap) (hK : va_K D vwCl (ty_X6_isCamp cs) s) (hD : va_D A (cl_X6_isCamp ad cs)) (hA : ∀ q : Nat, s.heap.size ≤ q → A q) (hl : lv_has ls 1 [(0, .int x0)])
  (hret : ∀ (r : Int32) (pc : Nat) (ls : Array Slot), nb r → Q r → decode cX6_isCamp pc = .ok (.ireturn, 1) → W p l e rm_X6_isCamp s m args below meth c s.heap [] 0 0 QQ (F0 m pc ls [.int r]))
  (hw : wp_X6_isCamp x0 Q) :
  W p l e rm_X6_isCamp s m args below meth c s.heap [] 0 0 QQ (F0 m 0 ls []) := by
  have S0 : CallFix p m c cX6_isCamp 1 s args wsX6_isCamp RX6 := ⟨hx, hb, hml, hown, hts⟩
  unfold wp_X6_isCamp at hw
  refine lv_iload_n hx hb dX6_isCamp_0 rfl (lv_at hl 0 rfl) ?_
  refine lv_if_lt (tgt := 14) hx hb dX6_isCamp_1 (by decide) (fun c_1 => ?_) (fun c_1 => ?_)
  · have hw := hw.1 c_1
    refine lv_iconst (v := (0 : Int32)) hx hb dX6_isCamp_14 (by decide) ?_
    exact hret _ _ _ nb_0 hw dX6_isCamp_15
  · have hw := hw.2 c_1
    refine lv_iload_n hx hb dX6_isCamp_4 rfl (lv_at hl 0 rfl) ?_
    refine lv_bipush (v := (6 : Int32)) hx hb dX6_isCamp_5 (by decide) ?_
    refine lv_icmp_ge (tgt := 14) hx hb dX6_isCamp_7 (by decide) (fun c_2 => ?_) (fun c_2 => ?_)
    · have hw := hw.1 c_2
      refine lv_iconst (v := (0 : Int32)) hx hb dX6_isCamp_14 (by decide) ?_
      exact hret _ _ _ nb_0 hw dX6_isCamp_15
    · have hw := hw.2 c_2
      refine lv_iconst (v := (1 : Int32)) hx hb dX6_isCamp_10 (by decide) ?_
      refine lv_goto (tgt := 15) hx hb dX6_isCamp_11 (by decide) ?_
      exact hret _ _ _ nb_1 hw dX6_isCamp_15
set_option maxHeartbeats 4000000 in
set_option maxRecDepth 100000 in
theorem c_X6_isCamp (l : Launch) (D : va_G) (ad : Nat → Nat) (cs : Nat → ClassId) (sz : Nat) (x0 : Int32) (Q : Int32 → Prop) (hw : wp_X6_isCamp x0 Q) :
  Met l yX6_isCamp wsX6_isCamp rm_X6_isCamp (va_Pc [.int x0] (PX D (cl_X6_isCamp ad cs) (ty_X6_isCamp cs) sz)) (vp_Si Q) 0 0 (fun _ => False) := by
  refine Met.ofW (cc := cX6_isCamp) (maxL := 1) (ret := (some .boolean)) (by decide) rfl ?_
  intro p e s m args below meth c s₁ B hml hv
  obtain ⟨rfl, hsz, hP, hK, hD0, hN⟩ := hv
  subst hsz
  have hl := lv_entry ([.int x0]) (n := 1) (Nat.le_of_ble_eq_true rfl)
  rw [lg_entry_eq]
  have hx := B.exec
  have hb := B.bytes
  have hr := B.returns
  exact b_X6_isCamp l D ad cs x0 Q hx hb hml (findClass_of_methodNamed B.named) (atoms_spec (ws := wsX6_isCamp) B.pre) hN hP hK hD0.self (fun q h => Or.inr h) hl (A := va_A (cl_X6_isCamp ad cs) s.heap.size) (fun r pc ls hn hq hd => W.zret (v := r) hx hb hr hn (fun t ht hW => ⟨r, rfl, hq, ht⟩) (fun _ h => nomatch h) hd) hw
abbrev rm_X1_owner : Room := { frames := 1, cells := 0, slots := 0, locals := 20 }
abbrev cl_X1_owner (ad : Nat → Nat) (cs : Nat → ClassId) (vM_owners : Nat → Int32) : va_W := [((ad 6), .inr (1, [.ref (ad 1), .ref (ad 7)])), ((ad 7), .inl ((cs 7), 121, .inl vM_owners))]
abbrev ty_X1_owner (cs : Nat → ClassId) : List (ClassId × FieldType) := [((cs 7), .int)]
def wp_X1_owner (vM_owners : Nat → Int32) (x1 : Int32) (Q : Int32 → Prop) : Prop :=
 wp_X6_isCell x1 (fun r_1 =>
 ((r_1 = 0 → Q (-1 : Int32)) ∧
 (¬ r_1 = 0 → (vp_in x1 121 ∧
 Q (vM_owners x1.toNatClampNeg)))))
set_option maxHeartbeats 4000000 in
set_option maxRecDepth 100000 in
theorem b_X1_owner {p : Program} {e : Env} {s : State} {m : MethodId} {args : Array Value} {below : List Frame} {meth : Method} {c : Code} {QQ : State → Prop} {A : Nat → Prop} {ls : Array Slot} (l : Launch) (D : va_G) (ad : Nat → Nat) (cs : Nat → ClassId) (vM_owners : Nat → Int32) (x1 : Int32) (Q : Int32 → Prop) (hx : p.tables.exec = Jvm.exec) (hb : c.code = cX1_owner) (hml : c.maxLocals = 2) (hown : s.vm.findClass RX1 = some m.cls) (hts : ∀ w ∈ wsX1_owner, w.before args s = true) (hN : NW s) (hP : va_P D vwCl (cl_X1_owner ad cs vM_owners) s.heap) (hK : va_K D vwCl (ty_X1_owner cs) s) (hD : va_D A (cl_X1_owner ad cs vM_owners)) (hA : ∀ q : Nat, s.heap.size ≤ q → A q) (hl : lv_has ls 2 [(0, .ref (ad 6)), (1, .int x1)])
  (hret : ∀ (r : Int32) (pc : Nat) (ls : Array Slot), Q r → decode cX1_owner pc = .ok (.ireturn, 1) → W p l e rm_X1_owner s m args below meth c s.heap [] 0 0 QQ (F0 m pc ls [.int r]))
  (hw : wp_X1_owner vM_owners x1 Q) :
  W p l e rm_X1_owner s m args below meth c s.heap [] 0 0 QQ (F0 m 0 ls []) := by
  have S0 : CallFix p m c cX1_owner 2 s args wsX1_owner RX1 := ⟨hx, hb, hml, hown, hts⟩
  have inX1 : ∀ w ∈ u_ws RX1 TX1 2, w ∈ wsX1_owner := by decide +kernel
  have fl_9 := hts (.fieldLink RX1 9 "HopperCourt$Marbles" "owners" "[I") (by decide +kernel)
  unfold wp_X1_owner at hw
  refine lv_iload_n hx hb dX1_owner_0 rfl (lv_at hl 1 rfl) ?_
  refine pcSN (rest := []) S0 (c_X6_isCell l D ad cs s.heap.size x1 _ hw) ⟨va_cnB (host := RX6) 1 hts gX1_owner_X6_isCell_n29 rfl rfl rfl hN.2.1 (hts (.initialized RX6) (by decide +kernel)) (by decide +kernel) ⟨Nat.le_of_ble_eq_true rfl, Nat.le_of_ble_eq_true rfl⟩, hts (.static yX6_isCell) (by decide +kernel), trivial⟩ hN hK hP hD [] [] rfl rfl rfl rfl rfl hl.1 (Nat.le_of_ble_eq_true rfl) ⟨Nat.le_of_ble_eq_true rfl, Nat.le_of_ble_eq_true rfl⟩ dX1_owner_1 (fun r_1 hw => ?_)
  refine lv_if_eq (tgt := 16) hx hb dX1_owner_4 (by decide) (fun c_2 => ?_) (fun c_2 => ?_)
  · have hw := hw.1 c_2
    refine lv_iconst (v := (-1 : Int32)) hx hb dX1_owner_16 (by decide) ?_
    exact hret _ _ _ hw dX1_owner_17
  · have hw := hw.2 c_2
    refine lv_aload_n hx hb dX1_owner_7 rfl (lv_at hl 0 rfl) ?_
    refine va_get (D := D) (ci := 1) (v := .ref (ad 7)) (C := RX1) (T := TX1) (N := 2) hx hb hts inX1 hown hK hP 0 rfl rfl 1 (by decide) fl_9 (fun _ h9 => h9) rfl dX1_owner_8 ?_
    refine lv_iload_n hx hb dX1_owner_11 rfl (lv_at hl 1 rfl) ?_
    obtain ⟨h_3, hw⟩ := hw
    refine va_iald hx hb hK hP 1 0 rfl rfl h_3 dX1_owner_12 ?_
    refine lv_goto (tgt := 17) hx hb dX1_owner_13 (by decide) ?_
    exact hret _ _ _ hw dX1_owner_17
set_option maxHeartbeats 4000000 in
set_option maxRecDepth 100000 in
theorem c_X1_owner (l : Launch) (D : va_G) (ad : Nat → Nat) (cs : Nat → ClassId) (sz : Nat) (vM_owners : Nat → Int32) (x1 : Int32) (Q : Int32 → Prop) (hw : wp_X1_owner vM_owners x1 Q) :
  Met l yX1_owner wsX1_owner rm_X1_owner (va_Pc [.ref (ad 6), .int x1] (PX D (cl_X1_owner ad cs vM_owners) (ty_X1_owner cs) sz)) (vp_Si Q) 0 0 (fun _ => False) := by
  refine Met.ofW (cc := cX1_owner) (maxL := 2) (ret := (some .int)) (by decide) rfl ?_
  intro p e s m args below meth c s₁ B hml hv
  obtain ⟨rfl, hsz, hP, hK, hD0, hN⟩ := hv
  subst hsz
  have hl := lv_entry ([.ref (ad 6), .int x1]) (n := 2) (Nat.le_of_ble_eq_true rfl)
  rw [lg_entry_eq]
  have hx := B.exec
  have hb := B.bytes
  have hr := B.returns
  exact b_X1_owner l D ad cs vM_owners x1 Q hx hb hml (findClass_of_methodNamed B.named) (atoms_spec (ws := wsX1_owner) B.pre) hN hP hK hD0.self (fun q h => Or.inr h) hl (A := va_A (cl_X1_owner ad cs vM_owners) s.heap.size) (fun r pc ls hq hd => W.iret (v := r) hx hb hr (fun t ht hW => ⟨r, rfl, hq, ht⟩) (fun _ h => nomatch h) hd) hw
abbrev rm_X5_next : Room := { frames := 1, cells := 0, slots := 0, locals := 20 }
abbrev cl_X5_next (ad : Nat → Nat) (cs : Nat → ClassId) (vS_nexts : Nat → Int32) : va_W := [((ad 1), .inr (5, [.ref (ad 2), .ref (ad 3), .ref (ad 4), .ref (ad 5)])), ((ad 5), .inl ((cs 5), 726, .inl vS_nexts))]
abbrev ty_X5_next (cs : Nat → ClassId) : List (ClassId × FieldType) := [((cs 5), .int)]
def wp_X5_next (vS_nexts : Nat → Int32) (x1 x2 : Int32) (Q : Int32 → Prop) : Prop :=
 wp_X6_isCell x1 (fun r_1 =>
 ((r_1 = 0 → Q (-1 : Int32)) ∧
 (¬ r_1 = 0 → ((x2 < 0 → Q (-1 : Int32)) ∧
 (¬ x2 < 0 → ((x2 < (6 : Int32) → (vp_in ((x1 * (6 : Int32)) + x2) 726 ∧
 Q (vS_nexts ((x1 * (6 : Int32)) + x2).toNatClampNeg))) ∧
 (¬ x2 < (6 : Int32) → Q (-1 : Int32))))))))
set_option maxHeartbeats 4000000 in
set_option maxRecDepth 100000 in
theorem b_X5_next {p : Program} {e : Env} {s : State} {m : MethodId} {args : Array Value} {below : List Frame} {meth : Method} {c : Code} {QQ : State → Prop} {A : Nat → Prop} {ls : Array Slot} (l : Launch) (D : va_G) (ad : Nat → Nat) (cs : Nat → ClassId) (vS_nexts : Nat → Int32) (x1 x2 : Int32) (Q : Int32 → Prop) (hx : p.tables.exec = Jvm.exec) (hb : c.code = cX5_next) (hml : c.maxLocals = 3) (hown : s.vm.findClass RX5 = some m.cls) (hts : ∀ w ∈ wsX5_next, w.before args s = true) (hN : NW s) (hP : va_P D vwCl (cl_X5_next ad cs vS_nexts) s.heap) (hK : va_K D vwCl (ty_X5_next cs) s) (hD : va_D A (cl_X5_next ad cs vS_nexts)) (hA : ∀ q : Nat, s.heap.size ≤ q → A q) (hl : lv_has ls 3 [(0, .ref (ad 1)), (1, .int x1), (2, .int x2)])
  (hret : ∀ (r : Int32) (pc : Nat) (ls : Array Slot), Q r → decode cX5_next pc = .ok (.ireturn, 1) → W p l e rm_X5_next s m args below meth c s.heap [] 0 0 QQ (F0 m pc ls [.int r]))
  (hw : wp_X5_next vS_nexts x1 x2 Q) :
  W p l e rm_X5_next s m args below meth c s.heap [] 0 0 QQ (F0 m 0 ls []) := by
  have S0 : CallFix p m c cX5_next 3 s args wsX5_next RX5 := ⟨hx, hb, hml, hown, hts⟩
  have inX5 : ∀ w ∈ u_ws RX5 TX5 4, w ∈ wsX5_next := by decide +kernel
  have fl_21 := hts (.fieldLink RX5 21 "HopperCourt$Star" "nexts" "[I") (by decide +kernel)
  unfold wp_X5_next at hw
  refine lv_iload_n hx hb dX5_next_0 rfl (lv_at hl 1 rfl) ?_
  refine pcSN (rest := []) S0 (c_X6_isCell l D ad cs s.heap.size x1 _ hw) ⟨va_cnB (host := RX6) 1 hts gX5_next_X6_isCell_n43 rfl rfl rfl hN.1 (hts (.initialized RX6) (by decide +kernel)) (by decide +kernel) ⟨Nat.le_of_ble_eq_true rfl, Nat.le_of_ble_eq_true rfl⟩, hts (.static yX6_isCell) (by decide +kernel), trivial⟩ hN hK hP hD [] [] rfl rfl rfl rfl rfl hl.1 (Nat.le_of_ble_eq_true rfl) ⟨Nat.le_of_ble_eq_true rfl, Nat.le_of_ble_eq_true rfl⟩ dX5_next_1 (fun r_1 hw => ?_)
  refine lv_if_eq (tgt := 17) hx hb dX5_next_4 (by decide) (fun c_2 => ?_) (fun c_2 => ?_)
  · have hw := hw.1 c_2
    refine lv_iconst (v := (-1 : Int32)) hx hb dX5_next_17 (by decide) ?_
    exact hret _ _ _ hw dX5_next_18
  · have hw := hw.2 c_2
    refine lv_iload_n hx hb dX5_next_7 rfl (lv_at hl 2 rfl) ?_
    refine lv_if_lt (tgt := 17) hx hb dX5_next_8 (by decide) (fun c_3 => ?_) (fun c_3 => ?_)
    · have hw := hw.1 c_3
      refine lv_iconst (v := (-1 : Int32)) hx hb dX5_next_17 (by decide) ?_
      exact hret _ _ _ hw dX5_next_18
    · have hw := hw.2 c_3
      refine lv_iload_n hx hb dX5_next_11 rfl (lv_at hl 2 rfl) ?_
      refine lv_bipush (v := (6 : Int32)) hx hb dX5_next_12 (by decide) ?_
      refine lv_icmp_lt (tgt := 19) hx hb dX5_next_14 (by decide) (fun c_4 => ?_) (fun c_4 => ?_)
      · have hw := hw.1 c_4
        refine lv_aload_n hx hb dX5_next_19 rfl (lv_at hl 0 rfl) ?_
        refine va_get (D := D) (ci := 5) (v := .ref (ad 5)) (C := RX5) (T := TX5) (N := 4) hx hb hts inX5 hown hK hP 0 rfl rfl 3 (by decide) fl_21 (fun _ h9 => h9) rfl dX5_next_20 ?_
        refine lv_iload_n hx hb dX5_next_23 rfl (lv_at hl 1 rfl) ?_
        refine lv_bipush (v := (6 : Int32)) hx hb dX5_next_24 (by decide) ?_
        refine lv_imul hx hb dX5_next_26 ?_
        refine lv_iload_n hx hb dX5_next_27 rfl (lv_at hl 2 rfl) ?_
        refine lv_iadd hx hb dX5_next_28 ?_
        obtain ⟨h_5, hw⟩ := hw
        refine va_iald hx hb hK hP 1 0 rfl rfl h_5 dX5_next_29 ?_
        exact hret _ _ _ hw dX5_next_30
      · have hw := hw.2 c_4
        refine lv_iconst (v := (-1 : Int32)) hx hb dX5_next_17 (by decide) ?_
        exact hret _ _ _ hw dX5_next_18
set_option maxHeartbeats 4000000 in
set_option maxRecDepth 100000 in
theorem c_X5_next (l : Launch) (D : va_G) (ad : Nat → Nat) (cs : Nat → ClassId) (sz : Nat) (vS_nexts : Nat → Int32) (x1 x2 : Int32) (Q : Int32 → Prop) (hw : wp_X5_next vS_nexts x1 x2 Q) :
  Met l yX5_next wsX5_next rm_X5_next (va_Pc [.ref (ad 1), .int x1, .int x2] (PX D (cl_X5_next ad cs vS_nexts) (ty_X5_next cs) sz)) (vp_Si Q) 0 0 (fun _ => False) := by
  refine Met.ofW (cc := cX5_next) (maxL := 3) (ret := (some .int)) (by decide) rfl ?_
  intro p e s m args below meth c s₁ B hml hv
  obtain ⟨rfl, hsz, hP, hK, hD0, hN⟩ := hv
  subst hsz
  have hl := lv_entry ([.ref (ad 1), .int x1, .int x2]) (n := 3) (Nat.le_of_ble_eq_true rfl)
  rw [lg_entry_eq]
  have hx := B.exec
  have hb := B.bytes
  have hr := B.returns
  exact b_X5_next l D ad cs vS_nexts x1 x2 Q hx hb hml (findClass_of_methodNamed B.named) (atoms_spec (ws := wsX5_next) B.pre) hN hP hK hD0.self (fun q h => Or.inr h) hl (A := va_A (cl_X5_next ad cs vS_nexts) s.heap.size) (fun r pc ls hq hd => W.iret (v := r) hx hb hr (fun t ht hW => ⟨r, rfl, hq, ht⟩) (fun _ h => nomatch h) hd) hw
abbrev rm_X1_isEmpty : Room := { frames := 1, cells := 0, slots := 0, locals := 20 }
abbrev cl_X1_isEmpty (ad : Nat → Nat) (cs : Nat → ClassId) (vM_owners : Nat → Int32) : va_W := [((ad 6), .inr (1, [.ref (ad 1), .ref (ad 7)])), ((ad 7), .inl ((cs 7), 121, .inl vM_owners))]
abbrev ty_X1_isEmpty (cs : Nat → ClassId) : List (ClassId × FieldType) := [((cs 7), .int)]
def wp_X1_isEmpty (vM_owners : Nat → Int32) (x1 : Int32) (Q : Int32 → Prop) : Prop :=
 wp_X6_isCell x1 (fun r_1 =>
 ((r_1 = 0 → Q (0 : Int32)) ∧
 (¬ r_1 = 0 → (vp_in x1 121 ∧
 ((¬ (vM_owners x1.toNatClampNeg) = (-1 : Int32) → Q (0 : Int32)) ∧
 ((vM_owners x1.toNatClampNeg) = (-1 : Int32) → Q (1 : Int32)))))))
set_option maxHeartbeats 4000000 in
set_option maxRecDepth 100000 in
theorem b_X1_isEmpty {p : Program} {e : Env} {s : State} {m : MethodId} {args : Array Value} {below : List Frame} {meth : Method} {c : Code} {QQ : State → Prop} {A : Nat → Prop} {ls : Array Slot} (l : Launch) (D : va_G) (ad : Nat → Nat) (cs : Nat → ClassId) (vM_owners : Nat → Int32) (x1 : Int32) (Q : Int32 → Prop) (hx : p.tables.exec = Jvm.exec) (hb : c.code = cX1_isEmpty) (hml : c.maxLocals = 2) (hown : s.vm.findClass RX1 = some m.cls) (hts : ∀ w ∈ wsX1_isEmpty, w.before args s = true) (hN : NW s) (hP : va_P D vwCl (cl_X1_isEmpty ad cs vM_owners) s.heap) (hK : va_K D vwCl (ty_X1_isEmpty cs) s) (hD : va_D A (cl_X1_isEmpty ad cs vM_owners)) (hA : ∀ q : Nat, s.heap.size ≤ q → A q) (hl : lv_has ls 2 [(0, .ref (ad 6)), (1, .int x1)])
  (hret : ∀ (r : Int32) (pc : Nat) (ls : Array Slot), nb r → Q r → decode cX1_isEmpty pc = .ok (.ireturn, 1) → W p l e rm_X1_isEmpty s m args below meth c s.heap [] 0 0 QQ (F0 m pc ls [.int r]))
  (hw : wp_X1_isEmpty vM_owners x1 Q) :
  W p l e rm_X1_isEmpty s m args below meth c s.heap [] 0 0 QQ (F0 m 0 ls []) := by
  have S0 : CallFix p m c cX1_isEmpty 2 s args wsX1_isEmpty RX1 := ⟨hx, hb, hml, hown, hts⟩
  have inX1 : ∀ w ∈ u_ws RX1 TX1 2, w ∈ wsX1_isEmpty := by decide +kernel
  have fl_9 := hts (.fieldLink RX1 9 "HopperCourt$Marbles" "owners" "[I") (by decide +kernel)
  unfold wp_X1_isEmpty at hw
  refine lv_iload_n hx hb dX1_isEmpty_0 rfl (lv_at hl 1 rfl) ?_
  refine pcSN (rest := []) S0 (c_X6_isCell l D ad cs s.heap.size x1 _ hw) ⟨va_cnB (host := RX6) 1 hts gX1_isEmpty_X6_isCell_n29 rfl rfl rfl hN.2.1 (hts (.initialized RX6) (by decide +kernel)) (by decide +kernel) ⟨Nat.le_of_ble_eq_true rfl, Nat.le_of_ble_eq_true rfl⟩, hts (.static yX6_isCell) (by decide +kernel), trivial⟩ hN hK hP hD [] [] rfl rfl rfl rfl rfl hl.1 (Nat.le_of_ble_eq_true rfl) ⟨Nat.le_of_ble_eq_true rfl, Nat.le_of_ble_eq_true rfl⟩ dX1_isEmpty_1 (fun r_1 hw => ?_)
  refine lv_if_eq (tgt := 21) hx hb dX1_isEmpty_4 (by decide) (fun c_2 => ?_) (fun c_2 => ?_)
  · have hw := hw.1 c_2
    refine lv_iconst (v := (0 : Int32)) hx hb dX1_isEmpty_21 (by decide) ?_
    exact hret _ _ _ nb_0 hw dX1_isEmpty_22
  · have hw := hw.2 c_2
    refine lv_aload_n hx hb dX1_isEmpty_7 rfl (lv_at hl 0 rfl) ?_
    refine va_get (D := D) (ci := 1) (v := .ref (ad 7)) (C := RX1) (T := TX1) (N := 2) hx hb hts inX1 hown hK hP 0 rfl rfl 1 (by decide) fl_9 (fun _ h9 => h9) rfl dX1_isEmpty_8 ?_
    refine lv_iload_n hx hb dX1_isEmpty_11 rfl (lv_at hl 1 rfl) ?_
    obtain ⟨h_3, hw⟩ := hw
    refine va_iald hx hb hK hP 1 0 rfl rfl h_3 dX1_isEmpty_12 ?_
    refine lv_iconst (v := (-1 : Int32)) hx hb dX1_isEmpty_13 (by decide) ?_
    refine lv_icmp_ne (tgt := 21) hx hb dX1_isEmpty_14 (by decide) (fun c_4 => ?_) (fun c_4 => ?_)
    · have hw := hw.1 c_4
      refine lv_iconst (v := (0 : Int32)) hx hb dX1_isEmpty_21 (by decide) ?_
      exact hret _ _ _ nb_0 hw dX1_isEmpty_22
    · have hw := hw.2 c_4
      refine lv_iconst (v := (1 : Int32)) hx hb dX1_isEmpty_17 (by decide) ?_
      refine lv_goto (tgt := 22) hx hb dX1_isEmpty_18 (by decide) ?_
      exact hret _ _ _ nb_1 hw dX1_isEmpty_22
set_option maxHeartbeats 4000000 in
set_option maxRecDepth 100000 in
theorem c_X1_isEmpty (l : Launch) (D : va_G) (ad : Nat → Nat) (cs : Nat → ClassId) (sz : Nat) (vM_owners : Nat → Int32) (x1 : Int32) (Q : Int32 → Prop) (hw : wp_X1_isEmpty vM_owners x1 Q) :
  Met l yX1_isEmpty wsX1_isEmpty rm_X1_isEmpty (va_Pc [.ref (ad 6), .int x1] (PX D (cl_X1_isEmpty ad cs vM_owners) (ty_X1_isEmpty cs) sz)) (vp_Si Q) 0 0 (fun _ => False) := by
  refine Met.ofW (cc := cX1_isEmpty) (maxL := 2) (ret := (some .boolean)) (by decide) rfl ?_
  intro p e s m args below meth c s₁ B hml hv
  obtain ⟨rfl, hsz, hP, hK, hD0, hN⟩ := hv
  subst hsz
  have hl := lv_entry ([.ref (ad 6), .int x1]) (n := 2) (Nat.le_of_ble_eq_true rfl)
  rw [lg_entry_eq]
  have hx := B.exec
  have hb := B.bytes
  have hr := B.returns
  exact b_X1_isEmpty l D ad cs vM_owners x1 Q hx hb hml (findClass_of_methodNamed B.named) (atoms_spec (ws := wsX1_isEmpty) B.pre) hN hP hK hD0.self (fun q h => Or.inr h) hl (A := va_A (cl_X1_isEmpty ad cs vM_owners) s.heap.size) (fun r pc ls hn hq hd => W.zret (v := r) hx hb hr hn (fun t ht hW => ⟨r, rfl, hq, ht⟩) (fun _ h => nomatch h) hd) hw
abbrev rm_X3_landing : Room := { frames := 2, cells := 0, slots := 0, locals := 42 }
abbrev cl_X3_landing (ad : Nat → Nat) (cs : Nat → ClassId) (vS_nexts vM_owners : Nat → Int32) : va_W := [((ad 1), .inr (5, [.ref (ad 2), .ref (ad 3), .ref (ad 4), .ref (ad 5)])), ((ad 5), .inl ((cs 5), 726, .inl vS_nexts)), ((ad 6), .inr (1, [.ref (ad 1), .ref (ad 7)])), ((ad 7), .inl ((cs 7), 121, .inl vM_owners)), ((ad 8), .inr (3, [.ref (ad 1), .ref (ad 6), .ref (ad 9), .ref (ad 10), .ref (ad 11)]))]
abbrev ty_X3_landing (cs : Nat → ClassId) : List (ClassId × FieldType) := [((cs 5), .int), ((cs 7), .int)]
def wp_X3_landing (vS_nexts vM_owners : Nat → Int32) (x1 x2 x3 : Int32) (Q : Int32 → Prop) : Prop :=
 wp_X5_next vS_nexts x1 x2 (fun r_1 =>
 ((r_1 = (-1 : Int32) → Q (-1 : Int32)) ∧
 (¬ r_1 = (-1 : Int32) → ((r_1 = x3 → Q (-1 : Int32)) ∧
 (¬ r_1 = x3 → wp_X1_isEmpty vM_owners r_1 (fun r_4 =>
 ((r_4 = 0 → wp_X5_next vS_nexts r_1 x2 (fun r_6 =>
 ((r_6 = x3 → Q r_6) ∧
 (¬ r_6 = x3 → wp_X1_isEmpty vM_owners r_6 (fun r_8 =>
 ((r_8 = 0 → Q (-1 : Int32)) ∧
 (¬ r_8 = 0 → Q r_6))))))) ∧
 (¬ r_4 = 0 → Q (-1 : Int32)))))))))
set_option maxHeartbeats 4000000 in
set_option maxRecDepth 100000 in
theorem b_X3_landing {p : Program} {e : Env} {s : State} {m : MethodId} {args : Array Value} {below : List Frame} {meth : Method} {c : Code} {QQ : State → Prop} {A : Nat → Prop} {ls : Array Slot} (l : Launch) (D : va_G) (ad : Nat → Nat) (cs : Nat → ClassId) (vS_nexts vM_owners : Nat → Int32) (x1 x2 x3 : Int32) (Q : Int32 → Prop) (hx : p.tables.exec = Jvm.exec) (hb : c.code = cX3_landing) (hml : c.maxLocals = 6) (hown : s.vm.findClass RX3 = some m.cls) (hts : ∀ w ∈ wsX3_landing, w.before args s = true) (hN : NW s) (hP : va_P D vwCl (cl_X3_landing ad cs vS_nexts vM_owners) s.heap) (hK : va_K D vwCl (ty_X3_landing cs) s) (hD : va_D A (cl_X3_landing ad cs vS_nexts vM_owners)) (hA : ∀ q : Nat, s.heap.size ≤ q → A q) (hl : lv_has ls 6 [(0, .ref (ad 8)), (1, .int x1), (2, .int x2), (3, .int x3)])
  (hret : ∀ (r : Int32) (pc : Nat) (ls : Array Slot), Q r → decode cX3_landing pc = .ok (.ireturn, 1) → W p l e rm_X3_landing s m args below meth c s.heap [] 0 0 QQ (F0 m pc ls [.int r]))
  (hw : wp_X3_landing vS_nexts vM_owners x1 x2 x3 Q) :
  W p l e rm_X3_landing s m args below meth c s.heap [] 0 0 QQ (F0 m 0 ls []) := by
  have S0 : CallFix p m c cX3_landing 6 s args wsX3_landing RX3 := ⟨hx, hb, hml, hown, hts⟩
  have inX3 : ∀ w ∈ u_ws RX3 TX3 5, w ∈ wsX3_landing := by decide +kernel
  have fl_21 := hts (.fieldLink RX3 21 "HopperCourt$Reach" "star" "LHopperCourt$Star;") (by decide +kernel)
  have fl_25 := hts (.fieldLink RX3 25 "HopperCourt$Reach" "marbles" "LHopperCourt$Marbles;") (by decide +kernel)
  unfold wp_X3_landing at hw
  refine lv_aload_n hx hb dX3_landing_0 rfl (lv_at hl 0 rfl) ?_
  refine va_get (D := D) (ci := 3) (v := .ref (ad 1)) (C := RX3) (T := TX3) (N := 5) hx hb hts inX3 hown hK hP 4 rfl rfl 0 (by decide) fl_21 (fun _ h9 => h9) rfl dX3_landing_1 ?_
  refine lv_iload_n hx hb dX3_landing_4 rfl (lv_at hl 1 rfl) ?_
  refine lv_iload_n hx hb dX3_landing_5 rfl (lv_at hl 2 rfl) ?_
  refine pcV (rest := []) (ci := 5) S0 (c_X5_next l D ad cs s.heap.size vS_nexts x1 x2 _ hw) (cwV 2 hts gX3_landing_X5_next rfl rfl rfl (by decide +kernel) ⟨Nat.le_of_ble_eq_true rfl, Nat.le_of_ble_eq_true rfl⟩) hN hK hP hD [0, 1] [0] rfl rfl rfl 0 rfl rfl rfl rfl hl.1 (Nat.le_of_ble_eq_true rfl) ⟨Nat.le_of_ble_eq_true rfl, Nat.le_of_ble_eq_true rfl⟩ dX3_landing_6 (fun r_1 hw => ?_)
  refine lv_istore (lv' := [(4, .int r_1), (0, .ref (ad 8)), (1, .int x1), (2, .int x2), (3, .int x3)]) hx hb dX3_landing_9 hl (by decide) rfl (fun ls hl => ?_)
  refine lv_iload hx hb dX3_landing_11 (lv_at hl 0 rfl) ?_
  refine lv_iconst (v := (-1 : Int32)) hx hb dX3_landing_13 (by decide) ?_
  refine lv_icmp_eq (tgt := 35) hx hb dX3_landing_14 (by decide) (fun c_2 => ?_) (fun c_2 => ?_)
  · have hw := hw.1 c_2
    refine lv_iconst (v := (-1 : Int32)) hx hb dX3_landing_35 (by decide) ?_
    exact hret _ _ _ hw dX3_landing_36
  · have hw := hw.2 c_2
    refine lv_iload hx hb dX3_landing_17 (lv_at hl 0 rfl) ?_
    refine lv_iload_n hx hb dX3_landing_19 rfl (lv_at hl 4 rfl) ?_
    refine lv_icmp_eq (tgt := 35) hx hb dX3_landing_20 (by decide) (fun c_3 => ?_) (fun c_3 => ?_)
    · have hw := hw.1 c_3
      refine lv_iconst (v := (-1 : Int32)) hx hb dX3_landing_35 (by decide) ?_
      exact hret _ _ _ hw dX3_landing_36
    · have hw := hw.2 c_3
      refine lv_aload_n hx hb dX3_landing_23 rfl (lv_at hl 1 rfl) ?_
      refine va_get (D := D) (ci := 3) (v := .ref (ad 6)) (C := RX3) (T := TX3) (N := 5) hx hb hts inX3 hown hK hP 4 rfl rfl 1 (by decide) fl_25 (fun _ h9 => h9) rfl dX3_landing_24 ?_
      refine lv_iload hx hb dX3_landing_27 (lv_at hl 0 rfl) ?_
      refine pcV (rest := []) (ci := 1) S0 (c_X1_isEmpty l D ad cs s.heap.size vM_owners r_1 _ hw) (cwV 1 hts gX3_landing_X1_isEmpty rfl rfl rfl (by decide +kernel) ⟨Nat.le_of_ble_eq_true rfl, Nat.le_of_ble_eq_true rfl⟩) hN hK hP hD [2, 3] [1] rfl rfl rfl 2 rfl rfl rfl rfl hl.1 (Nat.le_of_ble_eq_true rfl) ⟨Nat.le_of_ble_eq_true rfl, Nat.le_of_ble_eq_true rfl⟩ dX3_landing_29 (fun r_4 hw => ?_)
      refine lv_if_eq (tgt := 37) hx hb dX3_landing_32 (by decide) (fun c_5 => ?_) (fun c_5 => ?_)
      · have hw := hw.1 c_5
        refine lv_aload_n hx hb dX3_landing_37 rfl (lv_at hl 1 rfl) ?_
        refine va_get (D := D) (ci := 3) (v := .ref (ad 1)) (C := RX3) (T := TX3) (N := 5) hx hb hts inX3 hown hK hP 4 rfl rfl 0 (by decide) fl_21 (fun _ h9 => h9) rfl dX3_landing_38 ?_
        refine lv_iload hx hb dX3_landing_41 (lv_at hl 0 rfl) ?_
        refine lv_iload_n hx hb dX3_landing_43 rfl (lv_at hl 3 rfl) ?_
        refine pcV (rest := []) (ci := 5) S0 (c_X5_next l D ad cs s.heap.size vS_nexts r_1 x2 _ hw) (cwV 2 hts gX3_landing_X5_next rfl rfl rfl (by decide +kernel) ⟨Nat.le_of_ble_eq_true rfl, Nat.le_of_ble_eq_true rfl⟩) hN hK hP hD [0, 1] [0] rfl rfl rfl 0 rfl rfl rfl rfl hl.1 (Nat.le_of_ble_eq_true rfl) ⟨Nat.le_of_ble_eq_true rfl, Nat.le_of_ble_eq_true rfl⟩ dX3_landing_44 (fun r_6 hw => ?_)
        refine lv_istore (lv' := [(5, .int r_6), (4, .int r_1), (0, .ref (ad 8)), (1, .int x1), (2, .int x2), (3, .int x3)]) hx hb dX3_landing_47 hl (by decide) rfl (fun ls hl => ?_)
        refine lv_iload hx hb dX3_landing_49 (lv_at hl 0 rfl) ?_
        refine lv_iload_n hx hb dX3_landing_51 rfl (lv_at hl 5 rfl) ?_
        refine lv_icmp_eq (tgt := 67) hx hb dX3_landing_52 (by decide) (fun c_7 => ?_) (fun c_7 => ?_)
        · have hw := hw.1 c_7
          refine lv_iload hx hb dX3_landing_67 (lv_at hl 0 rfl) ?_
          refine lv_goto (tgt := 73) hx hb dX3_landing_69 (by decide) ?_
          exact hret _ _ _ hw dX3_landing_73
        · have hw := hw.2 c_7
          refine lv_aload_n hx hb dX3_landing_55 rfl (lv_at hl 2 rfl) ?_
          refine va_get (D := D) (ci := 3) (v := .ref (ad 6)) (C := RX3) (T := TX3) (N := 5) hx hb hts inX3 hown hK hP 4 rfl rfl 1 (by decide) fl_25 (fun _ h9 => h9) rfl dX3_landing_56 ?_
          refine lv_iload hx hb dX3_landing_59 (lv_at hl 0 rfl) ?_
          refine pcV (rest := []) (ci := 1) S0 (c_X1_isEmpty l D ad cs s.heap.size vM_owners r_6 _ hw) (cwV 1 hts gX3_landing_X1_isEmpty rfl rfl rfl (by decide +kernel) ⟨Nat.le_of_ble_eq_true rfl, Nat.le_of_ble_eq_true rfl⟩) hN hK hP hD [2, 3] [1] rfl rfl rfl 2 rfl rfl rfl rfl hl.1 (Nat.le_of_ble_eq_true rfl) ⟨Nat.le_of_ble_eq_true rfl, Nat.le_of_ble_eq_true rfl⟩ dX3_landing_61 (fun r_8 hw => ?_)
          refine lv_if_eq (tgt := 72) hx hb dX3_landing_64 (by decide) (fun c_9 => ?_) (fun c_9 => ?_)
          · have hw := hw.1 c_9
            refine lv_iconst (v := (-1 : Int32)) hx hb dX3_landing_72 (by decide) ?_
            exact hret _ _ _ hw dX3_landing_73
          · have hw := hw.2 c_9
            refine lv_iload hx hb dX3_landing_67 (lv_at hl 0 rfl) ?_
            refine lv_goto (tgt := 73) hx hb dX3_landing_69 (by decide) ?_
            exact hret _ _ _ hw dX3_landing_73
      · have hw := hw.2 c_5
        refine lv_iconst (v := (-1 : Int32)) hx hb dX3_landing_35 (by decide) ?_
        exact hret _ _ _ hw dX3_landing_36
set_option maxHeartbeats 4000000 in
set_option maxRecDepth 100000 in
theorem c_X3_landing (l : Launch) (D : va_G) (ad : Nat → Nat) (cs : Nat → ClassId) (sz : Nat) (vS_nexts vM_owners : Nat → Int32) (x1 x2 x3 : Int32) (Q : Int32 → Prop) (hw : wp_X3_landing vS_nexts vM_owners x1 x2 x3 Q) :
  Met l yX3_landing wsX3_landing rm_X3_landing (va_Pc [.ref (ad 8), .int x1, .int x2, .int x3] (PX D (cl_X3_landing ad cs vS_nexts vM_owners) (ty_X3_landing cs) sz)) (vp_Si Q) 0 0 (fun _ => False) := by
  refine Met.ofW (cc := cX3_landing) (maxL := 6) (ret := (some .int)) (by decide) rfl ?_
  intro p e s m args below meth c s₁ B hml hv
  obtain ⟨rfl, hsz, hP, hK, hD0, hN⟩ := hv
  subst hsz
  have hl := lv_entry ([.ref (ad 8), .int x1, .int x2, .int x3]) (n := 6) (Nat.le_of_ble_eq_true rfl)
  rw [lg_entry_eq]
  have hx := B.exec
  have hb := B.bytes
  have hr := B.returns
  exact b_X3_landing l D ad cs vS_nexts vM_owners x1 x2 x3 Q hx hb hml (findClass_of_methodNamed B.named) (atoms_spec (ws := wsX3_landing) B.pre) hN hP hK hD0.self (fun q h => Or.inr h) hl (A := va_A (cl_X3_landing ad cs vS_nexts vM_owners) s.heap.size) (fun r pc ls hq hd => W.iret (v := r) hx hb hr (fun t ht hW => ⟨r, rfl, hq, ht⟩) (fun _ h => nomatch h) hd) hw
abbrev rm_X3_spread : Room := { frames := 3, cells := 0, slots := 0, locals := 67 }
abbrev cl_X3_spread (ad : Nat → Nat) (cs : Nat → ClassId) (vS_nexts vM_owners vR_level vR_queue : Nat → Int32) : va_W := [((ad 1), .inr (5, [.ref (ad 2), .ref (ad 3), .ref (ad 4), .ref (ad 5)])), ((ad 5), .inl ((cs 5), 726, .inl vS_nexts)), ((ad 6), .inr (1, [.ref (ad 1), .ref (ad 7)])), ((ad 7), .inl ((cs 7), 121, .inl vM_owners)), ((ad 8), .inr (3, [.ref (ad 1), .ref (ad 6), .ref (ad 9), .ref (ad 10), .ref (ad 11)])), ((ad 10), .inl ((cs 10), 121, .inl vR_level)), ((ad 11), .inl ((cs 11), 121, .inl vR_queue))]
abbrev ty_X3_spread (cs : Nat → ClassId) : List (ClassId × FieldType) := [((cs 5), .int), ((cs 7), .int), ((cs 10), .int), ((cs 11), .int)]
def wb_X3_spread_2 (K2 : (Nat → Int32) → Prop) (P2 : (Nat → Int32) → Int32 → Prop) (vR_level : Nat → Int32) (x3 : Int32) : Prop :=
 (((121 : Int32) ≤ x3 → K2 vR_level) ∧
 (¬ (121 : Int32) ≤ x3 → (vp_in x3 121 ∧
 P2 (upd vR_level x3.toNatClampNeg (-1 : Int32)) (x3 + (1 : Int32)))))
def wl_X3_spread_2 (K2 : (Nat → Int32) → Prop) (vR_level : Nat → Int32) (x3 : Int32) : Prop := ∀ P2 : (Nat → Int32) → Int32 → Prop, (∀ (vR_level : Nat → Int32) (x3 : Int32), wb_X3_spread_2 K2 P2 vR_level x3 → P2 vR_level x3) → P2 vR_level x3
def wb_X3_spread_73 (vS_nexts vM_owners : Nat → Int32) (x2 x5 : Int32) (K73 : (Nat → Int32) → (Nat → Int32) → Int32 → Prop) (P73 : (Nat → Int32) → (Nat → Int32) → Int32 → Int32 → Prop) (vR_level vR_queue : Nat → Int32) (x3 x6 : Int32) : Prop :=
 (((6 : Int32) ≤ x6 → K73 vR_level vR_queue x3) ∧
 (¬ (6 : Int32) ≤ x6 → wp_X3_landing vS_nexts vM_owners x5 x6 x2 (fun r_4 =>
 ((r_4 = (-1 : Int32) → P73 vR_level vR_queue x3 (x6 + (1 : Int32))) ∧
 (¬ r_4 = (-1 : Int32) → (vp_in r_4 121 ∧
 ((¬ (vR_level r_4.toNatClampNeg) = (-1 : Int32) → P73 vR_level vR_queue x3 (x6 + (1 : Int32))) ∧
 ((vR_level r_4.toNatClampNeg) = (-1 : Int32) → (((121 : Int32) ≤ x3 → P73 vR_level vR_queue x3 (x6 + (1 : Int32))) ∧
 (¬ (121 : Int32) ≤ x3 → (vp_in x5 121 ∧
 (vp_in r_4 121 ∧
 (vp_in x3 121 ∧
 P73 (upd vR_level r_4.toNatClampNeg ((vR_level x5.toNatClampNeg) + (1 : Int32))) (upd vR_queue x3.toNatClampNeg r_4) (x3 + (1 : Int32)) (x6 + (1 : Int32)))))))))))))))
def wl_X3_spread_73 (vS_nexts vM_owners : Nat → Int32) (x2 x5 : Int32) (K73 : (Nat → Int32) → (Nat → Int32) → Int32 → Prop) (vR_level vR_queue : Nat → Int32) (x3 x6 : Int32) : Prop := ∀ P73 : (Nat → Int32) → (Nat → Int32) → Int32 → Int32 → Prop, (∀ (vR_level vR_queue : Nat → Int32) (x3 x6 : Int32), wb_X3_spread_73 vS_nexts vM_owners x2 x5 K73 P73 vR_level vR_queue x3 x6 → P73 vR_level vR_queue x3 x6) → P73 vR_level vR_queue x3 x6
def wb_X3_spread_48 (vS_nexts vM_owners : Nat → Int32) (x2 : Int32) (K48 : (Nat → Int32) → (Nat → Int32) → Prop) (P48 : (Nat → Int32) → (Nat → Int32) → Int32 → Int32 → Prop) (vR_level vR_queue : Nat → Int32) (x3 x4 : Int32) : Prop :=
 ((x3 ≤ x4 → K48 vR_level vR_queue) ∧
 (¬ x3 ≤ x4 → (((121 : Int32) ≤ x4 → K48 vR_level vR_queue) ∧
 (¬ (121 : Int32) ≤ x4 → (vp_in x4 121 ∧
 wl_X3_spread_73 vS_nexts vM_owners x2 (vR_queue x4.toNatClampNeg) (fun vR_level_15 vR_queue_16 x3_17 => P48 vR_level_15 vR_queue_16 x3_17 (x4 + (1 : Int32))) vR_level vR_queue x3 (0 : Int32))))))
def wl_X3_spread_48 (vS_nexts vM_owners : Nat → Int32) (x2 : Int32) (K48 : (Nat → Int32) → (Nat → Int32) → Prop) (vR_level vR_queue : Nat → Int32) (x3 x4 : Int32) : Prop := ∀ P48 : (Nat → Int32) → (Nat → Int32) → Int32 → Int32 → Prop, (∀ (vR_level vR_queue : Nat → Int32) (x3 x4 : Int32), wb_X3_spread_48 vS_nexts vM_owners x2 K48 P48 vR_level vR_queue x3 x4 → P48 vR_level vR_queue x3 x4) → P48 vR_level vR_queue x3 x4
def wp_X3_spread (vS_nexts vM_owners vR_level vR_queue : Nat → Int32) (x1 x2 : Int32) (Q : (Nat → Int32) → (Nat → Int32) → Prop) : Prop :=
 wl_X3_spread_2 (fun vR_level_18 => wp_X6_isCell x1 (fun r_19 =>
 ((¬ r_19 = 0 → (vp_in x1 121 ∧
 (vp_in (0 : Int32) 121 ∧
 wl_X3_spread_48 vS_nexts vM_owners x2 (fun vR_level_23 vR_queue_24 => Q vR_level_23 vR_queue_24) (upd vR_level_18 x1.toNatClampNeg (0 : Int32)) (upd vR_queue (0 : Int32).toNatClampNeg x1) (1 : Int32) (0 : Int32)))) ∧
 (r_19 = 0 → Q vR_level_18 vR_queue)))) vR_level (0 : Int32)
set_option maxHeartbeats 4000000 in
set_option maxRecDepth 100000 in
theorem b_X3_spread {p : Program} {e : Env} {s : State} {m : MethodId} {args : Array Value} {below : List Frame} {meth : Method} {c : Code} {QQ : State → Prop} {A : Nat → Prop} {ls : Array Slot} (l : Launch) (D : va_G) (ad : Nat → Nat) (cs : Nat → ClassId) (vS_nexts vM_owners vR_level vR_queue : Nat → Int32) (x1 x2 : Int32) (Q : (Nat → Int32) → (Nat → Int32) → Prop) (hx : p.tables.exec = Jvm.exec) (hb : c.code = cX3_spread) (hml : c.maxLocals = 8) (hown : s.vm.findClass RX3 = some m.cls) (hts : ∀ w ∈ wsX3_spread, w.before args s = true) (hN : NW s) (hP : va_P D vwCl (cl_X3_spread ad cs vS_nexts vM_owners vR_level vR_queue) s.heap) (hK : va_K D vwCl (ty_X3_spread cs) s) (hD : va_D A (cl_X3_spread ad cs vS_nexts vM_owners vR_level vR_queue)) (hA : ∀ q : Nat, s.heap.size ≤ q → A q) (hl : lv_has ls 8 [(0, .ref (ad 8)), (1, .int x1), (2, .int x2)])
  (hret : ∀ (o0 : Nat → Int32) (o1 : Nat → Int32) (H : Heap) (locs : List Loc) (pc : Nat) (ls : Array Slot), Q o0 o1 → va_P D vwCl (cl_X3_spread ad cs vS_nexts vM_owners o0 o1) H → va_D A (cl_X3_spread ad cs vS_nexts vM_owners o0 o1) → va_S A s.heap H locs → decode cX3_spread pc = .ok (.return_, 1) → W p l e rm_X3_spread s m args below meth c H locs 0 0 QQ (F0 m pc ls []))
  (hw : wp_X3_spread vS_nexts vM_owners vR_level vR_queue x1 x2 Q) :
  W p l e rm_X3_spread s m args below meth c s.heap [] 0 0 QQ (F0 m 0 ls []) := by
  have S0 : CallFix p m c cX3_spread 8 s args wsX3_spread RX3 := ⟨hx, hb, hml, hown, hts⟩
  have inX3 : ∀ w ∈ u_ws RX3 TX3 5, w ∈ wsX3_spread := by decide +kernel
  have fl_15 := hts (.fieldLink RX3 15 "HopperCourt$Reach" "level" "[I") (by decide +kernel)
  have fl_18 := hts (.fieldLink RX3 18 "HopperCourt$Reach" "queue" "[I") (by decide +kernel)
  have hL2 : ∀ (K2 : (Nat → Int32) → Prop) (vR_level : Nat → Int32) (x3 : Int32) (vR_queue : Nat → Int32) (x1 x2 : Int32), wl_X3_spread_2 K2 vR_level x3 → (∀ (vR_level : Nat → Int32), K2 vR_level → ∀ (H : Heap) (locs : List Loc) (ls : Array Slot), va_P D vwCl (cl_X3_spread ad cs vS_nexts vM_owners vR_level vR_queue) H → va_D A (cl_X3_spread ad cs vS_nexts vM_owners vR_level vR_queue) → va_S A s.heap H locs → lv_has ls 8 [(0, .ref (ad 8)), (1, .int x1), (2, .int x2)] → W p l e rm_X3_spread s m args below meth c H locs 0 0 QQ (F0 m 21 ls [])) → ∀ (H : Heap) (locs : List Loc) (ls : Array Slot), va_P D vwCl (cl_X3_spread ad cs vS_nexts vM_owners vR_level vR_queue) H → va_D A (cl_X3_spread ad cs vS_nexts vM_owners vR_level vR_queue) → va_S A s.heap H locs → lv_has ls 8 [(0, .ref (ad 8)), (1, .int x1), (2, .int x2), (3, .int x3)] → W p l e rm_X3_spread s m args below meth c H locs 0 0 QQ (F0 m 2 ls []) := by
    intro K2 vR_level x3 vR_queue x1 x2 hw hK2
    unfold wl_X3_spread_2 at hw
    refine hw (fun (vR_level : Nat → Int32) (x3 : Int32) => ∀ (H : Heap) (locs : List Loc) (ls : Array Slot), va_P D vwCl (cl_X3_spread ad cs vS_nexts vM_owners vR_level vR_queue) H → va_D A (cl_X3_spread ad cs vS_nexts vM_owners vR_level vR_queue) → va_S A s.heap H locs → lv_has ls 8 [(0, .ref (ad 8)), (1, .int x1), (2, .int x2), (3, .int x3)] → W p l e rm_X3_spread s m args below meth c H locs 0 0 QQ (F0 m 2 ls [])) ?_
    intro vR_level x3 hw H locs ls hP hD hS hl
    unfold wb_X3_spread_2 at hw
    refine lv_iload_n hx hb dX3_spread_2 rfl (lv_at hl 3 rfl) ?_
    refine lv_bipush (v := (121 : Int32)) hx hb dX3_spread_3 (by decide) ?_
    refine lv_icmp_ge (tgt := 21) hx hb dX3_spread_5 (by decide) (fun c_1 => ?_) (fun c_1 => ?_)
    · have hw := hw.1 c_1
      exact hK2 vR_level hw _ _ _ hP hD hS (lv_sub hl [0, 1, 2] rfl)
    · have hw := hw.2 c_1
      refine lv_aload_n hx hb dX3_spread_8 rfl (lv_at hl 0 rfl) ?_
      refine va_get (D := D) (ci := 3) (v := .ref (ad 10)) (C := RX3) (T := TX3) (N := 5) hx hb hts inX3 hown hK hP 4 rfl rfl 3 (by decide) fl_15 (fun _ h9 => h9) rfl dX3_spread_9 ?_
      refine lv_iload_n hx hb dX3_spread_12 rfl (lv_at hl 3 rfl) ?_
      refine lv_iconst (v := (-1 : Int32)) hx hb dX3_spread_13 (by decide) ?_
      obtain ⟨h_2, hw⟩ := hw
      refine va_iast hx hb hK hP hD hS 5 2 rfl rfl h_2 dX3_spread_14 (fun H locs hP hD hS => ?_)
      have hP : va_P D vwCl (cl_X3_spread ad cs vS_nexts vM_owners (upd vR_level x3.toNatClampNeg (-1 : Int32)) vR_queue) H := hP
      have hD : va_D A (cl_X3_spread ad cs vS_nexts vM_owners (upd vR_level x3.toNatClampNeg (-1 : Int32)) vR_queue) := hD
      refine lv_iinc (v := (x3 + (1 : Int32))) (lv' := [(3, .int (x3 + (1 : Int32))), (0, .ref (ad 8)), (1, .int x1), (2, .int x2)]) hx hb dX3_spread_15 hl (k := 3) rfl rfl (by decide) rfl (fun ls hl => ?_)
      refine lv_goto (tgt := 2) hx hb dX3_spread_18 (by decide) ?_
      exact hw _ _ _ hP hD hS (lv_sub hl [1, 2, 3, 0] rfl)
  have hL73 : ∀ (x2 x5 : Int32) (K73 : (Nat → Int32) → (Nat → Int32) → Int32 → Prop) (vR_level vR_queue : Nat → Int32) (x3 x6 x4 : Int32), wl_X3_spread_73 vS_nexts vM_owners x2 x5 K73 vR_level vR_queue x3 x6 → (∀ (vR_level vR_queue : Nat → Int32) (x3 : Int32), K73 vR_level vR_queue x3 → ∀ (H : Heap) (locs : List Loc) (ls : Array Slot), va_P D vwCl (cl_X3_spread ad cs vS_nexts vM_owners vR_level vR_queue) H → va_D A (cl_X3_spread ad cs vS_nexts vM_owners vR_level vR_queue) → va_S A s.heap H locs → lv_has ls 8 [(0, .ref (ad 8)), (2, .int x2), (3, .int x3), (4, .int x4)] → W p l e rm_X3_spread s m args below meth c H locs 0 0 QQ (F0 m 147 ls [])) → ∀ (H : Heap) (locs : List Loc) (ls : Array Slot), va_P D vwCl (cl_X3_spread ad cs vS_nexts vM_owners vR_level vR_queue) H → va_D A (cl_X3_spread ad cs vS_nexts vM_owners vR_level vR_queue) → va_S A s.heap H locs → lv_has ls 8 [(0, .ref (ad 8)), (2, .int x2), (3, .int x3), (4, .int x4), (5, .int x5), (6, .int x6)] → W p l e rm_X3_spread s m args below meth c H locs 0 0 QQ (F0 m 73 ls []) := by
    intro x2 x5 K73 vR_level vR_queue x3 x6 x4 hw hK73
    unfold wl_X3_spread_73 at hw
    refine hw (fun (vR_level vR_queue : Nat → Int32) (x3 x6 : Int32) => ∀ (H : Heap) (locs : List Loc) (ls : Array Slot), va_P D vwCl (cl_X3_spread ad cs vS_nexts vM_owners vR_level vR_queue) H → va_D A (cl_X3_spread ad cs vS_nexts vM_owners vR_level vR_queue) → va_S A s.heap H locs → lv_has ls 8 [(0, .ref (ad 8)), (2, .int x2), (3, .int x3), (4, .int x4), (5, .int x5), (6, .int x6)] → W p l e rm_X3_spread s m args below meth c H locs 0 0 QQ (F0 m 73 ls [])) ?_
    intro vR_level vR_queue x3 x6 hw H locs ls hP hD hS hl
    unfold wb_X3_spread_73 at hw
    refine lv_iload hx hb dX3_spread_73 (lv_at hl 5 rfl) ?_
    refine lv_bipush (v := (6 : Int32)) hx hb dX3_spread_75 (by decide) ?_
    refine lv_icmp_ge (tgt := 147) hx hb dX3_spread_77 (by decide) (fun c_3 => ?_) (fun c_3 => ?_)
    · have hw := hw.1 c_3
      exact hK73 vR_level vR_queue x3 hw _ _ _ hP hD hS (lv_sub hl [0, 1, 2, 3] rfl)
    · have hw := hw.2 c_3
      refine lv_aload_n hx hb dX3_spread_80 rfl (lv_at hl 0 rfl) ?_
      refine lv_iload hx hb dX3_spread_81 (lv_at hl 4 rfl) ?_
      refine lv_iload hx hb dX3_spread_83 (lv_at hl 5 rfl) ?_
      refine lv_iload_n hx hb dX3_spread_85 rfl (lv_at hl 1 rfl) ?_
      refine pcV (rest := []) (ci := 3) S0 (c_X3_landing l D ad cs H.size vS_nexts vM_owners x5 x6 x2 _ hw) (cwV 3 hts gX3_spread_X3_landing rfl rfl rfl (by decide +kernel) ⟨Nat.le_of_ble_eq_true rfl, Nat.le_of_ble_eq_true rfl⟩) hN hK hP hD [0, 1, 2, 3, 4] [0, 1] rfl rfl rfl 4 rfl rfl rfl rfl hl.1 (Nat.le_of_ble_eq_true rfl) ⟨Nat.le_of_ble_eq_true rfl, Nat.le_of_ble_eq_true rfl⟩ dX3_spread_86 (fun r_4 hw => ?_)
      refine lv_istore (lv' := [(7, .int r_4), (0, .ref (ad 8)), (2, .int x2), (3, .int x3), (4, .int x4), (5, .int x5), (6, .int x6)]) hx hb dX3_spread_89 hl (by decide) rfl (fun ls hl => ?_)
      refine lv_iload hx hb dX3_spread_91 (lv_at hl 0 rfl) ?_
      refine lv_iconst (v := (-1 : Int32)) hx hb dX3_spread_93 (by decide) ?_
      refine lv_icmp_eq (tgt := 141) hx hb dX3_spread_94 (by decide) (fun c_5 => ?_) (fun c_5 => ?_)
      · have hw := hw.1 c_5
        refine lv_iinc (v := (x6 + (1 : Int32))) (lv' := [(6, .int (x6 + (1 : Int32))), (7, .int r_4), (0, .ref (ad 8)), (2, .int x2), (3, .int x3), (4, .int x4), (5, .int x5)]) hx hb dX3_spread_141 hl (k := 6) rfl rfl (by decide) rfl (fun ls hl => ?_)
        refine lv_goto (tgt := 73) hx hb dX3_spread_144 (by decide) ?_
        exact hw _ _ _ hP hD hS (lv_sub hl [2, 3, 4, 5, 6, 0] rfl)
      · have hw := hw.2 c_5
        refine lv_aload_n hx hb dX3_spread_97 rfl (lv_at hl 1 rfl) ?_
        refine va_get (D := D) (ci := 3) (v := .ref (ad 10)) (C := RX3) (T := TX3) (N := 5) hx hb hts inX3 hown hK hP 4 rfl rfl 3 (by decide) fl_15 (fun _ h9 => h9) rfl dX3_spread_98 ?_
        refine lv_iload hx hb dX3_spread_101 (lv_at hl 0 rfl) ?_
        obtain ⟨h_6, hw⟩ := hw
        refine va_iald hx hb hK hP 5 2 rfl rfl h_6 dX3_spread_103 ?_
        refine lv_iconst (v := (-1 : Int32)) hx hb dX3_spread_104 (by decide) ?_
        refine lv_icmp_ne (tgt := 141) hx hb dX3_spread_105 (by decide) (fun c_7 => ?_) (fun c_7 => ?_)
        · have hw := hw.1 c_7
          refine lv_iinc (v := (x6 + (1 : Int32))) (lv' := [(6, .int (x6 + (1 : Int32))), (7, .int r_4), (0, .ref (ad 8)), (2, .int x2), (3, .int x3), (4, .int x4), (5, .int x5)]) hx hb dX3_spread_141 hl (k := 6) rfl rfl (by decide) rfl (fun ls hl => ?_)
          refine lv_goto (tgt := 73) hx hb dX3_spread_144 (by decide) ?_
          exact hw _ _ _ hP hD hS (lv_sub hl [2, 3, 4, 5, 6, 0] rfl)
        · have hw := hw.2 c_7
          refine lv_iload_n hx hb dX3_spread_108 rfl (lv_at hl 3 rfl) ?_
          refine lv_bipush (v := (121 : Int32)) hx hb dX3_spread_109 (by decide) ?_
          refine lv_icmp_ge (tgt := 141) hx hb dX3_spread_111 (by decide) (fun c_8 => ?_) (fun c_8 => ?_)
          · have hw := hw.1 c_8
            refine lv_iinc (v := (x6 + (1 : Int32))) (lv' := [(6, .int (x6 + (1 : Int32))), (7, .int r_4), (0, .ref (ad 8)), (2, .int x2), (3, .int x3), (4, .int x4), (5, .int x5)]) hx hb dX3_spread_141 hl (k := 6) rfl rfl (by decide) rfl (fun ls hl => ?_)
            refine lv_goto (tgt := 73) hx hb dX3_spread_144 (by decide) ?_
            exact hw _ _ _ hP hD hS (lv_sub hl [2, 3, 4, 5, 6, 0] rfl)
          · have hw := hw.2 c_8
            refine lv_aload_n hx hb dX3_spread_114 rfl (lv_at hl 1 rfl) ?_
            refine va_get (D := D) (ci := 3) (v := .ref (ad 10)) (C := RX3) (T := TX3) (N := 5) hx hb hts inX3 hown hK hP 4 rfl rfl 3 (by decide) fl_15 (fun _ h9 => h9) rfl dX3_spread_115 ?_
            refine lv_iload hx hb dX3_spread_118 (lv_at hl 0 rfl) ?_
            refine lv_aload_n hx hb dX3_spread_120 rfl (lv_at hl 1 rfl) ?_
            refine va_get (D := D) (ci := 3) (v := .ref (ad 10)) (C := RX3) (T := TX3) (N := 5) hx hb hts inX3 hown hK hP 4 rfl rfl 3 (by decide) fl_15 (fun _ h9 => h9) rfl dX3_spread_121 ?_
            refine lv_iload hx hb dX3_spread_124 (lv_at hl 5 rfl) ?_
            obtain ⟨h_9, hw⟩ := hw
            refine va_iald hx hb hK hP 5 2 rfl rfl h_9 dX3_spread_126 ?_
            refine lv_iconst (v := (1 : Int32)) hx hb dX3_spread_127 (by decide) ?_
            refine lv_iadd hx hb dX3_spread_128 ?_
            obtain ⟨h_10, hw⟩ := hw
            refine va_iast hx hb hK hP hD hS 5 2 rfl rfl h_10 dX3_spread_129 (fun H locs hP hD hS => ?_)
            have hP : va_P D vwCl (cl_X3_spread ad cs vS_nexts vM_owners (upd vR_level r_4.toNatClampNeg ((vR_level x5.toNatClampNeg) + (1 : Int32))) vR_queue) H := hP
            have hD : va_D A (cl_X3_spread ad cs vS_nexts vM_owners (upd vR_level r_4.toNatClampNeg ((vR_level x5.toNatClampNeg) + (1 : Int32))) vR_queue) := hD
            refine lv_aload_n hx hb dX3_spread_130 rfl (lv_at hl 1 rfl) ?_
            refine va_get (D := D) (ci := 3) (v := .ref (ad 11)) (C := RX3) (T := TX3) (N := 5) hx hb hts inX3 hown hK hP 4 rfl rfl 4 (by decide) fl_18 (fun _ h9 => h9) rfl dX3_spread_131 ?_
            refine lv_iload_n hx hb dX3_spread_134 rfl (lv_at hl 3 rfl) ?_
            refine lv_iload hx hb dX3_spread_135 (lv_at hl 0 rfl) ?_
            obtain ⟨h_11, hw⟩ := hw
            refine va_iast hx hb hK hP hD hS 6 3 rfl rfl h_11 dX3_spread_137 (fun H locs hP hD hS => ?_)
            have hP : va_P D vwCl (cl_X3_spread ad cs vS_nexts vM_owners (upd vR_level r_4.toNatClampNeg ((vR_level x5.toNatClampNeg) + (1 : Int32))) (upd vR_queue x3.toNatClampNeg r_4)) H := hP
            have hD : va_D A (cl_X3_spread ad cs vS_nexts vM_owners (upd vR_level r_4.toNatClampNeg ((vR_level x5.toNatClampNeg) + (1 : Int32))) (upd vR_queue x3.toNatClampNeg r_4)) := hD
            refine lv_iinc (v := (x3 + (1 : Int32))) (lv' := [(3, .int (x3 + (1 : Int32))), (7, .int r_4), (0, .ref (ad 8)), (2, .int x2), (4, .int x4), (5, .int x5), (6, .int x6)]) hx hb dX3_spread_138 hl (k := 3) rfl rfl (by decide) rfl (fun ls hl => ?_)
            refine lv_iinc (v := (x6 + (1 : Int32))) (lv' := [(6, .int (x6 + (1 : Int32))), (3, .int (x3 + (1 : Int32))), (7, .int r_4), (0, .ref (ad 8)), (2, .int x2), (4, .int x4), (5, .int x5)]) hx hb dX3_spread_141 hl (k := 6) rfl rfl (by decide) rfl (fun ls hl => ?_)
            refine lv_goto (tgt := 73) hx hb dX3_spread_144 (by decide) ?_
            exact hw _ _ _ hP hD hS (lv_sub hl [3, 4, 1, 5, 6, 0] rfl)
  have hL48 : ∀ (x2 : Int32) (K48 : (Nat → Int32) → (Nat → Int32) → Prop) (vR_level vR_queue : Nat → Int32) (x3 x4 : Int32), wl_X3_spread_48 vS_nexts vM_owners x2 K48 vR_level vR_queue x3 x4 → (∀ (vR_level vR_queue : Nat → Int32), K48 vR_level vR_queue → ∀ (H : Heap) (locs : List Loc) (ls : Array Slot), va_P D vwCl (cl_X3_spread ad cs vS_nexts vM_owners vR_level vR_queue) H → va_D A (cl_X3_spread ad cs vS_nexts vM_owners vR_level vR_queue) → va_S A s.heap H locs → lv_has ls 8 [] → W p l e rm_X3_spread s m args below meth c H locs 0 0 QQ (F0 m 153 ls [])) → ∀ (H : Heap) (locs : List Loc) (ls : Array Slot), va_P D vwCl (cl_X3_spread ad cs vS_nexts vM_owners vR_level vR_queue) H → va_D A (cl_X3_spread ad cs vS_nexts vM_owners vR_level vR_queue) → va_S A s.heap H locs → lv_has ls 8 [(0, .ref (ad 8)), (2, .int x2), (3, .int x3), (4, .int x4)] → W p l e rm_X3_spread s m args below meth c H locs 0 0 QQ (F0 m 48 ls []) := by
    intro x2 K48 vR_level vR_queue x3 x4 hw hK48
    unfold wl_X3_spread_48 at hw
    refine hw (fun (vR_level vR_queue : Nat → Int32) (x3 x4 : Int32) => ∀ (H : Heap) (locs : List Loc) (ls : Array Slot), va_P D vwCl (cl_X3_spread ad cs vS_nexts vM_owners vR_level vR_queue) H → va_D A (cl_X3_spread ad cs vS_nexts vM_owners vR_level vR_queue) → va_S A s.heap H locs → lv_has ls 8 [(0, .ref (ad 8)), (2, .int x2), (3, .int x3), (4, .int x4)] → W p l e rm_X3_spread s m args below meth c H locs 0 0 QQ (F0 m 48 ls [])) ?_
    intro vR_level vR_queue x3 x4 hw H locs ls hP hD hS hl
    unfold wb_X3_spread_48 at hw
    refine lv_iload hx hb dX3_spread_48 (lv_at hl 3 rfl) ?_
    refine lv_iload_n hx hb dX3_spread_50 rfl (lv_at hl 2 rfl) ?_
    refine lv_icmp_ge (tgt := 153) hx hb dX3_spread_51 (by decide) (fun c_12 => ?_) (fun c_12 => ?_)
    · have hw := hw.1 c_12
      exact hK48 vR_level vR_queue hw _ _ _ hP hD hS (lv_sub hl [] rfl)
    · have hw := hw.2 c_12
      refine lv_iload hx hb dX3_spread_54 (lv_at hl 3 rfl) ?_
      refine lv_bipush (v := (121 : Int32)) hx hb dX3_spread_56 (by decide) ?_
      refine lv_icmp_ge (tgt := 153) hx hb dX3_spread_58 (by decide) (fun c_13 => ?_) (fun c_13 => ?_)
      · have hw := hw.1 c_13
        exact hK48 vR_level vR_queue hw _ _ _ hP hD hS (lv_sub hl [] rfl)
      · have hw := hw.2 c_13
        refine lv_aload_n hx hb dX3_spread_61 rfl (lv_at hl 0 rfl) ?_
        refine va_get (D := D) (ci := 3) (v := .ref (ad 11)) (C := RX3) (T := TX3) (N := 5) hx hb hts inX3 hown hK hP 4 rfl rfl 4 (by decide) fl_18 (fun _ h9 => h9) rfl dX3_spread_62 ?_
        refine lv_iload hx hb dX3_spread_65 (lv_at hl 3 rfl) ?_
        obtain ⟨h_14, hw⟩ := hw
        refine va_iald hx hb hK hP 6 3 rfl rfl h_14 dX3_spread_67 ?_
        refine lv_istore (lv' := [(5, .int (vR_queue x4.toNatClampNeg)), (0, .ref (ad 8)), (2, .int x2), (3, .int x3), (4, .int x4)]) hx hb dX3_spread_68 hl (by decide) rfl (fun ls hl => ?_)
        refine lv_iconst (v := (0 : Int32)) hx hb dX3_spread_70 (by decide) ?_
        refine lv_istore (lv' := [(6, .int (0 : Int32)), (5, .int (vR_queue x4.toNatClampNeg)), (0, .ref (ad 8)), (2, .int x2), (3, .int x3), (4, .int x4)]) hx hb dX3_spread_71 hl (by decide) rfl (fun ls hl => ?_)
        refine hL73 x2 (vR_queue x4.toNatClampNeg) _ vR_level vR_queue x3 (0 : Int32) _ hw ?_ _ _ _ hP hD hS (lv_sub hl [2, 3, 4, 5, 1, 0] rfl)
        intro vR_level_15 vR_queue_16 x3_17 hw H locs ls hP hD hS hl
        refine lv_iinc (v := (x4 + (1 : Int32))) (lv' := [(4, .int (x4 + (1 : Int32))), (0, .ref (ad 8)), (2, .int x2), (3, .int x3_17)]) hx hb dX3_spread_147 hl (k := 3) rfl rfl (by decide) rfl (fun ls hl => ?_)
        refine lv_goto (tgt := 48) hx hb dX3_spread_150 (by decide) ?_
        exact hw _ _ _ hP hD hS (lv_sub hl [1, 2, 3, 0] rfl)
  obtain ⟨H, hH⟩ : ∃ H : Heap, H = s.heap := ⟨_, rfl⟩
  have hS : va_S A s.heap H [] := by rw [hH]; exact va_S.rf
  rw [← hH] at hP ⊢
  unfold wp_X3_spread at hw
  refine lv_iconst (v := (0 : Int32)) hx hb dX3_spread_0 (by decide) ?_
  refine lv_istore_n (lv' := [(3, .int (0 : Int32)), (0, .ref (ad 8)), (1, .int x1), (2, .int x2)]) hx hb dX3_spread_1 rfl hl (by decide) rfl (fun ls hl => ?_)
  refine hL2 _ vR_level (0 : Int32) _ _ _ hw ?_ _ _ _ hP hD hS (lv_sub hl [1, 2, 3, 0] rfl)
  intro vR_level_18 hw H locs ls hP hD hS hl
  refine lv_iload_n hx hb dX3_spread_21 rfl (lv_at hl 1 rfl) ?_
  refine pcSN (rest := []) S0 (c_X6_isCell l D ad cs H.size x1 _ hw) ⟨va_cnB (host := RX6) 1 hts gX3_spread_X6_isCell_n53 rfl rfl rfl hN.2.2.1 (hts (.initialized RX6) (by decide +kernel)) (by decide +kernel) ⟨Nat.le_of_ble_eq_true rfl, Nat.le_of_ble_eq_true rfl⟩, hts (.static yX6_isCell) (by decide +kernel), trivial⟩ hN hK hP hD [] [] rfl rfl rfl rfl rfl hl.1 (Nat.le_of_ble_eq_true rfl) ⟨Nat.le_of_ble_eq_true rfl, Nat.le_of_ble_eq_true rfl⟩ dX3_spread_22 (fun r_19 hw => ?_)
  refine lv_if_ne (tgt := 29) hx hb dX3_spread_25 (by decide) (fun c_20 => ?_) (fun c_20 => ?_)
  · have hw := hw.1 c_20
    refine lv_aload_n hx hb dX3_spread_29 rfl (lv_at hl 0 rfl) ?_
    refine va_get (D := D) (ci := 3) (v := .ref (ad 10)) (C := RX3) (T := TX3) (N := 5) hx hb hts inX3 hown hK hP 4 rfl rfl 3 (by decide) fl_15 (fun _ h9 => h9) rfl dX3_spread_30 ?_
    refine lv_iload_n hx hb dX3_spread_33 rfl (lv_at hl 1 rfl) ?_
    refine lv_iconst (v := (0 : Int32)) hx hb dX3_spread_34 (by decide) ?_
    obtain ⟨h_21, hw⟩ := hw
    refine va_iast hx hb hK hP hD hS 5 2 rfl rfl h_21 dX3_spread_35 (fun H locs hP hD hS => ?_)
    have hP : va_P D vwCl (cl_X3_spread ad cs vS_nexts vM_owners (upd vR_level_18 x1.toNatClampNeg (0 : Int32)) vR_queue) H := hP
    have hD : va_D A (cl_X3_spread ad cs vS_nexts vM_owners (upd vR_level_18 x1.toNatClampNeg (0 : Int32)) vR_queue) := hD
    refine lv_aload_n hx hb dX3_spread_36 rfl (lv_at hl 0 rfl) ?_
    refine va_get (D := D) (ci := 3) (v := .ref (ad 11)) (C := RX3) (T := TX3) (N := 5) hx hb hts inX3 hown hK hP 4 rfl rfl 4 (by decide) fl_18 (fun _ h9 => h9) rfl dX3_spread_37 ?_
    refine lv_iconst (v := (0 : Int32)) hx hb dX3_spread_40 (by decide) ?_
    refine lv_iload_n hx hb dX3_spread_41 rfl (lv_at hl 1 rfl) ?_
    obtain ⟨h_22, hw⟩ := hw
    refine va_iast hx hb hK hP hD hS 6 3 rfl rfl h_22 dX3_spread_42 (fun H locs hP hD hS => ?_)
    have hP : va_P D vwCl (cl_X3_spread ad cs vS_nexts vM_owners (upd vR_level_18 x1.toNatClampNeg (0 : Int32)) (upd vR_queue (0 : Int32).toNatClampNeg x1)) H := hP
    have hD : va_D A (cl_X3_spread ad cs vS_nexts vM_owners (upd vR_level_18 x1.toNatClampNeg (0 : Int32)) (upd vR_queue (0 : Int32).toNatClampNeg x1)) := hD
    refine lv_iconst (v := (1 : Int32)) hx hb dX3_spread_43 (by decide) ?_
    refine lv_istore_n (lv' := [(3, .int (1 : Int32)), (0, .ref (ad 8)), (1, .int x1), (2, .int x2)]) hx hb dX3_spread_44 rfl hl (by decide) rfl (fun ls hl => ?_)
    refine lv_iconst (v := (0 : Int32)) hx hb dX3_spread_45 (by decide) ?_
    refine lv_istore (lv' := [(4, .int (0 : Int32)), (3, .int (1 : Int32)), (0, .ref (ad 8)), (1, .int x1), (2, .int x2)]) hx hb dX3_spread_46 hl (by decide) rfl (fun ls hl => ?_)
    refine hL48 x2 _ (upd vR_level_18 x1.toNatClampNeg (0 : Int32)) (upd vR_queue (0 : Int32).toNatClampNeg x1) (1 : Int32) (0 : Int32) hw ?_ _ _ _ hP hD hS (lv_sub hl [2, 4, 1, 0] rfl)
    intro vR_level_23 vR_queue_24 hw H locs ls hP hD hS hl
    exact hret _ _ _ _ _ _ hw hP hD hS dX3_spread_153
  · have hw := hw.2 c_20
    exact hret _ _ _ _ _ _ hw hP hD hS dX3_spread_28
set_option maxHeartbeats 4000000 in
set_option maxRecDepth 100000 in
theorem c_X3_spread (l : Launch) (D : va_G) (ad : Nat → Nat) (cs : Nat → ClassId) (sz : Nat) (vS_nexts vM_owners vR_level vR_queue : Nat → Int32) (x1 x2 : Int32) (Q : (Nat → Int32) → (Nat → Int32) → Prop) (hw : wp_X3_spread vS_nexts vM_owners vR_level vR_queue x1 x2 Q) :
  Met l yX3_spread wsX3_spread rm_X3_spread (va_Pc [.ref (ad 8), .int x1, .int x2] (PX D (cl_X3_spread ad cs vS_nexts vM_owners vR_level vR_queue) (ty_X3_spread cs) sz)) (va_Qv (fun (u : (Nat → Int32) × (Nat → Int32)) => Q u.1 u.2) (fun (u : (Nat → Int32) × (Nat → Int32)) t => va_P D vwCl (cl_X3_spread ad cs vS_nexts vM_owners u.1 u.2) t.heap ∧ va_D (va_A (cl_X3_spread ad cs vS_nexts vM_owners vR_level vR_queue) sz) (cl_X3_spread ad cs vS_nexts vM_owners u.1 u.2)) (va_A (cl_X3_spread ad cs vS_nexts vM_owners vR_level vR_queue) sz)) 0 0 (va_A (cl_X3_spread ad cs vS_nexts vM_owners vR_level vR_queue) sz) := by
  refine Met.ofW (cc := cX3_spread) (maxL := 8) (ret := none) (by decide) rfl ?_
  intro p e s m args below meth c s₁ B hml hv
  obtain ⟨rfl, hsz, hP, hK, hD0, hN⟩ := hv
  subst hsz
  have hl := lv_entry ([.ref (ad 8), .int x1, .int x2]) (n := 8) (Nat.le_of_ble_eq_true rfl)
  rw [lg_entry_eq]
  have hx := B.exec
  have hb := B.bytes
  have hr := B.returns
  exact b_X3_spread l D ad cs vS_nexts vM_owners vR_level vR_queue x1 x2 Q hx hb hml (findClass_of_methodNamed B.named) (atoms_spec (ws := wsX3_spread) B.pre) hN hP hK hD0.self (fun q h => Or.inr h) hl (fun o0 o1 H locs pc ls hq hP hD hS hd => W.vret hx hb hr (fun t ht hW => ⟨⟨(o0, o1), rfl, hq, by rw [ht]; exact hP, hD⟩, hS.F ht⟩) hS.2.2 hd) hw
abbrev rm_X6_goalOf : Room := { frames := 0, cells := 0, slots := 0, locals := 0 }
abbrev cl_X6_goalOf (ad : Nat → Nat) (cs : Nat → ClassId)  : va_W := []
abbrev ty_X6_goalOf (cs : Nat → ClassId) : List (ClassId × FieldType) := []
def wp_X6_goalOf (x0 : Int32) (Q : Int32 → Prop) : Prop :=
 Q ((x0 + (3 : Int32)) - (x0 + (3 : Int32)) / (6 : Int32) * (6 : Int32))
set_option maxHeartbeats 4000000 in
set_option maxRecDepth 100000 in
theorem b_X6_goalOf {p : Program} {e : Env} {s : State} {m : MethodId} {args : Array Value} {below : List Frame} {meth : Method} {c : Code} {QQ : State → Prop} {A : Nat → Prop} {ls : Array Slot} (l : Launch) (D : va_G) (ad : Nat → Nat) (cs : Nat → ClassId) (x0 : Int32) (Q : Int32 → Prop) (hx : p.tables.exec = Jvm.exec) (hb : c.code = cX6_goalOf) (hml : c.maxLocals = 1) (hown : s.vm.findClass RX6 = some m.cls) (hts : ∀ w ∈ wsX6_goalOf, w.before args s = true) (hN : NW s) (hP : va_P D vwCl (cl_X6_goalOf ad cs) s.heap) (hK : va_K D vwCl (ty_X6_goalOf cs) s) (hD : va_D A (cl_X6_goalOf ad cs)) (hA : ∀ q : Nat, s.heap.size ≤ q → A q) (hl : lv_has ls 1 [(0, .int x0)])
  (hret : ∀ (r : Int32) (pc : Nat) (ls : Array Slot), Q r → decode cX6_goalOf pc = .ok (.ireturn, 1) → W p l e rm_X6_goalOf s m args below meth c s.heap [] 0 0 QQ (F0 m pc ls [.int r]))
  (hw : wp_X6_goalOf x0 Q) :
  W p l e rm_X6_goalOf s m args below meth c s.heap [] 0 0 QQ (F0 m 0 ls []) := by
  have S0 : CallFix p m c cX6_goalOf 1 s args wsX6_goalOf RX6 := ⟨hx, hb, hml, hown, hts⟩
  unfold wp_X6_goalOf at hw
  refine lv_iload_n hx hb dX6_goalOf_0 rfl (lv_at hl 0 rfl) ?_
  refine lv_iconst (v := (3 : Int32)) hx hb dX6_goalOf_1 (by decide) ?_
  refine lv_iadd hx hb dX6_goalOf_2 ?_
  refine lv_bipush (v := (6 : Int32)) hx hb dX6_goalOf_3 (by decide) ?_
  refine lv_irem hx hb dX6_goalOf_5 (by decide) ?_
  exact hret _ _ _ hw dX6_goalOf_6
set_option maxHeartbeats 4000000 in
set_option maxRecDepth 100000 in
theorem c_X6_goalOf (l : Launch) (D : va_G) (ad : Nat → Nat) (cs : Nat → ClassId) (sz : Nat) (x0 : Int32) (Q : Int32 → Prop) (hw : wp_X6_goalOf x0 Q) :
  Met l yX6_goalOf wsX6_goalOf rm_X6_goalOf (va_Pc [.int x0] (PX D (cl_X6_goalOf ad cs) (ty_X6_goalOf cs) sz)) (vp_Si Q) 0 0 (fun _ => False) := by
  refine Met.ofW (cc := cX6_goalOf) (maxL := 1) (ret := (some .int)) (by decide) rfl ?_
  intro p e s m args below meth c s₁ B hml hv
  obtain ⟨rfl, hsz, hP, hK, hD0, hN⟩ := hv
  subst hsz
  have hl := lv_entry ([.int x0]) (n := 1) (Nat.le_of_ble_eq_true rfl)
  rw [lg_entry_eq]
  have hx := B.exec
  have hb := B.bytes
  have hr := B.returns
  exact b_X6_goalOf l D ad cs x0 Q hx hb hml (findClass_of_methodNamed B.named) (atoms_spec (ws := wsX6_goalOf) B.pre) hN hP hK hD0.self (fun q h => Or.inr h) hl (A := va_A (cl_X6_goalOf ad cs) s.heap.size) (fun r pc ls hq hd => W.iret (v := r) hx hb hr (fun t ht hW => ⟨r, rfl, hq, ht⟩) (fun _ h => nomatch h) hd) hw
abbrev rm_X3_mayEnd : Room := { frames := 2, cells := 0, slots := 0, locals := 41 }
abbrev cl_X3_mayEnd (ad : Nat → Nat) (cs : Nat → ClassId) (vS_camps : Nat → Int32) : va_W := [((ad 1), .inr (5, [.ref (ad 2), .ref (ad 3), .ref (ad 4), .ref (ad 5)])), ((ad 4), .inl ((cs 4), 121, .inl vS_camps)), ((ad 8), .inr (3, [.ref (ad 1), .ref (ad 6), .ref (ad 9), .ref (ad 10), .ref (ad 11)]))]
abbrev ty_X3_mayEnd (cs : Nat → ClassId) : List (ClassId × FieldType) := [((cs 4), .int)]
def wp_X3_mayEnd (vS_camps : Nat → Int32) (x1 x2 x3 : Int32) (Q : Int32 → Prop) : Prop :=
 wp_X6_goalOf x1 (fun r_1 =>
 wp_X5_camp vS_camps x3 (fun r_2 =>
 wp_X5_camp vS_camps x2 (fun r_3 =>
 ((¬ r_3 = r_1 → ((r_2 = (-1 : Int32) → Q (1 : Int32)) ∧
 (¬ r_2 = (-1 : Int32) → ((r_2 = x1 → Q (1 : Int32)) ∧
 (¬ r_2 = x1 → ((¬ r_2 = r_1 → Q (0 : Int32)) ∧
 (r_2 = r_1 → Q (1 : Int32)))))))) ∧
 (r_3 = r_1 → ((¬ r_2 = r_1 → Q (0 : Int32)) ∧
 (r_2 = r_1 → Q (1 : Int32))))))))
set_option maxHeartbeats 4000000 in
set_option maxRecDepth 100000 in
theorem b_X3_mayEnd {p : Program} {e : Env} {s : State} {m : MethodId} {args : Array Value} {below : List Frame} {meth : Method} {c : Code} {QQ : State → Prop} {A : Nat → Prop} {ls : Array Slot} (l : Launch) (D : va_G) (ad : Nat → Nat) (cs : Nat → ClassId) (vS_camps : Nat → Int32) (x1 x2 x3 : Int32) (Q : Int32 → Prop) (hx : p.tables.exec = Jvm.exec) (hb : c.code = cX3_mayEnd) (hml : c.maxLocals = 6) (hown : s.vm.findClass RX3 = some m.cls) (hts : ∀ w ∈ wsX3_mayEnd, w.before args s = true) (hN : NW s) (hP : va_P D vwCl (cl_X3_mayEnd ad cs vS_camps) s.heap) (hK : va_K D vwCl (ty_X3_mayEnd cs) s) (hD : va_D A (cl_X3_mayEnd ad cs vS_camps)) (hA : ∀ q : Nat, s.heap.size ≤ q → A q) (hl : lv_has ls 6 [(0, .ref (ad 8)), (1, .int x1), (2, .int x2), (3, .int x3)])
  (hret : ∀ (r : Int32) (pc : Nat) (ls : Array Slot), nb r → Q r → decode cX3_mayEnd pc = .ok (.ireturn, 1) → W p l e rm_X3_mayEnd s m args below meth c s.heap [] 0 0 QQ (F0 m pc ls [.int r]))
  (hw : wp_X3_mayEnd vS_camps x1 x2 x3 Q) :
  W p l e rm_X3_mayEnd s m args below meth c s.heap [] 0 0 QQ (F0 m 0 ls []) := by
  have S0 : CallFix p m c cX3_mayEnd 6 s args wsX3_mayEnd RX3 := ⟨hx, hb, hml, hown, hts⟩
  have inX3 : ∀ w ∈ u_ws RX3 TX3 5, w ∈ wsX3_mayEnd := by decide +kernel
  have fl_21 := hts (.fieldLink RX3 21 "HopperCourt$Reach" "star" "LHopperCourt$Star;") (by decide +kernel)
  unfold wp_X3_mayEnd at hw
  refine lv_iload_n hx hb dX3_mayEnd_0 rfl (lv_at hl 1 rfl) ?_
  refine pcSN (rest := []) S0 (c_X6_goalOf l D ad cs s.heap.size x1 _ hw) ⟨va_cnB (host := RX6) 1 hts gX3_mayEnd_X6_goalOf_n63 rfl rfl rfl hN.2.2.2.1 (hts (.initialized RX6) (by decide +kernel)) (by decide +kernel) ⟨Nat.le_of_ble_eq_true rfl, Nat.le_of_ble_eq_true rfl⟩, hts (.static yX6_goalOf) (by decide +kernel), trivial⟩ hN hK hP hD [] [] rfl rfl rfl rfl rfl hl.1 (Nat.le_of_ble_eq_true rfl) ⟨Nat.le_of_ble_eq_true rfl, Nat.le_of_ble_eq_true rfl⟩ dX3_mayEnd_1 (fun r_1 hw => ?_)
  refine lv_istore (lv' := [(4, .int r_1), (0, .ref (ad 8)), (1, .int x1), (2, .int x2), (3, .int x3)]) hx hb dX3_mayEnd_4 hl (by decide) rfl (fun ls hl => ?_)
  refine lv_aload_n hx hb dX3_mayEnd_6 rfl (lv_at hl 1 rfl) ?_
  refine va_get (D := D) (ci := 3) (v := .ref (ad 1)) (C := RX3) (T := TX3) (N := 5) hx hb hts inX3 hown hK hP 2 rfl rfl 0 (by decide) fl_21 (fun _ h9 => h9) rfl dX3_mayEnd_7 ?_
  refine lv_iload_n hx hb dX3_mayEnd_10 rfl (lv_at hl 4 rfl) ?_
  refine pcV (rest := []) (ci := 5) S0 (c_X5_camp l D ad cs s.heap.size vS_camps x3 _ hw) (cwV 1 hts gX3_mayEnd_X5_camp rfl rfl rfl (by decide +kernel) ⟨Nat.le_of_ble_eq_true rfl, Nat.le_of_ble_eq_true rfl⟩) hN hK hP hD [0, 1] [0] rfl rfl rfl 0 rfl rfl rfl rfl hl.1 (Nat.le_of_ble_eq_true rfl) ⟨Nat.le_of_ble_eq_true rfl, Nat.le_of_ble_eq_true rfl⟩ dX3_mayEnd_11 (fun r_2 hw => ?_)
  refine lv_istore (lv' := [(5, .int r_2), (4, .int r_1), (0, .ref (ad 8)), (1, .int x1), (2, .int x2), (3, .int x3)]) hx hb dX3_mayEnd_14 hl (by decide) rfl (fun ls hl => ?_)
  refine lv_aload_n hx hb dX3_mayEnd_16 rfl (lv_at hl 2 rfl) ?_
  refine va_get (D := D) (ci := 3) (v := .ref (ad 1)) (C := RX3) (T := TX3) (N := 5) hx hb hts inX3 hown hK hP 2 rfl rfl 0 (by decide) fl_21 (fun _ h9 => h9) rfl dX3_mayEnd_17 ?_
  refine lv_iload_n hx hb dX3_mayEnd_20 rfl (lv_at hl 4 rfl) ?_
  refine pcV (rest := []) (ci := 5) S0 (c_X5_camp l D ad cs s.heap.size vS_camps x2 _ hw) (cwV 1 hts gX3_mayEnd_X5_camp rfl rfl rfl (by decide +kernel) ⟨Nat.le_of_ble_eq_true rfl, Nat.le_of_ble_eq_true rfl⟩) hN hK hP hD [0, 1] [0] rfl rfl rfl 0 rfl rfl rfl rfl hl.1 (Nat.le_of_ble_eq_true rfl) ⟨Nat.le_of_ble_eq_true rfl, Nat.le_of_ble_eq_true rfl⟩ dX3_mayEnd_21 (fun r_3 hw => ?_)
  refine lv_iload hx hb dX3_mayEnd_24 (lv_at hl 1 rfl) ?_
  refine lv_icmp_ne (tgt := 42) hx hb dX3_mayEnd_26 (by decide) (fun c_4 => ?_) (fun c_4 => ?_)
  · have hw := hw.1 c_4
    refine lv_iload hx hb dX3_mayEnd_42 (lv_at hl 0 rfl) ?_
    refine lv_iconst (v := (-1 : Int32)) hx hb dX3_mayEnd_44 (by decide) ?_
    refine lv_icmp_eq (tgt := 61) hx hb dX3_mayEnd_45 (by decide) (fun c_5 => ?_) (fun c_5 => ?_)
    · have hw := hw.1 c_5
      refine lv_iconst (v := (1 : Int32)) hx hb dX3_mayEnd_61 (by decide) ?_
      refine lv_goto (tgt := 66) hx hb dX3_mayEnd_62 (by decide) ?_
      exact hret _ _ _ nb_1 hw dX3_mayEnd_66
    · have hw := hw.2 c_5
      refine lv_iload hx hb dX3_mayEnd_48 (lv_at hl 0 rfl) ?_
      refine lv_iload_n hx hb dX3_mayEnd_50 rfl (lv_at hl 3 rfl) ?_
      refine lv_icmp_eq (tgt := 61) hx hb dX3_mayEnd_51 (by decide) (fun c_6 => ?_) (fun c_6 => ?_)
      · have hw := hw.1 c_6
        refine lv_iconst (v := (1 : Int32)) hx hb dX3_mayEnd_61 (by decide) ?_
        refine lv_goto (tgt := 66) hx hb dX3_mayEnd_62 (by decide) ?_
        exact hret _ _ _ nb_1 hw dX3_mayEnd_66
      · have hw := hw.2 c_6
        refine lv_iload hx hb dX3_mayEnd_54 (lv_at hl 0 rfl) ?_
        refine lv_iload hx hb dX3_mayEnd_56 (lv_at hl 1 rfl) ?_
        refine lv_icmp_ne (tgt := 65) hx hb dX3_mayEnd_58 (by decide) (fun c_7 => ?_) (fun c_7 => ?_)
        · have hw := hw.1 c_7
          refine lv_iconst (v := (0 : Int32)) hx hb dX3_mayEnd_65 (by decide) ?_
          exact hret _ _ _ nb_0 hw dX3_mayEnd_66
        · have hw := hw.2 c_7
          refine lv_iconst (v := (1 : Int32)) hx hb dX3_mayEnd_61 (by decide) ?_
          refine lv_goto (tgt := 66) hx hb dX3_mayEnd_62 (by decide) ?_
          exact hret _ _ _ nb_1 hw dX3_mayEnd_66
  · have hw := hw.2 c_4
    refine lv_iload hx hb dX3_mayEnd_29 (lv_at hl 0 rfl) ?_
    refine lv_iload hx hb dX3_mayEnd_31 (lv_at hl 1 rfl) ?_
    refine lv_icmp_ne (tgt := 40) hx hb dX3_mayEnd_33 (by decide) (fun c_8 => ?_) (fun c_8 => ?_)
    · have hw := hw.1 c_8
      refine lv_iconst (v := (0 : Int32)) hx hb dX3_mayEnd_40 (by decide) ?_
      exact hret _ _ _ nb_0 hw dX3_mayEnd_41
    · have hw := hw.2 c_8
      refine lv_iconst (v := (1 : Int32)) hx hb dX3_mayEnd_36 (by decide) ?_
      refine lv_goto (tgt := 41) hx hb dX3_mayEnd_37 (by decide) ?_
      exact hret _ _ _ nb_1 hw dX3_mayEnd_41
set_option maxHeartbeats 4000000 in
set_option maxRecDepth 100000 in
theorem c_X3_mayEnd (l : Launch) (D : va_G) (ad : Nat → Nat) (cs : Nat → ClassId) (sz : Nat) (vS_camps : Nat → Int32) (x1 x2 x3 : Int32) (Q : Int32 → Prop) (hw : wp_X3_mayEnd vS_camps x1 x2 x3 Q) :
  Met l yX3_mayEnd wsX3_mayEnd rm_X3_mayEnd (va_Pc [.ref (ad 8), .int x1, .int x2, .int x3] (PX D (cl_X3_mayEnd ad cs vS_camps) (ty_X3_mayEnd cs) sz)) (vp_Si Q) 0 0 (fun _ => False) := by
  refine Met.ofW (cc := cX3_mayEnd) (maxL := 6) (ret := (some .boolean)) (by decide) rfl ?_
  intro p e s m args below meth c s₁ B hml hv
  obtain ⟨rfl, hsz, hP, hK, hD0, hN⟩ := hv
  subst hsz
  have hl := lv_entry ([.ref (ad 8), .int x1, .int x2, .int x3]) (n := 6) (Nat.le_of_ble_eq_true rfl)
  rw [lg_entry_eq]
  have hx := B.exec
  have hb := B.bytes
  have hr := B.returns
  exact b_X3_mayEnd l D ad cs vS_camps x1 x2 x3 Q hx hb hml (findClass_of_methodNamed B.named) (atoms_spec (ws := wsX3_mayEnd) B.pre) hN hP hK hD0.self (fun q h => Or.inr h) hl (A := va_A (cl_X3_mayEnd ad cs vS_camps) s.heap.size) (fun r pc ls hn hq hd => W.zret (v := r) hx hb hr hn (fun t ht hW => ⟨r, rfl, hq, ht⟩) (fun _ h => nomatch h) hd) hw
abbrev rm_X3_search : Room := { frames := 4, cells := 0, slots := 0, locals := 94 }
abbrev cl_X3_search (ad : Nat → Nat) (cs : Nat → ClassId) (vS_camps vS_nexts vM_owners vR_hopsToEnd vR_level vR_queue : Nat → Int32) : va_W := [((ad 1), .inr (5, [.ref (ad 2), .ref (ad 3), .ref (ad 4), .ref (ad 5)])), ((ad 4), .inl ((cs 4), 121, .inl vS_camps)), ((ad 5), .inl ((cs 5), 726, .inl vS_nexts)), ((ad 6), .inr (1, [.ref (ad 1), .ref (ad 7)])), ((ad 7), .inl ((cs 7), 121, .inl vM_owners)), ((ad 8), .inr (3, [.ref (ad 1), .ref (ad 6), .ref (ad 9), .ref (ad 10), .ref (ad 11)])), ((ad 9), .inl ((cs 9), 121, .inl vR_hopsToEnd)), ((ad 10), .inl ((cs 10), 121, .inl vR_level)), ((ad 11), .inl ((cs 11), 121, .inl vR_queue))]
abbrev ty_X3_search (cs : Nat → ClassId) : List (ClassId × FieldType) := [((cs 4), .int), ((cs 5), .int), ((cs 7), .int), ((cs 9), .int), ((cs 10), .int), ((cs 11), .int)]
def wb_X3_search_19 (K19 : (Nat → Int32) → Prop) (P19 : (Nat → Int32) → Int32 → Prop) (vR_hopsToEnd : Nat → Int32) (x3 : Int32) : Prop :=
 (((121 : Int32) ≤ x3 → K19 vR_hopsToEnd) ∧
 (¬ (121 : Int32) ≤ x3 → (vp_in x3 121 ∧
 P19 (upd vR_hopsToEnd x3.toNatClampNeg (-1 : Int32)) (x3 + (1 : Int32)))))
def wl_X3_search_19 (K19 : (Nat → Int32) → Prop) (vR_hopsToEnd : Nat → Int32) (x3 : Int32) : Prop := ∀ P19 : (Nat → Int32) → Int32 → Prop, (∀ (vR_hopsToEnd : Nat → Int32) (x3 : Int32), wb_X3_search_19 K19 P19 vR_hopsToEnd x3 → P19 vR_hopsToEnd x3) → P19 vR_hopsToEnd x3
def wJ_X3_search_99 (vR_hopsToEnd : Nat → Int32) (x3 t1 t2 : Int32) (P47 : (Nat → Int32) → Int32 → Prop) : Prop :=
 (vp_in t1 121 ∧
 P47 (upd vR_hopsToEnd t1.toNatClampNeg t2) (x3 + (1 : Int32)))
def wJ_X3_search_77 (vR_hopsToEnd vR_level : Nat → Int32) (x3 t0 : Int32) (P47 : (Nat → Int32) → Int32 → Prop) : Prop :=
 ((t0 = 0 → wJ_X3_search_99 vR_hopsToEnd x3 x3 (-1 : Int32) P47) ∧
 (¬ t0 = 0 → (vp_in x3 121 ∧
 wJ_X3_search_99 vR_hopsToEnd x3 x3 (vR_level x3.toNatClampNeg) P47)))
def wb_X3_search_47 (vS_camps vR_level : Nat → Int32) (x1 x2 : Int32) (K47 : (Nat → Int32) → Prop) (P47 : (Nat → Int32) → Int32 → Prop) (vR_hopsToEnd : Nat → Int32) (x3 : Int32) : Prop :=
 (((121 : Int32) ≤ x3 → K47 vR_hopsToEnd) ∧
 (¬ (121 : Int32) ≤ x3 → (vp_in x3 121 ∧
 (((vR_level x3.toNatClampNeg) ≤ 0 → wJ_X3_search_77 vR_hopsToEnd vR_level x3 (0 : Int32) P47) ∧
 (¬ (vR_level x3.toNatClampNeg) ≤ 0 → wp_X3_mayEnd vS_camps x1 x2 x3 (fun r_9 =>
 ((r_9 = 0 → wJ_X3_search_77 vR_hopsToEnd vR_level x3 (0 : Int32) P47) ∧
 (¬ r_9 = 0 → wJ_X3_search_77 vR_hopsToEnd vR_level x3 (1 : Int32) P47))))))))
def wl_X3_search_47 (vS_camps vR_level : Nat → Int32) (x1 x2 : Int32) (K47 : (Nat → Int32) → Prop) (vR_hopsToEnd : Nat → Int32) (x3 : Int32) : Prop := ∀ P47 : (Nat → Int32) → Int32 → Prop, (∀ (vR_hopsToEnd : Nat → Int32) (x3 : Int32), wb_X3_search_47 vS_camps vR_level x1 x2 K47 P47 vR_hopsToEnd x3 → P47 vR_hopsToEnd x3) → P47 vR_hopsToEnd x3
def wb_X3_search_108 (vS_camps vS_nexts vM_owners : Nat → Int32) (x1 x2 : Int32) (K108 : (Nat → Int32) → Prop) (P108 : (Nat → Int32) → Int32 → Prop) (vR_hopsToEnd : Nat → Int32) (x3 : Int32) : Prop :=
 (((6 : Int32) ≤ x3 → K108 vR_hopsToEnd) ∧
 (¬ (6 : Int32) ≤ x3 → wp_X5_next vS_nexts x2 x3 (fun r_12 =>
 wp_X1_isEmpty vM_owners r_12 (fun r_13 =>
 ((r_13 = 0 → P108 vR_hopsToEnd (x3 + (1 : Int32))) ∧
 (¬ r_13 = 0 → wp_X3_mayEnd vS_camps x1 x2 r_12 (fun r_15 =>
 ((r_15 = 0 → P108 vR_hopsToEnd (x3 + (1 : Int32))) ∧
 (¬ r_15 = 0 → (vp_in r_12 121 ∧
 P108 (upd vR_hopsToEnd r_12.toNatClampNeg (0 : Int32)) (x3 + (1 : Int32))))))))))))
def wl_X3_search_108 (vS_camps vS_nexts vM_owners : Nat → Int32) (x1 x2 : Int32) (K108 : (Nat → Int32) → Prop) (vR_hopsToEnd : Nat → Int32) (x3 : Int32) : Prop := ∀ P108 : (Nat → Int32) → Int32 → Prop, (∀ (vR_hopsToEnd : Nat → Int32) (x3 : Int32), wb_X3_search_108 vS_camps vS_nexts vM_owners x1 x2 K108 P108 vR_hopsToEnd x3 → P108 vR_hopsToEnd x3) → P108 vR_hopsToEnd x3
def wp_X3_search (vS_camps vS_nexts vM_owners vR_hopsToEnd vR_level vR_queue : Nat → Int32) (x1 x2 : Int32) (Q : (Nat → Int32) → (Nat → Int32) → (Nat → Int32) → Prop) : Prop :=
 ((x1 = (-1 : Int32) → wl_X3_search_19 (fun vR_hopsToEnd_19 => Q vR_hopsToEnd_19 vR_level vR_queue) vR_hopsToEnd (0 : Int32)) ∧
 (¬ x1 = (-1 : Int32) → wp_X1_owner vM_owners x2 (fun r_20 =>
 ((r_20 = x1 → wp_X3_spread vS_nexts vM_owners vR_level vR_queue x2 x2 (fun vR_level_22 vR_queue_23 =>
 wl_X3_search_47 vS_camps vR_level_22 x1 x2 (fun vR_hopsToEnd_24 => wl_X3_search_108 vS_camps vS_nexts vM_owners x1 x2 (fun vR_hopsToEnd_25 => Q vR_hopsToEnd_25 vR_level_22 vR_queue_23) vR_hopsToEnd_24 (0 : Int32)) vR_hopsToEnd (0 : Int32))) ∧
 (¬ r_20 = x1 → wl_X3_search_19 (fun vR_hopsToEnd_26 => Q vR_hopsToEnd_26 vR_level vR_queue) vR_hopsToEnd (0 : Int32))))))
set_option maxHeartbeats 4000000 in
set_option maxRecDepth 100000 in
theorem b_X3_search {p : Program} {e : Env} {s : State} {m : MethodId} {args : Array Value} {below : List Frame} {meth : Method} {c : Code} {QQ : State → Prop} {A : Nat → Prop} {ls : Array Slot} (l : Launch) (D : va_G) (ad : Nat → Nat) (cs : Nat → ClassId) (vS_camps vS_nexts vM_owners vR_hopsToEnd vR_level vR_queue : Nat → Int32) (x1 x2 : Int32) (Q : (Nat → Int32) → (Nat → Int32) → (Nat → Int32) → Prop) (hx : p.tables.exec = Jvm.exec) (hb : c.code = cX3_search) (hml : c.maxLocals = 5) (hown : s.vm.findClass RX3 = some m.cls) (hts : ∀ w ∈ wsX3_search, w.before args s = true) (hN : NW s) (hP : va_P D vwCl (cl_X3_search ad cs vS_camps vS_nexts vM_owners vR_hopsToEnd vR_level vR_queue) s.heap) (hK : va_K D vwCl (ty_X3_search cs) s) (hD : va_D A (cl_X3_search ad cs vS_camps vS_nexts vM_owners vR_hopsToEnd vR_level vR_queue)) (hA : ∀ q : Nat, s.heap.size ≤ q → A q) (hl : lv_has ls 5 [(0, .ref (ad 8)), (1, .int x1), (2, .int x2)])
  (hret : ∀ (o0 : Nat → Int32) (o1 : Nat → Int32) (o2 : Nat → Int32) (H : Heap) (locs : List Loc) (pc : Nat) (ls : Array Slot), Q o0 o1 o2 → va_P D vwCl (cl_X3_search ad cs vS_camps vS_nexts vM_owners o0 o1 o2) H → va_D A (cl_X3_search ad cs vS_camps vS_nexts vM_owners o0 o1 o2) → va_S A s.heap H locs → decode cX3_search pc = .ok (.return_, 1) → W p l e rm_X3_search s m args below meth c H locs 0 0 QQ (F0 m pc ls []))
  (hw : wp_X3_search vS_camps vS_nexts vM_owners vR_hopsToEnd vR_level vR_queue x1 x2 Q) :
  W p l e rm_X3_search s m args below meth c s.heap [] 0 0 QQ (F0 m 0 ls []) := by
  have S0 : CallFix p m c cX3_search 5 s args wsX3_search RX3 := ⟨hx, hb, hml, hown, hts⟩
  have inX3 : ∀ w ∈ u_ws RX3 TX3 5, w ∈ wsX3_search := by decide +kernel
  have fl_15 := hts (.fieldLink RX3 15 "HopperCourt$Reach" "level" "[I") (by decide +kernel)
  have fl_21 := hts (.fieldLink RX3 21 "HopperCourt$Reach" "star" "LHopperCourt$Star;") (by decide +kernel)
  have fl_25 := hts (.fieldLink RX3 25 "HopperCourt$Reach" "marbles" "LHopperCourt$Marbles;") (by decide +kernel)
  have fl_9 := hts (.fieldLink RX3 9 "HopperCourt$Reach" "hopsToEnd" "[I") (by decide +kernel)
  have hL19 : ∀ (K19 : (Nat → Int32) → Prop) (vR_hopsToEnd : Nat → Int32) (x3 : Int32) (vR_level vR_queue : Nat → Int32), wl_X3_search_19 K19 vR_hopsToEnd x3 → (∀ (vR_hopsToEnd : Nat → Int32), K19 vR_hopsToEnd → ∀ (H : Heap) (locs : List Loc) (ls : Array Slot), va_P D vwCl (cl_X3_search ad cs vS_camps vS_nexts vM_owners vR_hopsToEnd vR_level vR_queue) H → va_D A (cl_X3_search ad cs vS_camps vS_nexts vM_owners vR_hopsToEnd vR_level vR_queue) → va_S A s.heap H locs → lv_has ls 5 [] → W p l e rm_X3_search s m args below meth c H locs 0 0 QQ (F0 m 38 ls [])) → ∀ (H : Heap) (locs : List Loc) (ls : Array Slot), va_P D vwCl (cl_X3_search ad cs vS_camps vS_nexts vM_owners vR_hopsToEnd vR_level vR_queue) H → va_D A (cl_X3_search ad cs vS_camps vS_nexts vM_owners vR_hopsToEnd vR_level vR_queue) → va_S A s.heap H locs → lv_has ls 5 [(0, .ref (ad 8)), (3, .int x3)] → W p l e rm_X3_search s m args below meth c H locs 0 0 QQ (F0 m 19 ls []) := by
    intro K19 vR_hopsToEnd x3 vR_level vR_queue hw hK19
    unfold wl_X3_search_19 at hw
    refine hw (fun (vR_hopsToEnd : Nat → Int32) (x3 : Int32) => ∀ (H : Heap) (locs : List Loc) (ls : Array Slot), va_P D vwCl (cl_X3_search ad cs vS_camps vS_nexts vM_owners vR_hopsToEnd vR_level vR_queue) H → va_D A (cl_X3_search ad cs vS_camps vS_nexts vM_owners vR_hopsToEnd vR_level vR_queue) → va_S A s.heap H locs → lv_has ls 5 [(0, .ref (ad 8)), (3, .int x3)] → W p l e rm_X3_search s m args below meth c H locs 0 0 QQ (F0 m 19 ls [])) ?_
    intro vR_hopsToEnd x3 hw H locs ls hP hD hS hl
    unfold wb_X3_search_19 at hw
    refine lv_iload_n hx hb dX3_search_19 rfl (lv_at hl 1 rfl) ?_
    refine lv_bipush (v := (121 : Int32)) hx hb dX3_search_20 (by decide) ?_
    refine lv_icmp_ge (tgt := 38) hx hb dX3_search_22 (by decide) (fun c_1 => ?_) (fun c_1 => ?_)
    · have hw := hw.1 c_1
      exact hK19 vR_hopsToEnd hw _ _ _ hP hD hS (lv_sub hl [] rfl)
    · have hw := hw.2 c_1
      refine lv_aload_n hx hb dX3_search_25 rfl (lv_at hl 0 rfl) ?_
      refine va_get (D := D) (ci := 3) (v := .ref (ad 9)) (C := RX3) (T := TX3) (N := 5) hx hb hts inX3 hown hK hP 5 rfl rfl 2 (by decide) fl_9 (fun _ h9 => h9) rfl dX3_search_26 ?_
      refine lv_iload_n hx hb dX3_search_29 rfl (lv_at hl 1 rfl) ?_
      refine lv_iconst (v := (-1 : Int32)) hx hb dX3_search_30 (by decide) ?_
      obtain ⟨h_2, hw⟩ := hw
      refine va_iast hx hb hK hP hD hS 6 3 rfl rfl h_2 dX3_search_31 (fun H locs hP hD hS => ?_)
      have hP : va_P D vwCl (cl_X3_search ad cs vS_camps vS_nexts vM_owners (upd vR_hopsToEnd x3.toNatClampNeg (-1 : Int32)) vR_level vR_queue) H := hP
      have hD : va_D A (cl_X3_search ad cs vS_camps vS_nexts vM_owners (upd vR_hopsToEnd x3.toNatClampNeg (-1 : Int32)) vR_level vR_queue) := hD
      refine lv_iinc (v := (x3 + (1 : Int32))) (lv' := [(3, .int (x3 + (1 : Int32))), (0, .ref (ad 8))]) hx hb dX3_search_32 hl (k := 1) rfl rfl (by decide) rfl (fun ls hl => ?_)
      refine lv_goto (tgt := 19) hx hb dX3_search_35 (by decide) ?_
      exact hw _ _ _ hP hD hS (lv_sub hl [1, 0] rfl)
  have hJ99 : ∀ (vR_hopsToEnd : Nat → Int32) (x3 t1 t2 : Int32) (P47 : (Nat → Int32) → Int32 → Prop) (vR_level vR_queue : Nat → Int32) (x1 x2 : Int32), wJ_X3_search_99 vR_hopsToEnd x3 t1 t2 P47 → (∀ (vR_hopsToEnd : Nat → Int32) (x3 : Int32), P47 vR_hopsToEnd x3 → ∀ (H : Heap) (locs : List Loc) (ls : Array Slot), va_P D vwCl (cl_X3_search ad cs vS_camps vS_nexts vM_owners vR_hopsToEnd vR_level vR_queue) H → va_D A (cl_X3_search ad cs vS_camps vS_nexts vM_owners vR_hopsToEnd vR_level vR_queue) → va_S A s.heap H locs → lv_has ls 5 [(0, .ref (ad 8)), (1, .int x1), (2, .int x2), (3, .int x3)] → W p l e rm_X3_search s m args below meth c H locs 0 0 QQ (F0 m 47 ls [])) → ∀ (H : Heap) (locs : List Loc) (ls : Array Slot), va_P D vwCl (cl_X3_search ad cs vS_camps vS_nexts vM_owners vR_hopsToEnd vR_level vR_queue) H → va_D A (cl_X3_search ad cs vS_camps vS_nexts vM_owners vR_hopsToEnd vR_level vR_queue) → va_S A s.heap H locs → lv_has ls 5 [(0, .ref (ad 8)), (1, .int x1), (2, .int x2), (3, .int x3)] → W p l e rm_X3_search s m args below meth c H locs 0 0 QQ (F0 m 99 ls [.int t2, .int t1, .ref (ad 9)]) := by
    intro vR_hopsToEnd x3 t1 t2 P47 vR_level vR_queue x1 x2 hw hB47 H locs ls hP hD hS hl
    unfold wJ_X3_search_99 at hw
    obtain ⟨h_3, hw⟩ := hw
    refine va_iast hx hb hK hP hD hS 6 3 rfl rfl h_3 dX3_search_99 (fun H locs hP hD hS => ?_)
    have hP : va_P D vwCl (cl_X3_search ad cs vS_camps vS_nexts vM_owners (upd vR_hopsToEnd t1.toNatClampNeg t2) vR_level vR_queue) H := hP
    have hD : va_D A (cl_X3_search ad cs vS_camps vS_nexts vM_owners (upd vR_hopsToEnd t1.toNatClampNeg t2) vR_level vR_queue) := hD
    refine lv_iinc (v := (x3 + (1 : Int32))) (lv' := [(3, .int (x3 + (1 : Int32))), (0, .ref (ad 8)), (1, .int x1), (2, .int x2)]) hx hb dX3_search_100 hl (k := 3) rfl rfl (by decide) rfl (fun ls hl => ?_)
    refine lv_goto (tgt := 47) hx hb dX3_search_103 (by decide) ?_
    exact hB47 (upd vR_hopsToEnd t1.toNatClampNeg t2) (x3 + (1 : Int32)) hw _ _ _ hP hD hS (lv_sub hl [1, 2, 3, 0] rfl)
  have hJ77 : ∀ (vR_hopsToEnd vR_level : Nat → Int32) (x3 t0 : Int32) (P47 : (Nat → Int32) → Int32 → Prop) (vR_queue : Nat → Int32) (x1 x2 : Int32), wJ_X3_search_77 vR_hopsToEnd vR_level x3 t0 P47 → (∀ (vR_hopsToEnd : Nat → Int32) (x3 : Int32), P47 vR_hopsToEnd x3 → ∀ (H : Heap) (locs : List Loc) (ls : Array Slot), va_P D vwCl (cl_X3_search ad cs vS_camps vS_nexts vM_owners vR_hopsToEnd vR_level vR_queue) H → va_D A (cl_X3_search ad cs vS_camps vS_nexts vM_owners vR_hopsToEnd vR_level vR_queue) → va_S A s.heap H locs → lv_has ls 5 [(0, .ref (ad 8)), (1, .int x1), (2, .int x2), (3, .int x3)] → W p l e rm_X3_search s m args below meth c H locs 0 0 QQ (F0 m 47 ls [])) → ∀ (H : Heap) (locs : List Loc) (ls : Array Slot), va_P D vwCl (cl_X3_search ad cs vS_camps vS_nexts vM_owners vR_hopsToEnd vR_level vR_queue) H → va_D A (cl_X3_search ad cs vS_camps vS_nexts vM_owners vR_hopsToEnd vR_level vR_queue) → va_S A s.heap H locs → lv_has ls 5 [(0, .ref (ad 8)), (1, .int x1), (2, .int x2), (3, .int x3)] → W p l e rm_X3_search s m args below meth c H locs 0 0 QQ (F0 m 77 ls [.int t0]) := by
    intro vR_hopsToEnd vR_level x3 t0 P47 vR_queue x1 x2 hw hB47 H locs ls hP hD hS hl
    unfold wJ_X3_search_77 at hw
    refine lv_istore (lv' := [(4, .int t0), (0, .ref (ad 8)), (1, .int x1), (2, .int x2), (3, .int x3)]) hx hb dX3_search_77 hl (by decide) rfl (fun ls hl => ?_)
    refine lv_aload_n hx hb dX3_search_79 rfl (lv_at hl 1 rfl) ?_
    refine va_get (D := D) (ci := 3) (v := .ref (ad 9)) (C := RX3) (T := TX3) (N := 5) hx hb hts inX3 hown hK hP 5 rfl rfl 2 (by decide) fl_9 (fun _ h9 => h9) rfl dX3_search_80 ?_
    refine lv_iload_n hx hb dX3_search_83 rfl (lv_at hl 4 rfl) ?_
    refine lv_iload hx hb dX3_search_84 (lv_at hl 0 rfl) ?_
    refine lv_if_eq (tgt := 98) hx hb dX3_search_86 (by decide) (fun c_4 => ?_) (fun c_4 => ?_)
    · have hw := hw.1 c_4
      refine lv_iconst (v := (-1 : Int32)) hx hb dX3_search_98 (by decide) ?_
      exact hJ99 vR_hopsToEnd x3 x3 (-1 : Int32) _ _ _ _ _ hw hB47 _ _ _ hP hD hS (lv_sub hl [1, 2, 3, 4] rfl)
    · have hw := hw.2 c_4
      refine lv_aload_n hx hb dX3_search_89 rfl (lv_at hl 1 rfl) ?_
      refine va_get (D := D) (ci := 3) (v := .ref (ad 10)) (C := RX3) (T := TX3) (N := 5) hx hb hts inX3 hown hK hP 5 rfl rfl 3 (by decide) fl_15 (fun _ h9 => h9) rfl dX3_search_90 ?_
      refine lv_iload_n hx hb dX3_search_93 rfl (lv_at hl 4 rfl) ?_
      obtain ⟨h_5, hw⟩ := hw
      refine va_iald hx hb hK hP 7 4 rfl rfl h_5 dX3_search_94 ?_
      refine lv_goto (tgt := 99) hx hb dX3_search_95 (by decide) ?_
      exact hJ99 vR_hopsToEnd x3 x3 (vR_level x3.toNatClampNeg) _ _ _ _ _ hw hB47 _ _ _ hP hD hS (lv_sub hl [1, 2, 3, 4] rfl)
  have hL47 : ∀ (vR_level : Nat → Int32) (x1 x2 : Int32) (K47 : (Nat → Int32) → Prop) (vR_hopsToEnd : Nat → Int32) (x3 : Int32) (vR_queue : Nat → Int32), wl_X3_search_47 vS_camps vR_level x1 x2 K47 vR_hopsToEnd x3 → (∀ (vR_hopsToEnd : Nat → Int32), K47 vR_hopsToEnd → ∀ (H : Heap) (locs : List Loc) (ls : Array Slot), va_P D vwCl (cl_X3_search ad cs vS_camps vS_nexts vM_owners vR_hopsToEnd vR_level vR_queue) H → va_D A (cl_X3_search ad cs vS_camps vS_nexts vM_owners vR_hopsToEnd vR_level vR_queue) → va_S A s.heap H locs → lv_has ls 5 [(0, .ref (ad 8)), (1, .int x1), (2, .int x2)] → W p l e rm_X3_search s m args below meth c H locs 0 0 QQ (F0 m 106 ls [])) → ∀ (H : Heap) (locs : List Loc) (ls : Array Slot), va_P D vwCl (cl_X3_search ad cs vS_camps vS_nexts vM_owners vR_hopsToEnd vR_level vR_queue) H → va_D A (cl_X3_search ad cs vS_camps vS_nexts vM_owners vR_hopsToEnd vR_level vR_queue) → va_S A s.heap H locs → lv_has ls 5 [(0, .ref (ad 8)), (1, .int x1), (2, .int x2), (3, .int x3)] → W p l e rm_X3_search s m args below meth c H locs 0 0 QQ (F0 m 47 ls []) := by
    intro vR_level x1 x2 K47 vR_hopsToEnd x3 vR_queue hw hK47
    unfold wl_X3_search_47 at hw
    refine hw (fun (vR_hopsToEnd : Nat → Int32) (x3 : Int32) => ∀ (H : Heap) (locs : List Loc) (ls : Array Slot), va_P D vwCl (cl_X3_search ad cs vS_camps vS_nexts vM_owners vR_hopsToEnd vR_level vR_queue) H → va_D A (cl_X3_search ad cs vS_camps vS_nexts vM_owners vR_hopsToEnd vR_level vR_queue) → va_S A s.heap H locs → lv_has ls 5 [(0, .ref (ad 8)), (1, .int x1), (2, .int x2), (3, .int x3)] → W p l e rm_X3_search s m args below meth c H locs 0 0 QQ (F0 m 47 ls [])) ?_
    intro vR_hopsToEnd x3 hw H locs ls hP hD hS hl
    unfold wb_X3_search_47 at hw
    refine lv_iload_n hx hb dX3_search_47 rfl (lv_at hl 3 rfl) ?_
    refine lv_bipush (v := (121 : Int32)) hx hb dX3_search_48 (by decide) ?_
    refine lv_icmp_ge (tgt := 106) hx hb dX3_search_50 (by decide) (fun c_6 => ?_) (fun c_6 => ?_)
    · have hw := hw.1 c_6
      exact hK47 vR_hopsToEnd hw _ _ _ hP hD hS (lv_sub hl [0, 1, 2] rfl)
    · have hw := hw.2 c_6
      refine lv_aload_n hx hb dX3_search_53 rfl (lv_at hl 0 rfl) ?_
      refine va_get (D := D) (ci := 3) (v := .ref (ad 10)) (C := RX3) (T := TX3) (N := 5) hx hb hts inX3 hown hK hP 5 rfl rfl 3 (by decide) fl_15 (fun _ h9 => h9) rfl dX3_search_54 ?_
      refine lv_iload_n hx hb dX3_search_57 rfl (lv_at hl 3 rfl) ?_
      obtain ⟨h_7, hw⟩ := hw
      refine va_iald hx hb hK hP 7 4 rfl rfl h_7 dX3_search_58 ?_
      refine lv_if_le (tgt := 76) hx hb dX3_search_59 (by decide) (fun c_8 => ?_) (fun c_8 => ?_)
      · have hw := hw.1 c_8
        refine lv_iconst (v := (0 : Int32)) hx hb dX3_search_76 (by decide) ?_
        exact hJ77 vR_hopsToEnd vR_level x3 (0 : Int32) _ _ _ _ hw (fun _ _ h => h) _ _ _ hP hD hS (lv_sub hl [0, 1, 2, 3] rfl)
      · have hw := hw.2 c_8
        refine lv_aload_n hx hb dX3_search_62 rfl (lv_at hl 0 rfl) ?_
        refine lv_iload_n hx hb dX3_search_63 rfl (lv_at hl 1 rfl) ?_
        refine lv_iload_n hx hb dX3_search_64 rfl (lv_at hl 2 rfl) ?_
        refine lv_iload_n hx hb dX3_search_65 rfl (lv_at hl 3 rfl) ?_
        refine pcV (rest := []) (ci := 3) S0 (c_X3_mayEnd l D ad cs H.size vS_camps x1 x2 x3 _ hw) (cwV 3 hts gX3_search_X3_mayEnd rfl rfl rfl (by decide +kernel) ⟨Nat.le_of_ble_eq_true rfl, Nat.le_of_ble_eq_true rfl⟩) hN hK hP hD [0, 1, 5] [0] rfl rfl rfl 5 rfl rfl rfl rfl hl.1 (Nat.le_of_ble_eq_true rfl) ⟨Nat.le_of_ble_eq_true rfl, Nat.le_of_ble_eq_true rfl⟩ dX3_search_66 (fun r_9 hw => ?_)
        refine lv_if_eq (tgt := 76) hx hb dX3_search_69 (by decide) (fun c_10 => ?_) (fun c_10 => ?_)
        · have hw := hw.1 c_10
          refine lv_iconst (v := (0 : Int32)) hx hb dX3_search_76 (by decide) ?_
          exact hJ77 vR_hopsToEnd vR_level x3 (0 : Int32) _ _ _ _ hw (fun _ _ h => h) _ _ _ hP hD hS (lv_sub hl [0, 1, 2, 3] rfl)
        · have hw := hw.2 c_10
          refine lv_iconst (v := (1 : Int32)) hx hb dX3_search_72 (by decide) ?_
          refine lv_goto (tgt := 77) hx hb dX3_search_73 (by decide) ?_
          exact hJ77 vR_hopsToEnd vR_level x3 (1 : Int32) _ _ _ _ hw (fun _ _ h => h) _ _ _ hP hD hS (lv_sub hl [0, 1, 2, 3] rfl)
  have hL108 : ∀ (x1 x2 : Int32) (K108 : (Nat → Int32) → Prop) (vR_hopsToEnd : Nat → Int32) (x3 : Int32) (vR_level vR_queue : Nat → Int32), wl_X3_search_108 vS_camps vS_nexts vM_owners x1 x2 K108 vR_hopsToEnd x3 → (∀ (vR_hopsToEnd : Nat → Int32), K108 vR_hopsToEnd → ∀ (H : Heap) (locs : List Loc) (ls : Array Slot), va_P D vwCl (cl_X3_search ad cs vS_camps vS_nexts vM_owners vR_hopsToEnd vR_level vR_queue) H → va_D A (cl_X3_search ad cs vS_camps vS_nexts vM_owners vR_hopsToEnd vR_level vR_queue) → va_S A s.heap H locs → lv_has ls 5 [] → W p l e rm_X3_search s m args below meth c H locs 0 0 QQ (F0 m 162 ls [])) → ∀ (H : Heap) (locs : List Loc) (ls : Array Slot), va_P D vwCl (cl_X3_search ad cs vS_camps vS_nexts vM_owners vR_hopsToEnd vR_level vR_queue) H → va_D A (cl_X3_search ad cs vS_camps vS_nexts vM_owners vR_hopsToEnd vR_level vR_queue) → va_S A s.heap H locs → lv_has ls 5 [(0, .ref (ad 8)), (1, .int x1), (2, .int x2), (3, .int x3)] → W p l e rm_X3_search s m args below meth c H locs 0 0 QQ (F0 m 108 ls []) := by
    intro x1 x2 K108 vR_hopsToEnd x3 vR_level vR_queue hw hK108
    unfold wl_X3_search_108 at hw
    refine hw (fun (vR_hopsToEnd : Nat → Int32) (x3 : Int32) => ∀ (H : Heap) (locs : List Loc) (ls : Array Slot), va_P D vwCl (cl_X3_search ad cs vS_camps vS_nexts vM_owners vR_hopsToEnd vR_level vR_queue) H → va_D A (cl_X3_search ad cs vS_camps vS_nexts vM_owners vR_hopsToEnd vR_level vR_queue) → va_S A s.heap H locs → lv_has ls 5 [(0, .ref (ad 8)), (1, .int x1), (2, .int x2), (3, .int x3)] → W p l e rm_X3_search s m args below meth c H locs 0 0 QQ (F0 m 108 ls [])) ?_
    intro vR_hopsToEnd x3 hw H locs ls hP hD hS hl
    unfold wb_X3_search_108 at hw
    refine lv_iload_n hx hb dX3_search_108 rfl (lv_at hl 3 rfl) ?_
    refine lv_bipush (v := (6 : Int32)) hx hb dX3_search_109 (by decide) ?_
    refine lv_icmp_ge (tgt := 162) hx hb dX3_search_111 (by decide) (fun c_11 => ?_) (fun c_11 => ?_)
    · have hw := hw.1 c_11
      exact hK108 vR_hopsToEnd hw _ _ _ hP hD hS (lv_sub hl [] rfl)
    · have hw := hw.2 c_11
      refine lv_aload_n hx hb dX3_search_114 rfl (lv_at hl 0 rfl) ?_
      refine va_get (D := D) (ci := 3) (v := .ref (ad 1)) (C := RX3) (T := TX3) (N := 5) hx hb hts inX3 hown hK hP 5 rfl rfl 0 (by decide) fl_21 (fun _ h9 => h9) rfl dX3_search_115 ?_
      refine lv_iload_n hx hb dX3_search_118 rfl (lv_at hl 2 rfl) ?_
      refine lv_iload_n hx hb dX3_search_119 rfl (lv_at hl 3 rfl) ?_
      refine pcV (rest := []) (ci := 5) S0 (c_X5_next l D ad cs H.size vS_nexts x2 x3 _ hw) (cwV 2 hts gX3_search_X5_next rfl rfl rfl (by decide +kernel) ⟨Nat.le_of_ble_eq_true rfl, Nat.le_of_ble_eq_true rfl⟩) hN hK hP hD [0, 2] [1] rfl rfl rfl 0 rfl rfl rfl rfl hl.1 (Nat.le_of_ble_eq_true rfl) ⟨Nat.le_of_ble_eq_true rfl, Nat.le_of_ble_eq_true rfl⟩ dX3_search_120 (fun r_12 hw => ?_)
      refine lv_istore (lv' := [(4, .int r_12), (0, .ref (ad 8)), (1, .int x1), (2, .int x2), (3, .int x3)]) hx hb dX3_search_123 hl (by decide) rfl (fun ls hl => ?_)
      refine lv_aload_n hx hb dX3_search_125 rfl (lv_at hl 1 rfl) ?_
      refine va_get (D := D) (ci := 3) (v := .ref (ad 6)) (C := RX3) (T := TX3) (N := 5) hx hb hts inX3 hown hK hP 5 rfl rfl 1 (by decide) fl_25 (fun _ h9 => h9) rfl dX3_search_126 ?_
      refine lv_iload hx hb dX3_search_129 (lv_at hl 0 rfl) ?_
      refine pcV (rest := []) (ci := 1) S0 (c_X1_isEmpty l D ad cs H.size vM_owners r_12 _ hw) (cwV 1 hts gX3_search_X1_isEmpty rfl rfl rfl (by decide +kernel) ⟨Nat.le_of_ble_eq_true rfl, Nat.le_of_ble_eq_true rfl⟩) hN hK hP hD [3, 4] [2] rfl rfl rfl 3 rfl rfl rfl rfl hl.1 (Nat.le_of_ble_eq_true rfl) ⟨Nat.le_of_ble_eq_true rfl, Nat.le_of_ble_eq_true rfl⟩ dX3_search_131 (fun r_13 hw => ?_)
      refine lv_if_eq (tgt := 156) hx hb dX3_search_134 (by decide) (fun c_14 => ?_) (fun c_14 => ?_)
      · have hw := hw.1 c_14
        refine lv_iinc (v := (x3 + (1 : Int32))) (lv' := [(3, .int (x3 + (1 : Int32))), (4, .int r_12), (0, .ref (ad 8)), (1, .int x1), (2, .int x2)]) hx hb dX3_search_156 hl (k := 4) rfl rfl (by decide) rfl (fun ls hl => ?_)
        refine lv_goto (tgt := 108) hx hb dX3_search_159 (by decide) ?_
        exact hw _ _ _ hP hD hS (lv_sub hl [2, 3, 4, 0] rfl)
      · have hw := hw.2 c_14
        refine lv_aload_n hx hb dX3_search_137 rfl (lv_at hl 1 rfl) ?_
        refine lv_iload_n hx hb dX3_search_138 rfl (lv_at hl 2 rfl) ?_
        refine lv_iload_n hx hb dX3_search_139 rfl (lv_at hl 3 rfl) ?_
        refine lv_iload hx hb dX3_search_140 (lv_at hl 0 rfl) ?_
        refine pcV (rest := []) (ci := 3) S0 (c_X3_mayEnd l D ad cs H.size vS_camps x1 x2 r_12 _ hw) (cwV 3 hts gX3_search_X3_mayEnd rfl rfl rfl (by decide +kernel) ⟨Nat.le_of_ble_eq_true rfl, Nat.le_of_ble_eq_true rfl⟩) hN hK hP hD [0, 1, 5] [0] rfl rfl rfl 5 rfl rfl rfl rfl hl.1 (Nat.le_of_ble_eq_true rfl) ⟨Nat.le_of_ble_eq_true rfl, Nat.le_of_ble_eq_true rfl⟩ dX3_search_142 (fun r_15 hw => ?_)
        refine lv_if_eq (tgt := 156) hx hb dX3_search_145 (by decide) (fun c_16 => ?_) (fun c_16 => ?_)
        · have hw := hw.1 c_16
          refine lv_iinc (v := (x3 + (1 : Int32))) (lv' := [(3, .int (x3 + (1 : Int32))), (4, .int r_12), (0, .ref (ad 8)), (1, .int x1), (2, .int x2)]) hx hb dX3_search_156 hl (k := 4) rfl rfl (by decide) rfl (fun ls hl => ?_)
          refine lv_goto (tgt := 108) hx hb dX3_search_159 (by decide) ?_
          exact hw _ _ _ hP hD hS (lv_sub hl [2, 3, 4, 0] rfl)
        · have hw := hw.2 c_16
          refine lv_aload_n hx hb dX3_search_148 rfl (lv_at hl 1 rfl) ?_
          refine va_get (D := D) (ci := 3) (v := .ref (ad 9)) (C := RX3) (T := TX3) (N := 5) hx hb hts inX3 hown hK hP 5 rfl rfl 2 (by decide) fl_9 (fun _ h9 => h9) rfl dX3_search_149 ?_
          refine lv_iload hx hb dX3_search_152 (lv_at hl 0 rfl) ?_
          refine lv_iconst (v := (0 : Int32)) hx hb dX3_search_154 (by decide) ?_
          obtain ⟨h_17, hw⟩ := hw
          refine va_iast hx hb hK hP hD hS 6 3 rfl rfl h_17 dX3_search_155 (fun H locs hP hD hS => ?_)
          have hP : va_P D vwCl (cl_X3_search ad cs vS_camps vS_nexts vM_owners (upd vR_hopsToEnd r_12.toNatClampNeg (0 : Int32)) vR_level vR_queue) H := hP
          have hD : va_D A (cl_X3_search ad cs vS_camps vS_nexts vM_owners (upd vR_hopsToEnd r_12.toNatClampNeg (0 : Int32)) vR_level vR_queue) := hD
          refine lv_iinc (v := (x3 + (1 : Int32))) (lv' := [(3, .int (x3 + (1 : Int32))), (4, .int r_12), (0, .ref (ad 8)), (1, .int x1), (2, .int x2)]) hx hb dX3_search_156 hl (k := 4) rfl rfl (by decide) rfl (fun ls hl => ?_)
          refine lv_goto (tgt := 108) hx hb dX3_search_159 (by decide) ?_
          exact hw _ _ _ hP hD hS (lv_sub hl [2, 3, 4, 0] rfl)
  obtain ⟨H, hH⟩ : ∃ H : Heap, H = s.heap := ⟨_, rfl⟩
  have hS : va_S A s.heap H [] := by rw [hH]; exact va_S.rf
  rw [← hH] at hP ⊢
  unfold wp_X3_search at hw
  refine lv_iload_n hx hb dX3_search_0 rfl (lv_at hl 1 rfl) ?_
  refine lv_iconst (v := (-1 : Int32)) hx hb dX3_search_1 (by decide) ?_
  refine lv_icmp_eq (tgt := 17) hx hb dX3_search_2 (by decide) (fun c_18 => ?_) (fun c_18 => ?_)
  · have hw := hw.1 c_18
    refine lv_iconst (v := (0 : Int32)) hx hb dX3_search_17 (by decide) ?_
    refine lv_istore_n (lv' := [(3, .int (0 : Int32)), (0, .ref (ad 8)), (1, .int x1), (2, .int x2)]) hx hb dX3_search_18 rfl hl (by decide) rfl (fun ls hl => ?_)
    refine hL19 _ vR_hopsToEnd (0 : Int32) _ _ hw ?_ _ _ _ hP hD hS (lv_sub hl [1, 0] rfl)
    intro vR_hopsToEnd_19 hw H locs ls hP hD hS hl
    exact hret _ _ _ _ _ _ _ hw hP hD hS dX3_search_38
  · have hw := hw.2 c_18
    refine lv_aload_n hx hb dX3_search_5 rfl (lv_at hl 0 rfl) ?_
    refine va_get (D := D) (ci := 3) (v := .ref (ad 6)) (C := RX3) (T := TX3) (N := 5) hx hb hts inX3 hown hK hP 5 rfl rfl 1 (by decide) fl_25 (fun _ h9 => h9) rfl dX3_search_6 ?_
    refine lv_iload_n hx hb dX3_search_9 rfl (lv_at hl 2 rfl) ?_
    refine pcV (rest := []) (ci := 1) S0 (c_X1_owner l D ad cs H.size vM_owners x2 _ hw) (cwV 1 hts gX3_search_X1_owner rfl rfl rfl (by decide +kernel) ⟨Nat.le_of_ble_eq_true rfl, Nat.le_of_ble_eq_true rfl⟩) hN hK hP hD [3, 4] [2] rfl rfl rfl 3 rfl rfl rfl rfl hl.1 (Nat.le_of_ble_eq_true rfl) ⟨Nat.le_of_ble_eq_true rfl, Nat.le_of_ble_eq_true rfl⟩ dX3_search_10 (fun r_20 hw => ?_)
    refine lv_iload_n hx hb dX3_search_13 rfl (lv_at hl 1 rfl) ?_
    refine lv_icmp_eq (tgt := 39) hx hb dX3_search_14 (by decide) (fun c_21 => ?_) (fun c_21 => ?_)
    · have hw := hw.1 c_21
      refine lv_aload_n hx hb dX3_search_39 rfl (lv_at hl 0 rfl) ?_
      refine lv_iload_n hx hb dX3_search_40 rfl (lv_at hl 2 rfl) ?_
      refine lv_iload_n hx hb dX3_search_41 rfl (lv_at hl 2 rfl) ?_
      refine pcVv (rest := []) (wr := [((ad 4), .inl ((cs 4), 121, .inl vS_camps)), ((ad 9), .inl ((cs 9), 121, .inl vR_hopsToEnd))]) (ci := 3) S0 (c_X3_spread l D ad cs H.size vS_nexts vM_owners vR_level vR_queue x2 x2 _ hw) (cwV 2 hts gX3_search_X3_spread rfl rfl rfl (by decide +kernel) ⟨Nat.le_of_ble_eq_true rfl, Nat.le_of_ble_eq_true rfl⟩) hN hK hP hD hS hA [0, 2, 3, 4, 5, 7, 8] [1, 6] [1, 2, 4, 5] ⟨rfl, rfl, rfl, rfl, rfl, by decide⟩ 5 rfl rfl rfl rfl hl.1 (Nat.le_of_ble_eq_true rfl) ⟨Nat.le_of_ble_eq_true rfl, Nat.le_of_ble_eq_true rfl⟩ dX3_search_42 (fun u H locs hw hP hD hS => ?_)
      obtain ⟨vR_level_22, vR_queue_23⟩ := u
      dsimp only at hw
      have hP : va_P D vwCl (cl_X3_search ad cs vS_camps vS_nexts vM_owners vR_hopsToEnd vR_level_22 vR_queue_23) H := hP.sub [2, 0, 3, 4, 5, 6, 1, 7, 8] rfl
      have hD : va_D A (cl_X3_search ad cs vS_camps vS_nexts vM_owners vR_hopsToEnd vR_level_22 vR_queue_23) := hD.sub [2, 0, 3, 4, 5, 6, 1, 7, 8] (by decide) rfl
      refine lv_iconst (v := (0 : Int32)) hx hb dX3_search_45 (by decide) ?_
      refine lv_istore_n (lv' := [(3, .int (0 : Int32)), (0, .ref (ad 8)), (1, .int x1), (2, .int x2)]) hx hb dX3_search_46 rfl hl (by decide) rfl (fun ls hl => ?_)
      refine hL47 vR_level_22 x1 x2 _ vR_hopsToEnd (0 : Int32) _ hw ?_ _ _ _ hP hD hS (lv_sub hl [1, 2, 3, 0] rfl)
      intro vR_hopsToEnd_24 hw H locs ls hP hD hS hl
      refine lv_iconst (v := (0 : Int32)) hx hb dX3_search_106 (by decide) ?_
      refine lv_istore_n (lv' := [(3, .int (0 : Int32)), (0, .ref (ad 8)), (1, .int x1), (2, .int x2)]) hx hb dX3_search_107 rfl hl (by decide) rfl (fun ls hl => ?_)
      refine hL108 x1 x2 _ vR_hopsToEnd_24 (0 : Int32) _ _ hw ?_ _ _ _ hP hD hS (lv_sub hl [1, 2, 3, 0] rfl)
      intro vR_hopsToEnd_25 hw H locs ls hP hD hS hl
      exact hret _ _ _ _ _ _ _ hw hP hD hS dX3_search_162
    · have hw := hw.2 c_21
      refine lv_iconst (v := (0 : Int32)) hx hb dX3_search_17 (by decide) ?_
      refine lv_istore_n (lv' := [(3, .int (0 : Int32)), (0, .ref (ad 8)), (1, .int x1), (2, .int x2)]) hx hb dX3_search_18 rfl hl (by decide) rfl (fun ls hl => ?_)
      refine hL19 _ vR_hopsToEnd (0 : Int32) _ _ hw ?_ _ _ _ hP hD hS (lv_sub hl [1, 0] rfl)
      intro vR_hopsToEnd_26 hw H locs ls hP hD hS hl
      exact hret _ _ _ _ _ _ _ hw hP hD hS dX3_search_38
set_option maxHeartbeats 4000000 in
set_option maxRecDepth 100000 in
theorem c_X3_search (l : Launch) (D : va_G) (ad : Nat → Nat) (cs : Nat → ClassId) (sz : Nat) (vS_camps vS_nexts vM_owners vR_hopsToEnd vR_level vR_queue : Nat → Int32) (x1 x2 : Int32) (Q : (Nat → Int32) → (Nat → Int32) → (Nat → Int32) → Prop) (hw : wp_X3_search vS_camps vS_nexts vM_owners vR_hopsToEnd vR_level vR_queue x1 x2 Q) :
  Met l yX3_search wsX3_search rm_X3_search (va_Pc [.ref (ad 8), .int x1, .int x2] (PX D (cl_X3_search ad cs vS_camps vS_nexts vM_owners vR_hopsToEnd vR_level vR_queue) (ty_X3_search cs) sz)) (va_Qv (fun (u : (Nat → Int32) × (Nat → Int32) × (Nat → Int32)) => Q u.1 u.2.1 u.2.2) (fun (u : (Nat → Int32) × (Nat → Int32) × (Nat → Int32)) t => va_P D vwCl (cl_X3_search ad cs vS_camps vS_nexts vM_owners u.1 u.2.1 u.2.2) t.heap ∧ va_D (va_A (cl_X3_search ad cs vS_camps vS_nexts vM_owners vR_hopsToEnd vR_level vR_queue) sz) (cl_X3_search ad cs vS_camps vS_nexts vM_owners u.1 u.2.1 u.2.2)) (va_A (cl_X3_search ad cs vS_camps vS_nexts vM_owners vR_hopsToEnd vR_level vR_queue) sz)) 0 0 (va_A (cl_X3_search ad cs vS_camps vS_nexts vM_owners vR_hopsToEnd vR_level vR_queue) sz) := by
  refine Met.ofW (cc := cX3_search) (maxL := 5) (ret := none) (by decide) rfl ?_
  intro p e s m args below meth c s₁ B hml hv
  obtain ⟨rfl, hsz, hP, hK, hD0, hN⟩ := hv
  subst hsz
  have hl := lv_entry ([.ref (ad 8), .int x1, .int x2]) (n := 5) (Nat.le_of_ble_eq_true rfl)
  rw [lg_entry_eq]
  have hx := B.exec
  have hb := B.bytes
  have hr := B.returns
  exact b_X3_search l D ad cs vS_camps vS_nexts vM_owners vR_hopsToEnd vR_level vR_queue x1 x2 Q hx hb hml (findClass_of_methodNamed B.named) (atoms_spec (ws := wsX3_search) B.pre) hN hP hK hD0.self (fun q h => Or.inr h) hl (fun o0 o1 o2 H locs pc ls hq hP hD hS hd => W.vret hx hb hr (fun t ht hW => ⟨⟨(o0, o1, o2), rfl, hq, by rw [ht]; exact hP, hD⟩, hS.F ht⟩) hS.2.2 hd) hw
abbrev rm_X3_hopsTo : Room := { frames := 1, cells := 0, slots := 0, locals := 20 }
abbrev cl_X3_hopsTo (ad : Nat → Nat) (cs : Nat → ClassId) (vR_hopsToEnd : Nat → Int32) : va_W := [((ad 8), .inr (3, [.ref (ad 1), .ref (ad 6), .ref (ad 9), .ref (ad 10), .ref (ad 11)])), ((ad 9), .inl ((cs 9), 121, .inl vR_hopsToEnd))]
abbrev ty_X3_hopsTo (cs : Nat → ClassId) : List (ClassId × FieldType) := [((cs 9), .int)]
def wp_X3_hopsTo (vR_hopsToEnd : Nat → Int32) (x1 : Int32) (Q : Int32 → Prop) : Prop :=
 wp_X6_isCell x1 (fun r_1 =>
 ((r_1 = 0 → Q (-1 : Int32)) ∧
 (¬ r_1 = 0 → (vp_in x1 121 ∧
 Q (vR_hopsToEnd x1.toNatClampNeg)))))
set_option maxHeartbeats 4000000 in
set_option maxRecDepth 100000 in
theorem b_X3_hopsTo {p : Program} {e : Env} {s : State} {m : MethodId} {args : Array Value} {below : List Frame} {meth : Method} {c : Code} {QQ : State → Prop} {A : Nat → Prop} {ls : Array Slot} (l : Launch) (D : va_G) (ad : Nat → Nat) (cs : Nat → ClassId) (vR_hopsToEnd : Nat → Int32) (x1 : Int32) (Q : Int32 → Prop) (hx : p.tables.exec = Jvm.exec) (hb : c.code = cX3_hopsTo) (hml : c.maxLocals = 2) (hown : s.vm.findClass RX3 = some m.cls) (hts : ∀ w ∈ wsX3_hopsTo, w.before args s = true) (hN : NW s) (hP : va_P D vwCl (cl_X3_hopsTo ad cs vR_hopsToEnd) s.heap) (hK : va_K D vwCl (ty_X3_hopsTo cs) s) (hD : va_D A (cl_X3_hopsTo ad cs vR_hopsToEnd)) (hA : ∀ q : Nat, s.heap.size ≤ q → A q) (hl : lv_has ls 2 [(0, .ref (ad 8)), (1, .int x1)])
  (hret : ∀ (r : Int32) (pc : Nat) (ls : Array Slot), Q r → decode cX3_hopsTo pc = .ok (.ireturn, 1) → W p l e rm_X3_hopsTo s m args below meth c s.heap [] 0 0 QQ (F0 m pc ls [.int r]))
  (hw : wp_X3_hopsTo vR_hopsToEnd x1 Q) :
  W p l e rm_X3_hopsTo s m args below meth c s.heap [] 0 0 QQ (F0 m 0 ls []) := by
  have S0 : CallFix p m c cX3_hopsTo 2 s args wsX3_hopsTo RX3 := ⟨hx, hb, hml, hown, hts⟩
  have inX3 : ∀ w ∈ u_ws RX3 TX3 5, w ∈ wsX3_hopsTo := by decide +kernel
  have fl_9 := hts (.fieldLink RX3 9 "HopperCourt$Reach" "hopsToEnd" "[I") (by decide +kernel)
  unfold wp_X3_hopsTo at hw
  refine lv_iload_n hx hb dX3_hopsTo_0 rfl (lv_at hl 1 rfl) ?_
  refine pcSN (rest := []) S0 (c_X6_isCell l D ad cs s.heap.size x1 _ hw) ⟨va_cnB (host := RX6) 1 hts gX3_hopsTo_X6_isCell_n53 rfl rfl rfl hN.2.2.1 (hts (.initialized RX6) (by decide +kernel)) (by decide +kernel) ⟨Nat.le_of_ble_eq_true rfl, Nat.le_of_ble_eq_true rfl⟩, hts (.static yX6_isCell) (by decide +kernel), trivial⟩ hN hK hP hD [] [] rfl rfl rfl rfl rfl hl.1 (Nat.le_of_ble_eq_true rfl) ⟨Nat.le_of_ble_eq_true rfl, Nat.le_of_ble_eq_true rfl⟩ dX3_hopsTo_1 (fun r_1 hw => ?_)
  refine lv_if_eq (tgt := 16) hx hb dX3_hopsTo_4 (by decide) (fun c_2 => ?_) (fun c_2 => ?_)
  · have hw := hw.1 c_2
    refine lv_iconst (v := (-1 : Int32)) hx hb dX3_hopsTo_16 (by decide) ?_
    exact hret _ _ _ hw dX3_hopsTo_17
  · have hw := hw.2 c_2
    refine lv_aload_n hx hb dX3_hopsTo_7 rfl (lv_at hl 0 rfl) ?_
    refine va_get (D := D) (ci := 3) (v := .ref (ad 9)) (C := RX3) (T := TX3) (N := 5) hx hb hts inX3 hown hK hP 0 rfl rfl 2 (by decide) fl_9 (fun _ h9 => h9) rfl dX3_hopsTo_8 ?_
    refine lv_iload_n hx hb dX3_hopsTo_11 rfl (lv_at hl 1 rfl) ?_
    obtain ⟨h_3, hw⟩ := hw
    refine va_iald hx hb hK hP 1 0 rfl rfl h_3 dX3_hopsTo_12 ?_
    refine lv_goto (tgt := 17) hx hb dX3_hopsTo_13 (by decide) ?_
    exact hret _ _ _ hw dX3_hopsTo_17
set_option maxHeartbeats 4000000 in
set_option maxRecDepth 100000 in
theorem c_X3_hopsTo (l : Launch) (D : va_G) (ad : Nat → Nat) (cs : Nat → ClassId) (sz : Nat) (vR_hopsToEnd : Nat → Int32) (x1 : Int32) (Q : Int32 → Prop) (hw : wp_X3_hopsTo vR_hopsToEnd x1 Q) :
  Met l yX3_hopsTo wsX3_hopsTo rm_X3_hopsTo (va_Pc [.ref (ad 8), .int x1] (PX D (cl_X3_hopsTo ad cs vR_hopsToEnd) (ty_X3_hopsTo cs) sz)) (vp_Si Q) 0 0 (fun _ => False) := by
  refine Met.ofW (cc := cX3_hopsTo) (maxL := 2) (ret := (some .int)) (by decide) rfl ?_
  intro p e s m args below meth c s₁ B hml hv
  obtain ⟨rfl, hsz, hP, hK, hD0, hN⟩ := hv
  subst hsz
  have hl := lv_entry ([.ref (ad 8), .int x1]) (n := 2) (Nat.le_of_ble_eq_true rfl)
  rw [lg_entry_eq]
  have hx := B.exec
  have hb := B.bytes
  have hr := B.returns
  exact b_X3_hopsTo l D ad cs vR_hopsToEnd x1 Q hx hb hml (findClass_of_methodNamed B.named) (atoms_spec (ws := wsX3_hopsTo) B.pre) hN hP hK hD0.self (fun q h => Or.inr h) hl (A := va_A (cl_X3_hopsTo ad cs vR_hopsToEnd) s.heap.size) (fun r pc ls hq hd => W.iret (v := r) hx hb hr (fun t ht hW => ⟨r, rfl, hq, ht⟩) (fun _ h => nomatch h) hd) hw
abbrev rm_X1_carry : Room := { frames := 1, cells := 0, slots := 0, locals := 20 }
abbrev cl_X1_carry (ad : Nat → Nat) (cs : Nat → ClassId) (vM_owners : Nat → Int32) : va_W := [((ad 6), .inr (1, [.ref (ad 1), .ref (ad 7)])), ((ad 7), .inl ((cs 7), 121, .inl vM_owners))]
abbrev ty_X1_carry (cs : Nat → ClassId) : List (ClassId × FieldType) := [((cs 7), .int)]
def wp_X1_carry (vM_owners : Nat → Int32) (x1 x2 : Int32) (Q : (Nat → Int32) → Prop) : Prop :=
 wp_X6_isCell x1 (fun r_1 =>
 ((r_1 = 0 → Q vM_owners) ∧
 (¬ r_1 = 0 → wp_X6_isCell x2 (fun r_3 =>
 ((r_3 = 0 → Q vM_owners) ∧
 (¬ r_3 = 0 → (vp_in x1 121 ∧
 (vp_in x2 121 ∧
 (vp_in x1 121 ∧
 Q (upd (upd vM_owners x2.toNatClampNeg (vM_owners x1.toNatClampNeg)) x1.toNatClampNeg (-1 : Int32)))))))))))
set_option maxHeartbeats 4000000 in
set_option maxRecDepth 100000 in
theorem b_X1_carry {p : Program} {e : Env} {s : State} {m : MethodId} {args : Array Value} {below : List Frame} {meth : Method} {c : Code} {QQ : State → Prop} {A : Nat → Prop} {ls : Array Slot} (l : Launch) (D : va_G) (ad : Nat → Nat) (cs : Nat → ClassId) (vM_owners : Nat → Int32) (x1 x2 : Int32) (Q : (Nat → Int32) → Prop) (hx : p.tables.exec = Jvm.exec) (hb : c.code = cX1_carry) (hml : c.maxLocals = 3) (hown : s.vm.findClass RX1 = some m.cls) (hts : ∀ w ∈ wsX1_carry, w.before args s = true) (hN : NW s) (hP : va_P D vwCl (cl_X1_carry ad cs vM_owners) s.heap) (hK : va_K D vwCl (ty_X1_carry cs) s) (hD : va_D A (cl_X1_carry ad cs vM_owners)) (hA : ∀ q : Nat, s.heap.size ≤ q → A q) (hl : lv_has ls 3 [(0, .ref (ad 6)), (1, .int x1), (2, .int x2)])
  (hret : ∀ (o0 : Nat → Int32) (H : Heap) (locs : List Loc) (pc : Nat) (ls : Array Slot), Q o0 → va_P D vwCl (cl_X1_carry ad cs o0) H → va_D A (cl_X1_carry ad cs o0) → va_S A s.heap H locs → decode cX1_carry pc = .ok (.return_, 1) → W p l e rm_X1_carry s m args below meth c H locs 0 0 QQ (F0 m pc ls []))
  (hw : wp_X1_carry vM_owners x1 x2 Q) :
  W p l e rm_X1_carry s m args below meth c s.heap [] 0 0 QQ (F0 m 0 ls []) := by
  have S0 : CallFix p m c cX1_carry 3 s args wsX1_carry RX1 := ⟨hx, hb, hml, hown, hts⟩
  have inX1 : ∀ w ∈ u_ws RX1 TX1 2, w ∈ wsX1_carry := by decide +kernel
  have fl_9 := hts (.fieldLink RX1 9 "HopperCourt$Marbles" "owners" "[I") (by decide +kernel)
  obtain ⟨H, hH⟩ : ∃ H : Heap, H = s.heap := ⟨_, rfl⟩
  have hS : va_S A s.heap H [] := by rw [hH]; exact va_S.rf
  rw [← hH] at hP ⊢
  unfold wp_X1_carry at hw
  refine lv_iload_n hx hb dX1_carry_0 rfl (lv_at hl 1 rfl) ?_
  refine pcSN (rest := []) S0 (c_X6_isCell l D ad cs H.size x1 _ hw) ⟨va_cnB (host := RX6) 1 hts gX1_carry_X6_isCell_n29 rfl rfl rfl hN.2.1 (hts (.initialized RX6) (by decide +kernel)) (by decide +kernel) ⟨Nat.le_of_ble_eq_true rfl, Nat.le_of_ble_eq_true rfl⟩, hts (.static yX6_isCell) (by decide +kernel), trivial⟩ hN hK hP hD [] [] rfl rfl rfl rfl rfl hl.1 (Nat.le_of_ble_eq_true rfl) ⟨Nat.le_of_ble_eq_true rfl, Nat.le_of_ble_eq_true rfl⟩ dX1_carry_1 (fun r_1 hw => ?_)
  refine lv_if_eq (tgt := 33) hx hb dX1_carry_4 (by decide) (fun c_2 => ?_) (fun c_2 => ?_)
  · have hw := hw.1 c_2
    exact hret _ _ _ _ _ hw hP hD hS dX1_carry_33
  · have hw := hw.2 c_2
    refine lv_iload_n hx hb dX1_carry_7 rfl (lv_at hl 2 rfl) ?_
    refine pcSN (rest := []) S0 (c_X6_isCell l D ad cs H.size x2 _ hw) ⟨va_cnB (host := RX6) 1 hts gX1_carry_X6_isCell_n29 rfl rfl rfl hN.2.1 (hts (.initialized RX6) (by decide +kernel)) (by decide +kernel) ⟨Nat.le_of_ble_eq_true rfl, Nat.le_of_ble_eq_true rfl⟩, hts (.static yX6_isCell) (by decide +kernel), trivial⟩ hN hK hP hD [] [] rfl rfl rfl rfl rfl hl.1 (Nat.le_of_ble_eq_true rfl) ⟨Nat.le_of_ble_eq_true rfl, Nat.le_of_ble_eq_true rfl⟩ dX1_carry_8 (fun r_3 hw => ?_)
    refine lv_if_eq (tgt := 33) hx hb dX1_carry_11 (by decide) (fun c_4 => ?_) (fun c_4 => ?_)
    · have hw := hw.1 c_4
      exact hret _ _ _ _ _ hw hP hD hS dX1_carry_33
    · have hw := hw.2 c_4
      refine lv_aload_n hx hb dX1_carry_14 rfl (lv_at hl 0 rfl) ?_
      refine va_get (D := D) (ci := 1) (v := .ref (ad 7)) (C := RX1) (T := TX1) (N := 2) hx hb hts inX1 hown hK hP 0 rfl rfl 1 (by decide) fl_9 (fun _ h9 => h9) rfl dX1_carry_15 ?_
      refine lv_iload_n hx hb dX1_carry_18 rfl (lv_at hl 2 rfl) ?_
      refine lv_aload_n hx hb dX1_carry_19 rfl (lv_at hl 0 rfl) ?_
      refine va_get (D := D) (ci := 1) (v := .ref (ad 7)) (C := RX1) (T := TX1) (N := 2) hx hb hts inX1 hown hK hP 0 rfl rfl 1 (by decide) fl_9 (fun _ h9 => h9) rfl dX1_carry_20 ?_
      refine lv_iload_n hx hb dX1_carry_23 rfl (lv_at hl 1 rfl) ?_
      obtain ⟨h_5, hw⟩ := hw
      refine va_iald hx hb hK hP 1 0 rfl rfl h_5 dX1_carry_24 ?_
      obtain ⟨h_6, hw⟩ := hw
      refine va_iast hx hb hK hP hD hS 1 0 rfl rfl h_6 dX1_carry_25 (fun H locs hP hD hS => ?_)
      have hP : va_P D vwCl (cl_X1_carry ad cs (upd vM_owners x2.toNatClampNeg (vM_owners x1.toNatClampNeg))) H := hP
      have hD : va_D A (cl_X1_carry ad cs (upd vM_owners x2.toNatClampNeg (vM_owners x1.toNatClampNeg))) := hD
      refine lv_aload_n hx hb dX1_carry_26 rfl (lv_at hl 0 rfl) ?_
      refine va_get (D := D) (ci := 1) (v := .ref (ad 7)) (C := RX1) (T := TX1) (N := 2) hx hb hts inX1 hown hK hP 0 rfl rfl 1 (by decide) fl_9 (fun _ h9 => h9) rfl dX1_carry_27 ?_
      refine lv_iload_n hx hb dX1_carry_30 rfl (lv_at hl 1 rfl) ?_
      refine lv_iconst (v := (-1 : Int32)) hx hb dX1_carry_31 (by decide) ?_
      obtain ⟨h_7, hw⟩ := hw
      refine va_iast hx hb hK hP hD hS 1 0 rfl rfl h_7 dX1_carry_32 (fun H locs hP hD hS => ?_)
      have hP : va_P D vwCl (cl_X1_carry ad cs (upd (upd vM_owners x2.toNatClampNeg (vM_owners x1.toNatClampNeg)) x1.toNatClampNeg (-1 : Int32))) H := hP
      have hD : va_D A (cl_X1_carry ad cs (upd (upd vM_owners x2.toNatClampNeg (vM_owners x1.toNatClampNeg)) x1.toNatClampNeg (-1 : Int32))) := hD
      exact hret _ _ _ _ _ hw hP hD hS dX1_carry_33
set_option maxHeartbeats 4000000 in
set_option maxRecDepth 100000 in
theorem c_X1_carry (l : Launch) (D : va_G) (ad : Nat → Nat) (cs : Nat → ClassId) (sz : Nat) (vM_owners : Nat → Int32) (x1 x2 : Int32) (Q : (Nat → Int32) → Prop) (hw : wp_X1_carry vM_owners x1 x2 Q) :
  Met l yX1_carry wsX1_carry rm_X1_carry (va_Pc [.ref (ad 6), .int x1, .int x2] (PX D (cl_X1_carry ad cs vM_owners) (ty_X1_carry cs) sz)) (va_Qv (fun (u : (Nat → Int32)) => Q u) (fun (u : (Nat → Int32)) t => va_P D vwCl (cl_X1_carry ad cs u) t.heap ∧ va_D (va_A (cl_X1_carry ad cs vM_owners) sz) (cl_X1_carry ad cs u)) (va_A (cl_X1_carry ad cs vM_owners) sz)) 0 0 (va_A (cl_X1_carry ad cs vM_owners) sz) := by
  refine Met.ofW (cc := cX1_carry) (maxL := 3) (ret := none) (by decide) rfl ?_
  intro p e s m args below meth c s₁ B hml hv
  obtain ⟨rfl, hsz, hP, hK, hD0, hN⟩ := hv
  subst hsz
  have hl := lv_entry ([.ref (ad 6), .int x1, .int x2]) (n := 3) (Nat.le_of_ble_eq_true rfl)
  rw [lg_entry_eq]
  have hx := B.exec
  have hb := B.bytes
  have hr := B.returns
  exact b_X1_carry l D ad cs vM_owners x1 x2 Q hx hb hml (findClass_of_methodNamed B.named) (atoms_spec (ws := wsX1_carry) B.pre) hN hP hK hD0.self (fun q h => Or.inr h) hl (fun o0 H locs pc ls hq hP hD hS hd => W.vret hx hb hr (fun t ht hW => ⟨⟨o0, rfl, hq, by rw [ht]; exact hP, hD⟩, hS.F ht⟩) hS.2.2 hd) hw
abbrev rm_X1_countInCamp : Room := { frames := 2, cells := 0, slots := 0, locals := 41 }
abbrev cl_X1_countInCamp (ad : Nat → Nat) (cs : Nat → ClassId) (vS_camps vM_owners : Nat → Int32) : va_W := [((ad 1), .inr (5, [.ref (ad 2), .ref (ad 3), .ref (ad 4), .ref (ad 5)])), ((ad 4), .inl ((cs 4), 121, .inl vS_camps)), ((ad 6), .inr (1, [.ref (ad 1), .ref (ad 7)])), ((ad 7), .inl ((cs 7), 121, .inl vM_owners))]
abbrev ty_X1_countInCamp (cs : Nat → ClassId) : List (ClassId × FieldType) := [((cs 4), .int), ((cs 7), .int)]
def wb_X1_countInCamp_5 (vS_camps vM_owners : Nat → Int32) (x1 x2 : Int32) (K5 : Int32 → Prop) (P5 : Int32 → Int32 → Prop) (x3 x4 : Int32) : Prop :=
 (((121 : Int32) ≤ x4 → K5 x3) ∧
 (¬ (121 : Int32) ≤ x4 → wp_X5_camp vS_camps x4 (fun r_2 =>
 ((¬ r_2 = x1 → P5 x3 (x4 + (1 : Int32))) ∧
 (r_2 = x1 → (vp_in x4 121 ∧
 ((¬ (vM_owners x4.toNatClampNeg) = x2 → P5 x3 (x4 + (1 : Int32))) ∧
 ((vM_owners x4.toNatClampNeg) = x2 → P5 (x3 + (1 : Int32)) (x4 + (1 : Int32))))))))))
def wl_X1_countInCamp_5 (vS_camps vM_owners : Nat → Int32) (x1 x2 : Int32) (K5 : Int32 → Prop) (x3 x4 : Int32) : Prop := ∀ P5 : Int32 → Int32 → Prop, (∀ (x3 x4 : Int32), wb_X1_countInCamp_5 vS_camps vM_owners x1 x2 K5 P5 x3 x4 → P5 x3 x4) → P5 x3 x4
def wp_X1_countInCamp (vS_camps vM_owners : Nat → Int32) (x1 x2 : Int32) (Q : Int32 → Prop) : Prop :=
 wl_X1_countInCamp_5 vS_camps vM_owners x1 x2 (fun x3_6 => Q x3_6) (0 : Int32) (0 : Int32)
set_option maxHeartbeats 4000000 in
set_option maxRecDepth 100000 in
theorem b_X1_countInCamp {p : Program} {e : Env} {s : State} {m : MethodId} {args : Array Value} {below : List Frame} {meth : Method} {c : Code} {QQ : State → Prop} {A : Nat → Prop} {ls : Array Slot} (l : Launch) (D : va_G) (ad : Nat → Nat) (cs : Nat → ClassId) (vS_camps vM_owners : Nat → Int32) (x1 x2 : Int32) (Q : Int32 → Prop) (hx : p.tables.exec = Jvm.exec) (hb : c.code = cX1_countInCamp) (hml : c.maxLocals = 5) (hown : s.vm.findClass RX1 = some m.cls) (hts : ∀ w ∈ wsX1_countInCamp, w.before args s = true) (hN : NW s) (hP : va_P D vwCl (cl_X1_countInCamp ad cs vS_camps vM_owners) s.heap) (hK : va_K D vwCl (ty_X1_countInCamp cs) s) (hD : va_D A (cl_X1_countInCamp ad cs vS_camps vM_owners)) (hA : ∀ q : Nat, s.heap.size ≤ q → A q) (hl : lv_has ls 5 [(0, .ref (ad 6)), (1, .int x1), (2, .int x2)])
  (hret : ∀ (r : Int32) (pc : Nat) (ls : Array Slot), Q r → decode cX1_countInCamp pc = .ok (.ireturn, 1) → W p l e rm_X1_countInCamp s m args below meth c s.heap [] 0 0 QQ (F0 m pc ls [.int r]))
  (hw : wp_X1_countInCamp vS_camps vM_owners x1 x2 Q) :
  W p l e rm_X1_countInCamp s m args below meth c s.heap [] 0 0 QQ (F0 m 0 ls []) := by
  have S0 : CallFix p m c cX1_countInCamp 5 s args wsX1_countInCamp RX1 := ⟨hx, hb, hml, hown, hts⟩
  have inX1 : ∀ w ∈ u_ws RX1 TX1 2, w ∈ wsX1_countInCamp := by decide +kernel
  have fl_15 := hts (.fieldLink RX1 15 "HopperCourt$Marbles" "star" "LHopperCourt$Star;") (by decide +kernel)
  have fl_9 := hts (.fieldLink RX1 9 "HopperCourt$Marbles" "owners" "[I") (by decide +kernel)
  have hL5 : ∀ (x1 x2 : Int32) (K5 : Int32 → Prop) (x3 x4 : Int32), wl_X1_countInCamp_5 vS_camps vM_owners x1 x2 K5 x3 x4 → (∀ (x3 : Int32), K5 x3 → ∀ (ls : Array Slot), lv_has ls 5 [(3, .int x3)] → W p l e rm_X1_countInCamp s m args below meth c s.heap [] 0 0 QQ (F0 m 45 ls [])) → ∀ (ls : Array Slot), lv_has ls 5 [(0, .ref (ad 6)), (1, .int x1), (2, .int x2), (3, .int x3), (4, .int x4)] → W p l e rm_X1_countInCamp s m args below meth c s.heap [] 0 0 QQ (F0 m 5 ls []) := by
    intro x1 x2 K5 x3 x4 hw hK5
    unfold wl_X1_countInCamp_5 at hw
    refine hw (fun (x3 x4 : Int32) => ∀ (ls : Array Slot), lv_has ls 5 [(0, .ref (ad 6)), (1, .int x1), (2, .int x2), (3, .int x3), (4, .int x4)] → W p l e rm_X1_countInCamp s m args below meth c s.heap [] 0 0 QQ (F0 m 5 ls [])) ?_
    intro x3 x4 hw ls hl
    unfold wb_X1_countInCamp_5 at hw
    refine lv_iload hx hb dX1_countInCamp_5 (lv_at hl 4 rfl) ?_
    refine lv_bipush (v := (121 : Int32)) hx hb dX1_countInCamp_7 (by decide) ?_
    refine lv_icmp_ge (tgt := 45) hx hb dX1_countInCamp_9 (by decide) (fun c_1 => ?_) (fun c_1 => ?_)
    · have hw := hw.1 c_1
      exact hK5 x3 hw _ (lv_sub hl [3] rfl)
    · have hw := hw.2 c_1
      refine lv_aload_n hx hb dX1_countInCamp_12 rfl (lv_at hl 0 rfl) ?_
      refine va_get (D := D) (ci := 1) (v := .ref (ad 1)) (C := RX1) (T := TX1) (N := 2) hx hb hts inX1 hown hK hP 2 rfl rfl 0 (by decide) fl_15 (fun _ h9 => h9) rfl dX1_countInCamp_13 ?_
      refine lv_iload hx hb dX1_countInCamp_16 (lv_at hl 4 rfl) ?_
      refine pcV (rest := []) (ci := 5) S0 (c_X5_camp l D ad cs s.heap.size vS_camps x4 _ hw) (cwV 1 hts gX1_countInCamp_X5_camp rfl rfl rfl (by decide +kernel) ⟨Nat.le_of_ble_eq_true rfl, Nat.le_of_ble_eq_true rfl⟩) hN hK hP hD [0, 1] [0] rfl rfl rfl 0 rfl rfl rfl rfl hl.1 (Nat.le_of_ble_eq_true rfl) ⟨Nat.le_of_ble_eq_true rfl, Nat.le_of_ble_eq_true rfl⟩ dX1_countInCamp_18 (fun r_2 hw => ?_)
      refine lv_iload_n hx hb dX1_countInCamp_21 rfl (lv_at hl 1 rfl) ?_
      refine lv_icmp_ne (tgt := 39) hx hb dX1_countInCamp_22 (by decide) (fun c_3 => ?_) (fun c_3 => ?_)
      · have hw := hw.1 c_3
        refine lv_iinc (v := (x4 + (1 : Int32))) (lv' := [(4, .int (x4 + (1 : Int32))), (0, .ref (ad 6)), (1, .int x1), (2, .int x2), (3, .int x3)]) hx hb dX1_countInCamp_39 hl (k := 4) rfl rfl (by decide) rfl (fun ls hl => ?_)
        refine lv_goto (tgt := 5) hx hb dX1_countInCamp_42 (by decide) ?_
        exact hw _ (lv_sub hl [1, 2, 3, 4, 0] rfl)
      · have hw := hw.2 c_3
        refine lv_aload_n hx hb dX1_countInCamp_25 rfl (lv_at hl 0 rfl) ?_
        refine va_get (D := D) (ci := 1) (v := .ref (ad 7)) (C := RX1) (T := TX1) (N := 2) hx hb hts inX1 hown hK hP 2 rfl rfl 1 (by decide) fl_9 (fun _ h9 => h9) rfl dX1_countInCamp_26 ?_
        refine lv_iload hx hb dX1_countInCamp_29 (lv_at hl 4 rfl) ?_
        obtain ⟨h_4, hw⟩ := hw
        refine va_iald hx hb hK hP 3 1 rfl rfl h_4 dX1_countInCamp_31 ?_
        refine lv_iload_n hx hb dX1_countInCamp_32 rfl (lv_at hl 2 rfl) ?_
        refine lv_icmp_ne (tgt := 39) hx hb dX1_countInCamp_33 (by decide) (fun c_5 => ?_) (fun c_5 => ?_)
        · have hw := hw.1 c_5
          refine lv_iinc (v := (x4 + (1 : Int32))) (lv' := [(4, .int (x4 + (1 : Int32))), (0, .ref (ad 6)), (1, .int x1), (2, .int x2), (3, .int x3)]) hx hb dX1_countInCamp_39 hl (k := 4) rfl rfl (by decide) rfl (fun ls hl => ?_)
          refine lv_goto (tgt := 5) hx hb dX1_countInCamp_42 (by decide) ?_
          exact hw _ (lv_sub hl [1, 2, 3, 4, 0] rfl)
        · have hw := hw.2 c_5
          refine lv_iinc (v := (x3 + (1 : Int32))) (lv' := [(3, .int (x3 + (1 : Int32))), (0, .ref (ad 6)), (1, .int x1), (2, .int x2), (4, .int x4)]) hx hb dX1_countInCamp_36 hl (k := 3) rfl rfl (by decide) rfl (fun ls hl => ?_)
          refine lv_iinc (v := (x4 + (1 : Int32))) (lv' := [(4, .int (x4 + (1 : Int32))), (3, .int (x3 + (1 : Int32))), (0, .ref (ad 6)), (1, .int x1), (2, .int x2)]) hx hb dX1_countInCamp_39 hl (k := 4) rfl rfl (by decide) rfl (fun ls hl => ?_)
          refine lv_goto (tgt := 5) hx hb dX1_countInCamp_42 (by decide) ?_
          exact hw _ (lv_sub hl [2, 3, 4, 1, 0] rfl)
  unfold wp_X1_countInCamp at hw
  refine lv_iconst (v := (0 : Int32)) hx hb dX1_countInCamp_0 (by decide) ?_
  refine lv_istore_n (lv' := [(3, .int (0 : Int32)), (0, .ref (ad 6)), (1, .int x1), (2, .int x2)]) hx hb dX1_countInCamp_1 rfl hl (by decide) rfl (fun ls hl => ?_)
  refine lv_iconst (v := (0 : Int32)) hx hb dX1_countInCamp_2 (by decide) ?_
  refine lv_istore (lv' := [(4, .int (0 : Int32)), (3, .int (0 : Int32)), (0, .ref (ad 6)), (1, .int x1), (2, .int x2)]) hx hb dX1_countInCamp_3 hl (by decide) rfl (fun ls hl => ?_)
  refine hL5 x1 x2 _ (0 : Int32) (0 : Int32) hw ?_ _ (lv_sub hl [2, 3, 4, 1, 0] rfl)
  intro x3_6 hw ls hl
  refine lv_iload_n hx hb dX1_countInCamp_45 rfl (lv_at hl 0 rfl) ?_
  exact hret _ _ _ hw dX1_countInCamp_46
set_option maxHeartbeats 4000000 in
set_option maxRecDepth 100000 in
theorem c_X1_countInCamp (l : Launch) (D : va_G) (ad : Nat → Nat) (cs : Nat → ClassId) (sz : Nat) (vS_camps vM_owners : Nat → Int32) (x1 x2 : Int32) (Q : Int32 → Prop) (hw : wp_X1_countInCamp vS_camps vM_owners x1 x2 Q) :
  Met l yX1_countInCamp wsX1_countInCamp rm_X1_countInCamp (va_Pc [.ref (ad 6), .int x1, .int x2] (PX D (cl_X1_countInCamp ad cs vS_camps vM_owners) (ty_X1_countInCamp cs) sz)) (vp_Si Q) 0 0 (fun _ => False) := by
  refine Met.ofW (cc := cX1_countInCamp) (maxL := 5) (ret := (some .int)) (by decide) rfl ?_
  intro p e s m args below meth c s₁ B hml hv
  obtain ⟨rfl, hsz, hP, hK, hD0, hN⟩ := hv
  subst hsz
  have hl := lv_entry ([.ref (ad 6), .int x1, .int x2]) (n := 5) (Nat.le_of_ble_eq_true rfl)
  rw [lg_entry_eq]
  have hx := B.exec
  have hb := B.bytes
  have hr := B.returns
  exact b_X1_countInCamp l D ad cs vS_camps vM_owners x1 x2 Q hx hb hml (findClass_of_methodNamed B.named) (atoms_spec (ws := wsX1_countInCamp) B.pre) hN hP hK hD0.self (fun q h => Or.inr h) hl (A := va_A (cl_X1_countInCamp ad cs vS_camps vM_owners) s.heap.size) (fun r pc ls hq hd => W.iret (v := r) hx hb hr (fun t ht hW => ⟨r, rfl, hq, ht⟩) (fun _ h => nomatch h) hd) hw
abbrev rm_X3_countEnds : Room := { frames := 0, cells := 0, slots := 0, locals := 0 }
abbrev cl_X3_countEnds (ad : Nat → Nat) (cs : Nat → ClassId) (vR_hopsToEnd : Nat → Int32) : va_W := [((ad 8), .inr (3, [.ref (ad 1), .ref (ad 6), .ref (ad 9), .ref (ad 10), .ref (ad 11)])), ((ad 9), .inl ((cs 9), 121, .inl vR_hopsToEnd))]
abbrev ty_X3_countEnds (cs : Nat → ClassId) : List (ClassId × FieldType) := [((cs 9), .int)]
def wb_X3_countEnds_4 (vR_hopsToEnd : Nat → Int32) (K4 : Int32 → Prop) (P4 : Int32 → Int32 → Prop) (x1 x2 : Int32) : Prop :=
 (((121 : Int32) ≤ x2 → K4 x1) ∧
 (¬ (121 : Int32) ≤ x2 → (vp_in x2 121 ∧
 (((vR_hopsToEnd x2.toNatClampNeg) = (-1 : Int32) → P4 x1 (x2 + (1 : Int32))) ∧
 (¬ (vR_hopsToEnd x2.toNatClampNeg) = (-1 : Int32) → P4 (x1 + (1 : Int32)) (x2 + (1 : Int32)))))))
def wl_X3_countEnds_4 (vR_hopsToEnd : Nat → Int32) (K4 : Int32 → Prop) (x1 x2 : Int32) : Prop := ∀ P4 : Int32 → Int32 → Prop, (∀ (x1 x2 : Int32), wb_X3_countEnds_4 vR_hopsToEnd K4 P4 x1 x2 → P4 x1 x2) → P4 x1 x2
def wp_X3_countEnds (vR_hopsToEnd : Nat → Int32) (Q : Int32 → Prop) : Prop :=
 wl_X3_countEnds_4 vR_hopsToEnd (fun x1_4 => Q x1_4) (0 : Int32) (0 : Int32)
set_option maxHeartbeats 4000000 in
set_option maxRecDepth 100000 in
theorem b_X3_countEnds {p : Program} {e : Env} {s : State} {m : MethodId} {args : Array Value} {below : List Frame} {meth : Method} {c : Code} {QQ : State → Prop} {A : Nat → Prop} {ls : Array Slot} (l : Launch) (D : va_G) (ad : Nat → Nat) (cs : Nat → ClassId) (vR_hopsToEnd : Nat → Int32) (Q : Int32 → Prop) (hx : p.tables.exec = Jvm.exec) (hb : c.code = cX3_countEnds) (hml : c.maxLocals = 3) (hown : s.vm.findClass RX3 = some m.cls) (hts : ∀ w ∈ wsX3_countEnds, w.before args s = true) (hN : NW s) (hP : va_P D vwCl (cl_X3_countEnds ad cs vR_hopsToEnd) s.heap) (hK : va_K D vwCl (ty_X3_countEnds cs) s) (hD : va_D A (cl_X3_countEnds ad cs vR_hopsToEnd)) (hA : ∀ q : Nat, s.heap.size ≤ q → A q) (hl : lv_has ls 3 [(0, .ref (ad 8))])
  (hret : ∀ (r : Int32) (pc : Nat) (ls : Array Slot), Q r → decode cX3_countEnds pc = .ok (.ireturn, 1) → W p l e rm_X3_countEnds s m args below meth c s.heap [] 0 0 QQ (F0 m pc ls [.int r]))
  (hw : wp_X3_countEnds vR_hopsToEnd Q) :
  W p l e rm_X3_countEnds s m args below meth c s.heap [] 0 0 QQ (F0 m 0 ls []) := by
  have S0 : CallFix p m c cX3_countEnds 3 s args wsX3_countEnds RX3 := ⟨hx, hb, hml, hown, hts⟩
  have inX3 : ∀ w ∈ u_ws RX3 TX3 5, w ∈ wsX3_countEnds := by decide +kernel
  have fl_9 := hts (.fieldLink RX3 9 "HopperCourt$Reach" "hopsToEnd" "[I") (by decide +kernel)
  have hL4 : ∀ (K4 : Int32 → Prop) (x1 x2 : Int32), wl_X3_countEnds_4 vR_hopsToEnd K4 x1 x2 → (∀ (x1 : Int32), K4 x1 → ∀ (ls : Array Slot), lv_has ls 3 [(1, .int x1)] → W p l e rm_X3_countEnds s m args below meth c s.heap [] 0 0 QQ (F0 m 29 ls [])) → ∀ (ls : Array Slot), lv_has ls 3 [(0, .ref (ad 8)), (1, .int x1), (2, .int x2)] → W p l e rm_X3_countEnds s m args below meth c s.heap [] 0 0 QQ (F0 m 4 ls []) := by
    intro K4 x1 x2 hw hK4
    unfold wl_X3_countEnds_4 at hw
    refine hw (fun (x1 x2 : Int32) => ∀ (ls : Array Slot), lv_has ls 3 [(0, .ref (ad 8)), (1, .int x1), (2, .int x2)] → W p l e rm_X3_countEnds s m args below meth c s.heap [] 0 0 QQ (F0 m 4 ls [])) ?_
    intro x1 x2 hw ls hl
    unfold wb_X3_countEnds_4 at hw
    refine lv_iload_n hx hb dX3_countEnds_4 rfl (lv_at hl 2 rfl) ?_
    refine lv_bipush (v := (121 : Int32)) hx hb dX3_countEnds_5 (by decide) ?_
    refine lv_icmp_ge (tgt := 29) hx hb dX3_countEnds_7 (by decide) (fun c_1 => ?_) (fun c_1 => ?_)
    · have hw := hw.1 c_1
      exact hK4 x1 hw _ (lv_sub hl [1] rfl)
    · have hw := hw.2 c_1
      refine lv_aload_n hx hb dX3_countEnds_10 rfl (lv_at hl 0 rfl) ?_
      refine va_get (D := D) (ci := 3) (v := .ref (ad 9)) (C := RX3) (T := TX3) (N := 5) hx hb hts inX3 hown hK hP 0 rfl rfl 2 (by decide) fl_9 (fun _ h9 => h9) rfl dX3_countEnds_11 ?_
      refine lv_iload_n hx hb dX3_countEnds_14 rfl (lv_at hl 2 rfl) ?_
      obtain ⟨h_2, hw⟩ := hw
      refine va_iald hx hb hK hP 1 0 rfl rfl h_2 dX3_countEnds_15 ?_
      refine lv_iconst (v := (-1 : Int32)) hx hb dX3_countEnds_16 (by decide) ?_
      refine lv_icmp_eq (tgt := 23) hx hb dX3_countEnds_17 (by decide) (fun c_3 => ?_) (fun c_3 => ?_)
      · have hw := hw.1 c_3
        refine lv_iinc (v := (x2 + (1 : Int32))) (lv' := [(2, .int (x2 + (1 : Int32))), (0, .ref (ad 8)), (1, .int x1)]) hx hb dX3_countEnds_23 hl (k := 2) rfl rfl (by decide) rfl (fun ls hl => ?_)
        refine lv_goto (tgt := 4) hx hb dX3_countEnds_26 (by decide) ?_
        exact hw _ (lv_sub hl [1, 2, 0] rfl)
      · have hw := hw.2 c_3
        refine lv_iinc (v := (x1 + (1 : Int32))) (lv' := [(1, .int (x1 + (1 : Int32))), (0, .ref (ad 8)), (2, .int x2)]) hx hb dX3_countEnds_20 hl (k := 1) rfl rfl (by decide) rfl (fun ls hl => ?_)
        refine lv_iinc (v := (x2 + (1 : Int32))) (lv' := [(2, .int (x2 + (1 : Int32))), (1, .int (x1 + (1 : Int32))), (0, .ref (ad 8))]) hx hb dX3_countEnds_23 hl (k := 2) rfl rfl (by decide) rfl (fun ls hl => ?_)
        refine lv_goto (tgt := 4) hx hb dX3_countEnds_26 (by decide) ?_
        exact hw _ (lv_sub hl [2, 1, 0] rfl)
  unfold wp_X3_countEnds at hw
  refine lv_iconst (v := (0 : Int32)) hx hb dX3_countEnds_0 (by decide) ?_
  refine lv_istore_n (lv' := [(1, .int (0 : Int32)), (0, .ref (ad 8))]) hx hb dX3_countEnds_1 rfl hl (by decide) rfl (fun ls hl => ?_)
  refine lv_iconst (v := (0 : Int32)) hx hb dX3_countEnds_2 (by decide) ?_
  refine lv_istore_n (lv' := [(2, .int (0 : Int32)), (1, .int (0 : Int32)), (0, .ref (ad 8))]) hx hb dX3_countEnds_3 rfl hl (by decide) rfl (fun ls hl => ?_)
  refine hL4 _ (0 : Int32) (0 : Int32) hw ?_ _ (lv_sub hl [2, 1, 0] rfl)
  intro x1_4 hw ls hl
  refine lv_iload_n hx hb dX3_countEnds_29 rfl (lv_at hl 0 rfl) ?_
  exact hret _ _ _ hw dX3_countEnds_30
set_option maxHeartbeats 4000000 in
set_option maxRecDepth 100000 in
theorem c_X3_countEnds (l : Launch) (D : va_G) (ad : Nat → Nat) (cs : Nat → ClassId) (sz : Nat) (vR_hopsToEnd : Nat → Int32) (Q : Int32 → Prop) (hw : wp_X3_countEnds vR_hopsToEnd Q) :
  Met l yX3_countEnds wsX3_countEnds rm_X3_countEnds (va_Pc [.ref (ad 8)] (PX D (cl_X3_countEnds ad cs vR_hopsToEnd) (ty_X3_countEnds cs) sz)) (vp_Si Q) 0 0 (fun _ => False) := by
  refine Met.ofW (cc := cX3_countEnds) (maxL := 3) (ret := (some .int)) (by decide) rfl ?_
  intro p e s m args below meth c s₁ B hml hv
  obtain ⟨rfl, hsz, hP, hK, hD0, hN⟩ := hv
  subst hsz
  have hl := lv_entry ([.ref (ad 8)]) (n := 3) (Nat.le_of_ble_eq_true rfl)
  rw [lg_entry_eq]
  have hx := B.exec
  have hb := B.bytes
  have hr := B.returns
  exact b_X3_countEnds l D ad cs vR_hopsToEnd Q hx hb hml (findClass_of_methodNamed B.named) (atoms_spec (ws := wsX3_countEnds) B.pre) hN hP hK hD0.self (fun q h => Or.inr h) hl (A := va_A (cl_X3_countEnds ad cs vR_hopsToEnd) s.heap.size) (fun r pc ls hq hd => W.iret (v := r) hx hb hr (fun t ht hW => ⟨r, rfl, hq, ht⟩) (fun _ h => nomatch h) hd) hw
abbrev rm_X5_cellIn : Room := { frames := 0, cells := 0, slots := 0, locals := 0 }
abbrev cl_X5_cellIn (ad : Nat → Nat) (cs : Nat → ClassId)  : va_W := []
abbrev ty_X5_cellIn (cs : Nat → ClassId) : List (ClassId × FieldType) := []
def wp_X5_cellIn (x0 x1 : Int32) (Q : Int32 → Prop) : Prop :=
 ((x0 < 0 → Q (-1 : Int32)) ∧
 (¬ x0 < 0 → ((x0 < (17 : Int32) → (vp_in x0 17 ∧
 (vp_in (x0 + (1 : Int32)) 18 ∧
 (vp_in x0 18 ∧
 ((x1 < (tb_FIRST_COLUMN x0.toNatClampNeg) → Q (-1 : Int32)) ∧
 (¬ x1 < (tb_FIRST_COLUMN x0.toNatClampNeg) → ((((tb_FIRST_COLUMN x0.toNatClampNeg) + ((2 : Int32) * ((tb_FIRST_CELL (x0 + (1 : Int32)).toNatClampNeg) - (tb_FIRST_CELL x0.toNatClampNeg)))) ≤ x1 → Q (-1 : Int32)) ∧
 (¬ ((tb_FIRST_COLUMN x0.toNatClampNeg) + ((2 : Int32) * ((tb_FIRST_CELL (x0 + (1 : Int32)).toNatClampNeg) - (tb_FIRST_CELL x0.toNatClampNeg)))) ≤ x1 → ((((x1 - (tb_FIRST_COLUMN x0.toNatClampNeg)) - (x1 - (tb_FIRST_COLUMN x0.toNatClampNeg)) / (2 : Int32) * (2 : Int32)) = 0 → (vp_in x0 18 ∧
 Q ((tb_FIRST_CELL x0.toNatClampNeg) + ((x1 - (tb_FIRST_COLUMN x0.toNatClampNeg)) / (2 : Int32))))) ∧
 (¬ ((x1 - (tb_FIRST_COLUMN x0.toNatClampNeg)) - (x1 - (tb_FIRST_COLUMN x0.toNatClampNeg)) / (2 : Int32) * (2 : Int32)) = 0 → Q (-1 : Int32))))))))))) ∧
 (¬ x0 < (17 : Int32) → Q (-1 : Int32)))))
set_option maxHeartbeats 4000000 in
set_option maxRecDepth 100000 in
theorem b_X5_cellIn {p : Program} {e : Env} {s : State} {m : MethodId} {args : Array Value} {below : List Frame} {meth : Method} {c : Code} {QQ : State → Prop} {A : Nat → Prop} {ls : Array Slot} (l : Launch) (D : va_G) (ad : Nat → Nat) (cs : Nat → ClassId) (t1s t2s t3s t4s : Nat) (x0 x1 : Int32) (Q : Int32 → Prop) (hx : p.tables.exec = Jvm.exec) (hb : c.code = cX5_cellIn) (hml : c.maxLocals = 4) (hown : s.vm.findClass RX5 = some m.cls) (hts : ∀ w ∈ wsX5_cellIn, w.before args s = true) (hN : NW s) (hT : ST t1s t2s t3s t4s A s s.heap) (hP : va_P D vwCl (cl_X5_cellIn ad cs) s.heap) (hK : va_K D vwCl (ty_X5_cellIn cs) s) (hD : va_D A (cl_X5_cellIn ad cs)) (hA : ∀ q : Nat, s.heap.size ≤ q → A q) (hl : lv_has ls 4 [(0, .int x0), (1, .int x1)])
  (hret : ∀ (r : Int32) (pc : Nat) (ls : Array Slot), Q r → decode cX5_cellIn pc = .ok (.ireturn, 1) → W p l e rm_X5_cellIn s m args below meth c s.heap [] 0 0 QQ (F0 m pc ls [.int r]))
  (hw : wp_X5_cellIn x0 x1 Q) :
  W p l e rm_X5_cellIn s m args below meth c s.heap [] 0 0 QQ (F0 m 0 ls []) := by
  have S0 : CallFix p m c cX5_cellIn 4 s args wsX5_cellIn RX5 := ⟨hx, hb, hml, hown, hts⟩
  have hS : va_S A s.heap s.heap [] := va_S.rf
  have fl_24 := hts (.fieldLink RX5 24 "HopperCourt$Star" "FIRST_CELL" "[I") (by decide +kernel)
  have fl_27 := hts (.fieldLink RX5 27 "HopperCourt$Star" "FIRST_COLUMN" "[I") (by decide +kernel)
  unfold wp_X5_cellIn at hw
  refine lv_iload_n hx hb dX5_cellIn_0 rfl (lv_at hl 0 rfl) ?_
  refine lv_if_lt (tgt := 10) hx hb dX5_cellIn_1 (by decide) (fun c_1 => ?_) (fun c_1 => ?_)
  · have hw := hw.1 c_1
    refine lv_iconst (v := (-1 : Int32)) hx hb dX5_cellIn_10 (by decide) ?_
    exact hret _ _ _ hw dX5_cellIn_11
  · have hw := hw.2 c_1
    refine lv_iload_n hx hb dX5_cellIn_4 rfl (lv_at hl 0 rfl) ?_
    refine lv_bipush (v := (17 : Int32)) hx hb dX5_cellIn_5 (by decide) ?_
    refine lv_icmp_lt (tgt := 12) hx hb dX5_cellIn_7 (by decide) (fun c_2 => ?_) (fun c_2 => ?_)
    · have hw := hw.1 c_2
      refine va_gets hx hb hT.2.1.1 hS hown fl_27 (fun _ h9 => h9) dX5_cellIn_12 ?_
      refine lv_iload_n hx hb dX5_cellIn_15 rfl (lv_at hl 0 rfl) ?_
      obtain ⟨h_3, hw⟩ := hw
      refine va_ti hx hb hT.2.1.2 hS h_3 (v := .int (tb_FIRST_COLUMN x0.toNatClampNeg)) rfl dX5_cellIn_16 ?_
      refine lv_istore_n (lv' := [(2, .int (tb_FIRST_COLUMN x0.toNatClampNeg)), (0, .int x0), (1, .int x1)]) hx hb dX5_cellIn_17 rfl hl (by decide) rfl (fun ls hl => ?_)
      refine va_gets hx hb hT.1.1 hS hown fl_24 (fun _ h9 => h9) dX5_cellIn_18 ?_
      refine lv_iload_n hx hb dX5_cellIn_21 rfl (lv_at hl 1 rfl) ?_
      refine lv_iconst (v := (1 : Int32)) hx hb dX5_cellIn_22 (by decide) ?_
      refine lv_iadd hx hb dX5_cellIn_23 ?_
      obtain ⟨h_4, hw⟩ := hw
      refine va_ti hx hb hT.1.2 hS h_4 (v := .int (tb_FIRST_CELL (x0 + (1 : Int32)).toNatClampNeg)) rfl dX5_cellIn_24 ?_
      refine va_gets hx hb hT.1.1 hS hown fl_24 (fun _ h9 => h9) dX5_cellIn_25 ?_
      refine lv_iload_n hx hb dX5_cellIn_28 rfl (lv_at hl 1 rfl) ?_
      obtain ⟨h_5, hw⟩ := hw
      refine va_ti hx hb hT.1.2 hS h_5 (v := .int (tb_FIRST_CELL x0.toNatClampNeg)) rfl dX5_cellIn_29 ?_
      refine lv_isub hx hb dX5_cellIn_30 ?_
      refine lv_istore_n (lv' := [(3, .int ((tb_FIRST_CELL (x0 + (1 : Int32)).toNatClampNeg) - (tb_FIRST_CELL x0.toNatClampNeg))), (2, .int (tb_FIRST_COLUMN x0.toNatClampNeg)), (0, .int x0), (1, .int x1)]) hx hb dX5_cellIn_31 rfl hl (by decide) rfl (fun ls hl => ?_)
      refine lv_iload_n hx hb dX5_cellIn_32 rfl (lv_at hl 3 rfl) ?_
      refine lv_iload_n hx hb dX5_cellIn_33 rfl (lv_at hl 1 rfl) ?_
      refine lv_icmp_lt (tgt := 54) hx hb dX5_cellIn_34 (by decide) (fun c_6 => ?_) (fun c_6 => ?_)
      · have hw := hw.1 c_6
        refine lv_iconst (v := (-1 : Int32)) hx hb dX5_cellIn_54 (by decide) ?_
        exact hret _ _ _ hw dX5_cellIn_55
      · have hw := hw.2 c_6
        refine lv_iload_n hx hb dX5_cellIn_37 rfl (lv_at hl 3 rfl) ?_
        refine lv_iload_n hx hb dX5_cellIn_38 rfl (lv_at hl 1 rfl) ?_
        refine lv_iconst (v := (2 : Int32)) hx hb dX5_cellIn_39 (by decide) ?_
        refine lv_iload_n hx hb dX5_cellIn_40 rfl (lv_at hl 0 rfl) ?_
        refine lv_imul hx hb dX5_cellIn_41 ?_
        refine lv_iadd hx hb dX5_cellIn_42 ?_
        refine lv_icmp_ge (tgt := 54) hx hb dX5_cellIn_43 (by decide) (fun c_7 => ?_) (fun c_7 => ?_)
        · have hw := hw.1 c_7
          refine lv_iconst (v := (-1 : Int32)) hx hb dX5_cellIn_54 (by decide) ?_
          exact hret _ _ _ hw dX5_cellIn_55
        · have hw := hw.2 c_7
          refine lv_iload_n hx hb dX5_cellIn_46 rfl (lv_at hl 3 rfl) ?_
          refine lv_iload_n hx hb dX5_cellIn_47 rfl (lv_at hl 1 rfl) ?_
          refine lv_isub hx hb dX5_cellIn_48 ?_
          refine lv_iconst (v := (2 : Int32)) hx hb dX5_cellIn_49 (by decide) ?_
          refine lv_irem hx hb dX5_cellIn_50 (by decide) ?_
          refine lv_if_eq (tgt := 56) hx hb dX5_cellIn_51 (by decide) (fun c_8 => ?_) (fun c_8 => ?_)
          · have hw := hw.1 c_8
            refine va_gets hx hb hT.1.1 hS hown fl_24 (fun _ h9 => h9) dX5_cellIn_56 ?_
            refine lv_iload_n hx hb dX5_cellIn_59 rfl (lv_at hl 2 rfl) ?_
            obtain ⟨h_9, hw⟩ := hw
            refine va_ti hx hb hT.1.2 hS h_9 (v := .int (tb_FIRST_CELL x0.toNatClampNeg)) rfl dX5_cellIn_60 ?_
            refine lv_iload_n hx hb dX5_cellIn_61 rfl (lv_at hl 3 rfl) ?_
            refine lv_iload_n hx hb dX5_cellIn_62 rfl (lv_at hl 1 rfl) ?_
            refine lv_isub hx hb dX5_cellIn_63 ?_
            refine lv_iconst (v := (2 : Int32)) hx hb dX5_cellIn_64 (by decide) ?_
            refine lv_idiv hx hb dX5_cellIn_65 (by decide) ?_
            refine lv_iadd hx hb dX5_cellIn_66 ?_
            exact hret _ _ _ hw dX5_cellIn_67
          · have hw := hw.2 c_8
            refine lv_iconst (v := (-1 : Int32)) hx hb dX5_cellIn_54 (by decide) ?_
            exact hret _ _ _ hw dX5_cellIn_55
    · have hw := hw.2 c_2
      refine lv_iconst (v := (-1 : Int32)) hx hb dX5_cellIn_10 (by decide) ?_
      exact hret _ _ _ hw dX5_cellIn_11
set_option maxHeartbeats 4000000 in
set_option maxRecDepth 100000 in
theorem c_X5_cellIn (l : Launch) (D : va_G) (ad : Nat → Nat) (cs : Nat → ClassId) (sz : Nat) (t1s t2s t3s t4s : Nat) (x0 x1 : Int32) (Q : Int32 → Prop) (hw : wp_X5_cellIn x0 x1 Q) :
  Met l yX5_cellIn wsX5_cellIn rm_X5_cellIn (va_Pc [.int x0, .int x1] (PXT D (cl_X5_cellIn ad cs) (ty_X5_cellIn cs) sz t1s t2s t3s t4s)) (vp_Si Q) 0 0 (fun _ => False) := by
  refine Met.ofW (cc := cX5_cellIn) (maxL := 4) (ret := (some .int)) (by decide) rfl ?_
  intro p e s m args below meth c s₁ B hml hv
  obtain ⟨rfl, ⟨hsz, hP, hK, hD0, hN⟩, hT⟩ := hv
  subst hsz
  have hl := lv_entry ([.int x0, .int x1]) (n := 4) (Nat.le_of_ble_eq_true rfl)
  rw [lg_entry_eq]
  have hx := B.exec
  have hb := B.bytes
  have hr := B.returns
  exact b_X5_cellIn l D ad cs t1s t2s t3s t4s x0 x1 Q hx hb hml (findClass_of_methodNamed B.named) (atoms_spec (ws := wsX5_cellIn) B.pre) hN hT hP hK hD0.self (fun q h => Or.inr h) hl (A := va_A (cl_X5_cellIn ad cs) s.heap.size) (fun r pc ls hq hd => W.iret (v := r) hx hb hr (fun t ht hW => ⟨r, rfl, hq, ht⟩) (fun _ h => nomatch h) hd) hw
abbrev rm_X5_steps : Room := { frames := 1, cells := 0, slots := 0, locals := 21 }
abbrev cl_X5_steps (ad : Nat → Nat) (cs : Nat → ClassId) (vS_rows vS_columns : Nat → Int32) : va_W := [((ad 1), .inr (5, [.ref (ad 2), .ref (ad 3), .ref (ad 4), .ref (ad 5)])), ((ad 2), .inl ((cs 2), 121, .inl vS_rows)), ((ad 3), .inl ((cs 3), 121, .inl vS_columns))]
abbrev ty_X5_steps (cs : Nat → ClassId) : List (ClassId × FieldType) := [((cs 2), .int), ((cs 3), .int)]
def wp_X5_steps (vS_rows vS_columns : Nat → Int32) (x1 x2 : Int32) (Q : Int32 → Prop) : Prop :=
 wp_X6_isCell x1 (fun r_1 =>
 ((r_1 = 0 → Q (-1 : Int32)) ∧
 (¬ r_1 = 0 → wp_X6_isCell x2 (fun r_3 =>
 ((¬ r_3 = 0 → (vp_in x1 121 ∧
 (vp_in x2 121 ∧
 (vp_in x1 121 ∧
 (vp_in x2 121 ∧
 Q (if (if 0 ≤ ((vS_rows x1.toNatClampNeg) - (vS_rows x2.toNatClampNeg)) then ((vS_rows x1.toNatClampNeg) - (vS_rows x2.toNatClampNeg)) else 0 - ((vS_rows x1.toNatClampNeg) - (vS_rows x2.toNatClampNeg))) < (((if 0 ≤ ((vS_rows x1.toNatClampNeg) - (vS_rows x2.toNatClampNeg)) then ((vS_rows x1.toNatClampNeg) - (vS_rows x2.toNatClampNeg)) else 0 - ((vS_rows x1.toNatClampNeg) - (vS_rows x2.toNatClampNeg))) + (if 0 ≤ ((vS_columns x1.toNatClampNeg) - (vS_columns x2.toNatClampNeg)) then ((vS_columns x1.toNatClampNeg) - (vS_columns x2.toNatClampNeg)) else 0 - ((vS_columns x1.toNatClampNeg) - (vS_columns x2.toNatClampNeg)))) / (2 : Int32)) then (((if 0 ≤ ((vS_rows x1.toNatClampNeg) - (vS_rows x2.toNatClampNeg)) then ((vS_rows x1.toNatClampNeg) - (vS_rows x2.toNatClampNeg)) else 0 - ((vS_rows x1.toNatClampNeg) - (vS_rows x2.toNatClampNeg))) + (if 0 ≤ ((vS_columns x1.toNatClampNeg) - (vS_columns x2.toNatClampNeg)) then ((vS_columns x1.toNatClampNeg) - (vS_columns x2.toNatClampNeg)) else 0 - ((vS_columns x1.toNatClampNeg) - (vS_columns x2.toNatClampNeg)))) / (2 : Int32)) else (if 0 ≤ ((vS_rows x1.toNatClampNeg) - (vS_rows x2.toNatClampNeg)) then ((vS_rows x1.toNatClampNeg) - (vS_rows x2.toNatClampNeg)) else 0 - ((vS_rows x1.toNatClampNeg) - (vS_rows x2.toNatClampNeg))))))))) ∧
 (r_3 = 0 → Q (-1 : Int32)))))))
set_option maxHeartbeats 4000000 in
set_option maxRecDepth 100000 in
theorem b_X5_steps {p : Program} {e : Env} {s : State} {m : MethodId} {args : Array Value} {below : List Frame} {meth : Method} {c : Code} {QQ : State → Prop} {A : Nat → Prop} {ls : Array Slot} (l : Launch) (D : va_G) (ad : Nat → Nat) (cs : Nat → ClassId) (vS_rows vS_columns : Nat → Int32) (x1 x2 : Int32) (Q : Int32 → Prop) (hx : p.tables.exec = Jvm.exec) (hb : c.code = cX5_steps) (hml : c.maxLocals = 5) (hown : s.vm.findClass RX5 = some m.cls) (hts : ∀ w ∈ wsX5_steps, w.before args s = true) (hN : NW s) (hP : va_P D vwCl (cl_X5_steps ad cs vS_rows vS_columns) s.heap) (hK : va_K D vwCl (ty_X5_steps cs) s) (hD : va_D A (cl_X5_steps ad cs vS_rows vS_columns)) (hA : ∀ q : Nat, s.heap.size ≤ q → A q) (hl : lv_has ls 5 [(0, .ref (ad 1)), (1, .int x1), (2, .int x2)])
  (hret : ∀ (r : Int32) (pc : Nat) (ls : Array Slot), Q r → decode cX5_steps pc = .ok (.ireturn, 1) → W p l e rm_X5_steps s m args below meth c s.heap [] 0 0 QQ (F0 m pc ls [.int r]))
  (hw : wp_X5_steps vS_rows vS_columns x1 x2 Q) :
  W p l e rm_X5_steps s m args below meth c s.heap [] 0 0 QQ (F0 m 0 ls []) := by
  have S0 : CallFix p m c cX5_steps 5 s args wsX5_steps RX5 := ⟨hx, hb, hml, hown, hts⟩
  have inX5 : ∀ w ∈ u_ws RX5 TX5 4, w ∈ wsX5_steps := by decide +kernel
  have fl_15 := hts (.fieldLink RX5 15 "HopperCourt$Star" "columns" "[I") (by decide +kernel)
  have fl_9 := hts (.fieldLink RX5 9 "HopperCourt$Star" "rows" "[I") (by decide +kernel)
  unfold wp_X5_steps at hw
  refine lv_iload_n hx hb dX5_steps_0 rfl (lv_at hl 1 rfl) ?_
  refine pcSN (rest := []) S0 (c_X6_isCell l D ad cs s.heap.size x1 _ hw) ⟨va_cnB (host := RX6) 1 hts gX5_steps_X6_isCell_n43 rfl rfl rfl hN.1 (hts (.initialized RX6) (by decide +kernel)) (by decide +kernel) ⟨Nat.le_of_ble_eq_true rfl, Nat.le_of_ble_eq_true rfl⟩, hts (.static yX6_isCell) (by decide +kernel), trivial⟩ hN hK hP hD [] [] rfl rfl rfl rfl rfl hl.1 (Nat.le_of_ble_eq_true rfl) ⟨Nat.le_of_ble_eq_true rfl, Nat.le_of_ble_eq_true rfl⟩ dX5_steps_1 (fun r_1 hw => ?_)
  refine lv_if_eq (tgt := 14) hx hb dX5_steps_4 (by decide) (fun c_2 => ?_) (fun c_2 => ?_)
  · have hw := hw.1 c_2
    refine lv_iconst (v := (-1 : Int32)) hx hb dX5_steps_14 (by decide) ?_
    exact hret _ _ _ hw dX5_steps_15
  · have hw := hw.2 c_2
    refine lv_iload_n hx hb dX5_steps_7 rfl (lv_at hl 2 rfl) ?_
    refine pcSN (rest := []) S0 (c_X6_isCell l D ad cs s.heap.size x2 _ hw) ⟨va_cnB (host := RX6) 1 hts gX5_steps_X6_isCell_n43 rfl rfl rfl hN.1 (hts (.initialized RX6) (by decide +kernel)) (by decide +kernel) ⟨Nat.le_of_ble_eq_true rfl, Nat.le_of_ble_eq_true rfl⟩, hts (.static yX6_isCell) (by decide +kernel), trivial⟩ hN hK hP hD [] [] rfl rfl rfl rfl rfl hl.1 (Nat.le_of_ble_eq_true rfl) ⟨Nat.le_of_ble_eq_true rfl, Nat.le_of_ble_eq_true rfl⟩ dX5_steps_8 (fun r_3 hw => ?_)
    refine lv_if_ne (tgt := 16) hx hb dX5_steps_11 (by decide) (fun c_4 => ?_) (fun c_4 => ?_)
    · have hw := hw.1 c_4
      refine lv_aload_n hx hb dX5_steps_16 rfl (lv_at hl 0 rfl) ?_
      refine va_get (D := D) (ci := 5) (v := .ref (ad 2)) (C := RX5) (T := TX5) (N := 4) hx hb hts inX5 hown hK hP 0 rfl rfl 0 (by decide) fl_9 (fun _ h9 => h9) rfl dX5_steps_17 ?_
      refine lv_iload_n hx hb dX5_steps_20 rfl (lv_at hl 1 rfl) ?_
      obtain ⟨h_5, hw⟩ := hw
      refine va_iald hx hb hK hP 1 0 rfl rfl h_5 dX5_steps_21 ?_
      refine lv_aload_n hx hb dX5_steps_22 rfl (lv_at hl 0 rfl) ?_
      refine va_get (D := D) (ci := 5) (v := .ref (ad 2)) (C := RX5) (T := TX5) (N := 4) hx hb hts inX5 hown hK hP 0 rfl rfl 0 (by decide) fl_9 (fun _ h9 => h9) rfl dX5_steps_23 ?_
      refine lv_iload_n hx hb dX5_steps_26 rfl (lv_at hl 2 rfl) ?_
      obtain ⟨h_6, hw⟩ := hw
      refine va_iald hx hb hK hP 1 0 rfl rfl h_6 dX5_steps_27 ?_
      refine lv_isub hx hb dX5_steps_28 ?_
      refine va_mabs hx hb (hml.trans hl.1.symm) hown (hts (.methodLink RX5 47 Lib.Math.abs.name) (by decide +kernel)) (hts (.static Lib.Math.abs.name) (by decide +kernel)) (hts (.initialized "java/lang/Math") (by decide +kernel)) (hts (.code Lib.Math.abs.name Lib.Math.abs.code 1 (some .int)) (by decide +kernel)) (Nat.le_of_ble_eq_true rfl) (Nat.le_of_ble_eq_true rfl) (Nat.le_of_ble_eq_true rfl) (Nat.le_of_ble_eq_true rfl) dX5_steps_29 ?_
      refine lv_istore_n (lv' := [(3, .int (if 0 ≤ ((vS_rows x1.toNatClampNeg) - (vS_rows x2.toNatClampNeg)) then ((vS_rows x1.toNatClampNeg) - (vS_rows x2.toNatClampNeg)) else 0 - ((vS_rows x1.toNatClampNeg) - (vS_rows x2.toNatClampNeg)))), (0, .ref (ad 1)), (1, .int x1), (2, .int x2)]) hx hb dX5_steps_32 rfl hl (by decide) rfl (fun ls hl => ?_)
      refine lv_aload_n hx hb dX5_steps_33 rfl (lv_at hl 1 rfl) ?_
      refine va_get (D := D) (ci := 5) (v := .ref (ad 3)) (C := RX5) (T := TX5) (N := 4) hx hb hts inX5 hown hK hP 0 rfl rfl 1 (by decide) fl_15 (fun _ h9 => h9) rfl dX5_steps_34 ?_
      refine lv_iload_n hx hb dX5_steps_37 rfl (lv_at hl 2 rfl) ?_
      obtain ⟨h_7, hw⟩ := hw
      refine va_iald hx hb hK hP 2 1 rfl rfl h_7 dX5_steps_38 ?_
      refine lv_aload_n hx hb dX5_steps_39 rfl (lv_at hl 1 rfl) ?_
      refine va_get (D := D) (ci := 5) (v := .ref (ad 3)) (C := RX5) (T := TX5) (N := 4) hx hb hts inX5 hown hK hP 0 rfl rfl 1 (by decide) fl_15 (fun _ h9 => h9) rfl dX5_steps_40 ?_
      refine lv_iload_n hx hb dX5_steps_43 rfl (lv_at hl 3 rfl) ?_
      obtain ⟨h_8, hw⟩ := hw
      refine va_iald hx hb hK hP 2 1 rfl rfl h_8 dX5_steps_44 ?_
      refine lv_isub hx hb dX5_steps_45 ?_
      refine va_mabs hx hb (hml.trans hl.1.symm) hown (hts (.methodLink RX5 47 Lib.Math.abs.name) (by decide +kernel)) (hts (.static Lib.Math.abs.name) (by decide +kernel)) (hts (.initialized "java/lang/Math") (by decide +kernel)) (hts (.code Lib.Math.abs.name Lib.Math.abs.code 1 (some .int)) (by decide +kernel)) (Nat.le_of_ble_eq_true rfl) (Nat.le_of_ble_eq_true rfl) (Nat.le_of_ble_eq_true rfl) (Nat.le_of_ble_eq_true rfl) dX5_steps_46 ?_
      refine lv_istore (lv' := [(4, .int (if 0 ≤ ((vS_columns x1.toNatClampNeg) - (vS_columns x2.toNatClampNeg)) then ((vS_columns x1.toNatClampNeg) - (vS_columns x2.toNatClampNeg)) else 0 - ((vS_columns x1.toNatClampNeg) - (vS_columns x2.toNatClampNeg)))), (3, .int (if 0 ≤ ((vS_rows x1.toNatClampNeg) - (vS_rows x2.toNatClampNeg)) then ((vS_rows x1.toNatClampNeg) - (vS_rows x2.toNatClampNeg)) else 0 - ((vS_rows x1.toNatClampNeg) - (vS_rows x2.toNatClampNeg)))), (0, .ref (ad 1)), (1, .int x1), (2, .int x2)]) hx hb dX5_steps_49 hl (by decide) rfl (fun ls hl => ?_)
      refine lv_iload_n hx hb dX5_steps_51 rfl (lv_at hl 1 rfl) ?_
      refine lv_iload_n hx hb dX5_steps_52 rfl (lv_at hl 1 rfl) ?_
      refine lv_iload hx hb dX5_steps_53 (lv_at hl 0 rfl) ?_
      refine lv_iadd hx hb dX5_steps_55 ?_
      refine lv_iconst (v := (2 : Int32)) hx hb dX5_steps_56 (by decide) ?_
      refine lv_idiv hx hb dX5_steps_57 (by decide) ?_
      refine va_mmax hx hb (hml.trans hl.1.symm) hown (hts (.methodLink RX5 53 Lib.Math.max.name) (by decide +kernel)) (hts (.static Lib.Math.max.name) (by decide +kernel)) (hts (.initialized "java/lang/Math") (by decide +kernel)) (hts (.code Lib.Math.max.name Lib.Math.max.code 2 (some .int)) (by decide +kernel)) (Nat.le_of_ble_eq_true rfl) (Nat.le_of_ble_eq_true rfl) (Nat.le_of_ble_eq_true rfl) (Nat.le_of_ble_eq_true rfl) dX5_steps_58 ?_
      exact hret _ _ _ hw dX5_steps_61
    · have hw := hw.2 c_4
      refine lv_iconst (v := (-1 : Int32)) hx hb dX5_steps_14 (by decide) ?_
      exact hret _ _ _ hw dX5_steps_15
set_option maxHeartbeats 4000000 in
set_option maxRecDepth 100000 in
theorem c_X5_steps (l : Launch) (D : va_G) (ad : Nat → Nat) (cs : Nat → ClassId) (sz : Nat) (vS_rows vS_columns : Nat → Int32) (x1 x2 : Int32) (Q : Int32 → Prop) (hw : wp_X5_steps vS_rows vS_columns x1 x2 Q) :
  Met l yX5_steps wsX5_steps rm_X5_steps (va_Pc [.ref (ad 1), .int x1, .int x2] (PX D (cl_X5_steps ad cs vS_rows vS_columns) (ty_X5_steps cs) sz)) (vp_Si Q) 0 0 (fun _ => False) := by
  refine Met.ofW (cc := cX5_steps) (maxL := 5) (ret := (some .int)) (by decide) rfl ?_
  intro p e s m args below meth c s₁ B hml hv
  obtain ⟨rfl, hsz, hP, hK, hD0, hN⟩ := hv
  subst hsz
  have hl := lv_entry ([.ref (ad 1), .int x1, .int x2]) (n := 5) (Nat.le_of_ble_eq_true rfl)
  rw [lg_entry_eq]
  have hx := B.exec
  have hb := B.bytes
  have hr := B.returns
  exact b_X5_steps l D ad cs vS_rows vS_columns x1 x2 Q hx hb hml (findClass_of_methodNamed B.named) (atoms_spec (ws := wsX5_steps) B.pre) hN hP hK hD0.self (fun q h => Or.inr h) hl (A := va_A (cl_X5_steps ad cs vS_rows vS_columns) s.heap.size) (fun r pc ls hq hd => W.iret (v := r) hx hb hr (fun t ht hW => ⟨r, rfl, hq, ht⟩) (fun _ h => nomatch h) hd) hw
abbrev rm_X3_end : Room := { frames := 0, cells := 0, slots := 0, locals := 0 }
abbrev cl_X3_end (ad : Nat → Nat) (cs : Nat → ClassId) (vR_hopsToEnd : Nat → Int32) : va_W := [((ad 8), .inr (3, [.ref (ad 1), .ref (ad 6), .ref (ad 9), .ref (ad 10), .ref (ad 11)])), ((ad 9), .inl ((cs 9), 121, .inl vR_hopsToEnd))]
abbrev ty_X3_end (cs : Nat → ClassId) : List (ClassId × FieldType) := [((cs 9), .int)]
def wb_X3_end_4 (vR_hopsToEnd : Nat → Int32) (x1 : Int32) (Q K4 : Int32 → Prop) (P4 : Int32 → Int32 → Prop) (x2 x3 : Int32) : Prop :=
 (((121 : Int32) ≤ x3 → Q (-1 : Int32)) ∧
 (¬ (121 : Int32) ≤ x3 → (vp_in x3 121 ∧
 (((vR_hopsToEnd x3.toNatClampNeg) = (-1 : Int32) → P4 x2 (x3 + (1 : Int32))) ∧
 (¬ (vR_hopsToEnd x3.toNatClampNeg) = (-1 : Int32) → ((¬ x2 = x1 → P4 (x2 + (1 : Int32)) (x3 + (1 : Int32))) ∧
 (x2 = x1 → K4 x3)))))))
def wl_X3_end_4 (vR_hopsToEnd : Nat → Int32) (x1 : Int32) (Q K4 : Int32 → Prop) (x2 x3 : Int32) : Prop := ∀ P4 : Int32 → Int32 → Prop, (∀ (x2 x3 : Int32), wb_X3_end_4 vR_hopsToEnd x1 Q K4 P4 x2 x3 → P4 x2 x3) → P4 x2 x3
def wp_X3_end (vR_hopsToEnd : Nat → Int32) (x1 : Int32) (Q : Int32 → Prop) : Prop :=
 wl_X3_end_4 vR_hopsToEnd x1 Q (fun x3_5 => Q x3_5) (0 : Int32) (0 : Int32)
set_option maxHeartbeats 4000000 in
set_option maxRecDepth 100000 in
theorem b_X3_end {p : Program} {e : Env} {s : State} {m : MethodId} {args : Array Value} {below : List Frame} {meth : Method} {c : Code} {QQ : State → Prop} {A : Nat → Prop} {ls : Array Slot} (l : Launch) (D : va_G) (ad : Nat → Nat) (cs : Nat → ClassId) (vR_hopsToEnd : Nat → Int32) (x1 : Int32) (Q : Int32 → Prop) (hx : p.tables.exec = Jvm.exec) (hb : c.code = cX3_end) (hml : c.maxLocals = 4) (hown : s.vm.findClass RX3 = some m.cls) (hts : ∀ w ∈ wsX3_end, w.before args s = true) (hN : NW s) (hP : va_P D vwCl (cl_X3_end ad cs vR_hopsToEnd) s.heap) (hK : va_K D vwCl (ty_X3_end cs) s) (hD : va_D A (cl_X3_end ad cs vR_hopsToEnd)) (hA : ∀ q : Nat, s.heap.size ≤ q → A q) (hl : lv_has ls 4 [(0, .ref (ad 8)), (1, .int x1)])
  (hret : ∀ (r : Int32) (pc : Nat) (ls : Array Slot), Q r → decode cX3_end pc = .ok (.ireturn, 1) → W p l e rm_X3_end s m args below meth c s.heap [] 0 0 QQ (F0 m pc ls [.int r]))
  (hw : wp_X3_end vR_hopsToEnd x1 Q) :
  W p l e rm_X3_end s m args below meth c s.heap [] 0 0 QQ (F0 m 0 ls []) := by
  have S0 : CallFix p m c cX3_end 4 s args wsX3_end RX3 := ⟨hx, hb, hml, hown, hts⟩
  have inX3 : ∀ w ∈ u_ws RX3 TX3 5, w ∈ wsX3_end := by decide +kernel
  have fl_9 := hts (.fieldLink RX3 9 "HopperCourt$Reach" "hopsToEnd" "[I") (by decide +kernel)
  have hL4 : ∀ (x1 : Int32) (K4 : Int32 → Prop) (x2 x3 : Int32), wl_X3_end_4 vR_hopsToEnd x1 Q K4 x2 x3 → (∀ (x3 : Int32), K4 x3 → ∀ (ls : Array Slot), lv_has ls 4 [(3, .int x3)] → W p l e rm_X3_end s m args below meth c s.heap [] 0 0 QQ (F0 m 25 ls [])) → ∀ (ls : Array Slot), lv_has ls 4 [(0, .ref (ad 8)), (1, .int x1), (2, .int x2), (3, .int x3)] → W p l e rm_X3_end s m args below meth c s.heap [] 0 0 QQ (F0 m 4 ls []) := by
    intro x1 K4 x2 x3 hw hK4
    unfold wl_X3_end_4 at hw
    refine hw (fun (x2 x3 : Int32) => ∀ (ls : Array Slot), lv_has ls 4 [(0, .ref (ad 8)), (1, .int x1), (2, .int x2), (3, .int x3)] → W p l e rm_X3_end s m args below meth c s.heap [] 0 0 QQ (F0 m 4 ls [])) ?_
    intro x2 x3 hw ls hl
    unfold wb_X3_end_4 at hw
    refine lv_iload_n hx hb dX3_end_4 rfl (lv_at hl 3 rfl) ?_
    refine lv_bipush (v := (121 : Int32)) hx hb dX3_end_5 (by decide) ?_
    refine lv_icmp_ge (tgt := 36) hx hb dX3_end_7 (by decide) (fun c_1 => ?_) (fun c_1 => ?_)
    · have hw := hw.1 c_1
      refine lv_iconst (v := (-1 : Int32)) hx hb dX3_end_36 (by decide) ?_
      exact hret _ _ _ hw dX3_end_37
    · have hw := hw.2 c_1
      refine lv_aload_n hx hb dX3_end_10 rfl (lv_at hl 0 rfl) ?_
      refine va_get (D := D) (ci := 3) (v := .ref (ad 9)) (C := RX3) (T := TX3) (N := 5) hx hb hts inX3 hown hK hP 0 rfl rfl 2 (by decide) fl_9 (fun _ h9 => h9) rfl dX3_end_11 ?_
      refine lv_iload_n hx hb dX3_end_14 rfl (lv_at hl 3 rfl) ?_
      obtain ⟨h_2, hw⟩ := hw
      refine va_iald hx hb hK hP 1 0 rfl rfl h_2 dX3_end_15 ?_
      refine lv_iconst (v := (-1 : Int32)) hx hb dX3_end_16 (by decide) ?_
      refine lv_icmp_eq (tgt := 30) hx hb dX3_end_17 (by decide) (fun c_3 => ?_) (fun c_3 => ?_)
      · have hw := hw.1 c_3
        refine lv_iinc (v := (x3 + (1 : Int32))) (lv' := [(3, .int (x3 + (1 : Int32))), (0, .ref (ad 8)), (1, .int x1), (2, .int x2)]) hx hb dX3_end_30 hl (k := 3) rfl rfl (by decide) rfl (fun ls hl => ?_)
        refine lv_goto (tgt := 4) hx hb dX3_end_33 (by decide) ?_
        exact hw _ (lv_sub hl [1, 2, 3, 0] rfl)
      · have hw := hw.2 c_3
        refine lv_iload_n hx hb dX3_end_20 rfl (lv_at hl 2 rfl) ?_
        refine lv_iload_n hx hb dX3_end_21 rfl (lv_at hl 1 rfl) ?_
        refine lv_icmp_ne (tgt := 27) hx hb dX3_end_22 (by decide) (fun c_4 => ?_) (fun c_4 => ?_)
        · have hw := hw.1 c_4
          refine lv_iinc (v := (x2 + (1 : Int32))) (lv' := [(2, .int (x2 + (1 : Int32))), (0, .ref (ad 8)), (1, .int x1), (3, .int x3)]) hx hb dX3_end_27 hl (k := 2) rfl rfl (by decide) rfl (fun ls hl => ?_)
          refine lv_iinc (v := (x3 + (1 : Int32))) (lv' := [(3, .int (x3 + (1 : Int32))), (2, .int (x2 + (1 : Int32))), (0, .ref (ad 8)), (1, .int x1)]) hx hb dX3_end_30 hl (k := 3) rfl rfl (by decide) rfl (fun ls hl => ?_)
          refine lv_goto (tgt := 4) hx hb dX3_end_33 (by decide) ?_
          exact hw _ (lv_sub hl [2, 3, 1, 0] rfl)
        · have hw := hw.2 c_4
          exact hK4 x3 hw _ (lv_sub hl [3] rfl)
  unfold wp_X3_end at hw
  refine lv_iconst (v := (0 : Int32)) hx hb dX3_end_0 (by decide) ?_
  refine lv_istore_n (lv' := [(2, .int (0 : Int32)), (0, .ref (ad 8)), (1, .int x1)]) hx hb dX3_end_1 rfl hl (by decide) rfl (fun ls hl => ?_)
  refine lv_iconst (v := (0 : Int32)) hx hb dX3_end_2 (by decide) ?_
  refine lv_istore_n (lv' := [(3, .int (0 : Int32)), (2, .int (0 : Int32)), (0, .ref (ad 8)), (1, .int x1)]) hx hb dX3_end_3 rfl hl (by decide) rfl (fun ls hl => ?_)
  refine hL4 x1 _ (0 : Int32) (0 : Int32) hw ?_ _ (lv_sub hl [2, 3, 1, 0] rfl)
  intro x3_5 hw ls hl
  refine lv_iload_n hx hb dX3_end_25 rfl (lv_at hl 0 rfl) ?_
  exact hret _ _ _ hw dX3_end_26
set_option maxHeartbeats 4000000 in
set_option maxRecDepth 100000 in
theorem c_X3_end (l : Launch) (D : va_G) (ad : Nat → Nat) (cs : Nat → ClassId) (sz : Nat) (vR_hopsToEnd : Nat → Int32) (x1 : Int32) (Q : Int32 → Prop) (hw : wp_X3_end vR_hopsToEnd x1 Q) :
  Met l yX3_end wsX3_end rm_X3_end (va_Pc [.ref (ad 8), .int x1] (PX D (cl_X3_end ad cs vR_hopsToEnd) (ty_X3_end cs) sz)) (vp_Si Q) 0 0 (fun _ => False) := by
  refine Met.ofW (cc := cX3_end) (maxL := 4) (ret := (some .int)) (by decide) rfl ?_
  intro p e s m args below meth c s₁ B hml hv
  obtain ⟨rfl, hsz, hP, hK, hD0, hN⟩ := hv
  subst hsz
  have hl := lv_entry ([.ref (ad 8), .int x1]) (n := 4) (Nat.le_of_ble_eq_true rfl)
  rw [lg_entry_eq]
  have hx := B.exec
  have hb := B.bytes
  have hr := B.returns
  exact b_X3_end l D ad cs vR_hopsToEnd x1 Q hx hb hml (findClass_of_methodNamed B.named) (atoms_spec (ws := wsX3_end) B.pre) hN hP hK hD0.self (fun q h => Or.inr h) hl (A := va_A (cl_X3_end ad cs vR_hopsToEnd) s.heap.size) (fun r pc ls hq hd => W.iret (v := r) hx hb hr (fun t ht hW => ⟨r, rfl, hq, ht⟩) (fun _ h => nomatch h) hd) hw
abbrev rm_X3_lowestNearer : Room := { frames := 3, cells := 0, slots := 0, locals := 67 }
abbrev cl_X3_lowestNearer (ad : Nat → Nat) (cs : Nat → ClassId) (vS_nexts vM_owners vR_level : Nat → Int32) : va_W := [((ad 1), .inr (5, [.ref (ad 2), .ref (ad 3), .ref (ad 4), .ref (ad 5)])), ((ad 5), .inl ((cs 5), 726, .inl vS_nexts)), ((ad 6), .inr (1, [.ref (ad 1), .ref (ad 7)])), ((ad 7), .inl ((cs 7), 121, .inl vM_owners)), ((ad 8), .inr (3, [.ref (ad 1), .ref (ad 6), .ref (ad 9), .ref (ad 10), .ref (ad 11)])), ((ad 10), .inl ((cs 10), 121, .inl vR_level))]
abbrev ty_X3_lowestNearer (cs : Nat → ClassId) : List (ClassId × FieldType) := [((cs 5), .int), ((cs 7), .int), ((cs 10), .int)]
def wJ_X3_lowestNearer_51 (x3 x4 x5 t0 : Int32) (P5 : Int32 → Int32 → Prop) : Prop :=
 ((t0 = 0 → P5 x3 (x4 + (1 : Int32))) ∧
 (¬ t0 = 0 → ((x3 = (-1 : Int32) → P5 x5 (x4 + (1 : Int32))) ∧
 (¬ x3 = (-1 : Int32) → ((x3 ≤ x5 → P5 x3 (x4 + (1 : Int32))) ∧
 (¬ x3 ≤ x5 → P5 x5 (x4 + (1 : Int32))))))))
def wb_X3_lowestNearer_5 (vS_nexts vM_owners vR_level : Nat → Int32) (x1 x2 : Int32) (K5 : Int32 → Prop) (P5 : Int32 → Int32 → Prop) (x3 x4 : Int32) : Prop :=
 (((6 : Int32) ≤ x4 → K5 x3) ∧
 (¬ (6 : Int32) ≤ x4 → wp_X3_landing vS_nexts vM_owners x1 x4 x2 (fun r_5 =>
 ((r_5 = (-1 : Int32) → wJ_X3_lowestNearer_51 x3 x4 r_5 (0 : Int32) P5) ∧
 (¬ r_5 = (-1 : Int32) → (vp_in r_5 121 ∧
 (vp_in x1 121 ∧
 ((¬ (vR_level r_5.toNatClampNeg) = ((vR_level x1.toNatClampNeg) - (1 : Int32)) → wJ_X3_lowestNearer_51 x3 x4 r_5 (0 : Int32) P5) ∧
 ((vR_level r_5.toNatClampNeg) = ((vR_level x1.toNatClampNeg) - (1 : Int32)) → wJ_X3_lowestNearer_51 x3 x4 r_5 (1 : Int32) P5)))))))))
def wl_X3_lowestNearer_5 (vS_nexts vM_owners vR_level : Nat → Int32) (x1 x2 : Int32) (K5 : Int32 → Prop) (x3 x4 : Int32) : Prop := ∀ P5 : Int32 → Int32 → Prop, (∀ (x3 x4 : Int32), wb_X3_lowestNearer_5 vS_nexts vM_owners vR_level x1 x2 K5 P5 x3 x4 → P5 x3 x4) → P5 x3 x4
def wp_X3_lowestNearer (vS_nexts vM_owners vR_level : Nat → Int32) (x1 x2 : Int32) (Q : Int32 → Prop) : Prop :=
 wl_X3_lowestNearer_5 vS_nexts vM_owners vR_level x1 x2 (fun x3_10 => Q x3_10) (-1 : Int32) (0 : Int32)
set_option maxHeartbeats 4000000 in
set_option maxRecDepth 100000 in
theorem b_X3_lowestNearer {p : Program} {e : Env} {s : State} {m : MethodId} {args : Array Value} {below : List Frame} {meth : Method} {c : Code} {QQ : State → Prop} {A : Nat → Prop} {ls : Array Slot} (l : Launch) (D : va_G) (ad : Nat → Nat) (cs : Nat → ClassId) (vS_nexts vM_owners vR_level : Nat → Int32) (x1 x2 : Int32) (Q : Int32 → Prop) (hx : p.tables.exec = Jvm.exec) (hb : c.code = cX3_lowestNearer) (hml : c.maxLocals = 7) (hown : s.vm.findClass RX3 = some m.cls) (hts : ∀ w ∈ wsX3_lowestNearer, w.before args s = true) (hN : NW s) (hP : va_P D vwCl (cl_X3_lowestNearer ad cs vS_nexts vM_owners vR_level) s.heap) (hK : va_K D vwCl (ty_X3_lowestNearer cs) s) (hD : va_D A (cl_X3_lowestNearer ad cs vS_nexts vM_owners vR_level)) (hA : ∀ q : Nat, s.heap.size ≤ q → A q) (hl : lv_has ls 7 [(0, .ref (ad 8)), (1, .int x1), (2, .int x2)])
  (hret : ∀ (r : Int32) (pc : Nat) (ls : Array Slot), Q r → decode cX3_lowestNearer pc = .ok (.ireturn, 1) → W p l e rm_X3_lowestNearer s m args below meth c s.heap [] 0 0 QQ (F0 m pc ls [.int r]))
  (hw : wp_X3_lowestNearer vS_nexts vM_owners vR_level x1 x2 Q) :
  W p l e rm_X3_lowestNearer s m args below meth c s.heap [] 0 0 QQ (F0 m 0 ls []) := by
  have S0 : CallFix p m c cX3_lowestNearer 7 s args wsX3_lowestNearer RX3 := ⟨hx, hb, hml, hown, hts⟩
  have inX3 : ∀ w ∈ u_ws RX3 TX3 5, w ∈ wsX3_lowestNearer := by decide +kernel
  have fl_15 := hts (.fieldLink RX3 15 "HopperCourt$Reach" "level" "[I") (by decide +kernel)
  have hJ51 : ∀ (x3 x4 x5 t0 : Int32) (P5 : Int32 → Int32 → Prop) (x1 x2 : Int32), wJ_X3_lowestNearer_51 x3 x4 x5 t0 P5 → (∀ (x3 x4 : Int32), P5 x3 x4 → ∀ (ls : Array Slot), lv_has ls 7 [(0, .ref (ad 8)), (1, .int x1), (2, .int x2), (3, .int x3), (4, .int x4)] → W p l e rm_X3_lowestNearer s m args below meth c s.heap [] 0 0 QQ (F0 m 5 ls [])) → ∀ (ls : Array Slot), lv_has ls 7 [(0, .ref (ad 8)), (1, .int x1), (2, .int x2), (3, .int x3), (4, .int x4), (5, .int x5)] → W p l e rm_X3_lowestNearer s m args below meth c s.heap [] 0 0 QQ (F0 m 51 ls [.int t0]) := by
    intro x3 x4 x5 t0 P5 x1 x2 hw hB5 ls hl
    unfold wJ_X3_lowestNearer_51 at hw
    refine lv_istore (lv' := [(6, .int t0), (0, .ref (ad 8)), (1, .int x1), (2, .int x2), (3, .int x3), (4, .int x4), (5, .int x5)]) hx hb dX3_lowestNearer_51 hl (by decide) rfl (fun ls hl => ?_)
    refine lv_iload hx hb dX3_lowestNearer_53 (lv_at hl 0 rfl) ?_
    refine lv_if_eq (tgt := 72) hx hb dX3_lowestNearer_55 (by decide) (fun c_1 => ?_) (fun c_1 => ?_)
    · have hw := hw.1 c_1
      refine lv_iinc (v := (x4 + (1 : Int32))) (lv' := [(4, .int (x4 + (1 : Int32))), (6, .int t0), (0, .ref (ad 8)), (1, .int x1), (2, .int x2), (3, .int x3), (5, .int x5)]) hx hb dX3_lowestNearer_72 hl (k := 5) rfl rfl (by decide) rfl (fun ls hl => ?_)
      refine lv_goto (tgt := 5) hx hb dX3_lowestNearer_75 (by decide) ?_
      exact hB5 x3 (x4 + (1 : Int32)) hw _ (lv_sub hl [2, 3, 4, 5, 0] rfl)
    · have hw := hw.2 c_1
      refine lv_iload_n hx hb dX3_lowestNearer_58 rfl (lv_at hl 4 rfl) ?_
      refine lv_iconst (v := (-1 : Int32)) hx hb dX3_lowestNearer_59 (by decide) ?_
      refine lv_icmp_eq (tgt := 69) hx hb dX3_lowestNearer_60 (by decide) (fun c_2 => ?_) (fun c_2 => ?_)
      · have hw := hw.1 c_2
        refine lv_iload hx hb dX3_lowestNearer_69 (lv_at hl 6 rfl) ?_
        refine lv_istore_n (lv' := [(3, .int x5), (6, .int t0), (0, .ref (ad 8)), (1, .int x1), (2, .int x2), (4, .int x4), (5, .int x5)]) hx hb dX3_lowestNearer_71 rfl hl (by decide) rfl (fun ls hl => ?_)
        refine lv_iinc (v := (x4 + (1 : Int32))) (lv' := [(4, .int (x4 + (1 : Int32))), (3, .int x5), (6, .int t0), (0, .ref (ad 8)), (1, .int x1), (2, .int x2), (5, .int x5)]) hx hb dX3_lowestNearer_72 hl (k := 5) rfl rfl (by decide) rfl (fun ls hl => ?_)
        refine lv_goto (tgt := 5) hx hb dX3_lowestNearer_75 (by decide) ?_
        exact hB5 x5 (x4 + (1 : Int32)) hw _ (lv_sub hl [3, 4, 5, 1, 0] rfl)
      · have hw := hw.2 c_2
        refine lv_iload hx hb dX3_lowestNearer_63 (lv_at hl 6 rfl) ?_
        refine lv_iload_n hx hb dX3_lowestNearer_65 rfl (lv_at hl 4 rfl) ?_
        refine lv_icmp_ge (tgt := 72) hx hb dX3_lowestNearer_66 (by decide) (fun c_3 => ?_) (fun c_3 => ?_)
        · have hw := hw.1 c_3
          refine lv_iinc (v := (x4 + (1 : Int32))) (lv' := [(4, .int (x4 + (1 : Int32))), (6, .int t0), (0, .ref (ad 8)), (1, .int x1), (2, .int x2), (3, .int x3), (5, .int x5)]) hx hb dX3_lowestNearer_72 hl (k := 5) rfl rfl (by decide) rfl (fun ls hl => ?_)
          refine lv_goto (tgt := 5) hx hb dX3_lowestNearer_75 (by decide) ?_
          exact hB5 x3 (x4 + (1 : Int32)) hw _ (lv_sub hl [2, 3, 4, 5, 0] rfl)
        · have hw := hw.2 c_3
          refine lv_iload hx hb dX3_lowestNearer_69 (lv_at hl 6 rfl) ?_
          refine lv_istore_n (lv' := [(3, .int x5), (6, .int t0), (0, .ref (ad 8)), (1, .int x1), (2, .int x2), (4, .int x4), (5, .int x5)]) hx hb dX3_lowestNearer_71 rfl hl (by decide) rfl (fun ls hl => ?_)
          refine lv_iinc (v := (x4 + (1 : Int32))) (lv' := [(4, .int (x4 + (1 : Int32))), (3, .int x5), (6, .int t0), (0, .ref (ad 8)), (1, .int x1), (2, .int x2), (5, .int x5)]) hx hb dX3_lowestNearer_72 hl (k := 5) rfl rfl (by decide) rfl (fun ls hl => ?_)
          refine lv_goto (tgt := 5) hx hb dX3_lowestNearer_75 (by decide) ?_
          exact hB5 x5 (x4 + (1 : Int32)) hw _ (lv_sub hl [3, 4, 5, 1, 0] rfl)
  have hL5 : ∀ (x1 x2 : Int32) (K5 : Int32 → Prop) (x3 x4 : Int32), wl_X3_lowestNearer_5 vS_nexts vM_owners vR_level x1 x2 K5 x3 x4 → (∀ (x3 : Int32), K5 x3 → ∀ (ls : Array Slot), lv_has ls 7 [(3, .int x3)] → W p l e rm_X3_lowestNearer s m args below meth c s.heap [] 0 0 QQ (F0 m 78 ls [])) → ∀ (ls : Array Slot), lv_has ls 7 [(0, .ref (ad 8)), (1, .int x1), (2, .int x2), (3, .int x3), (4, .int x4)] → W p l e rm_X3_lowestNearer s m args below meth c s.heap [] 0 0 QQ (F0 m 5 ls []) := by
    intro x1 x2 K5 x3 x4 hw hK5
    unfold wl_X3_lowestNearer_5 at hw
    refine hw (fun (x3 x4 : Int32) => ∀ (ls : Array Slot), lv_has ls 7 [(0, .ref (ad 8)), (1, .int x1), (2, .int x2), (3, .int x3), (4, .int x4)] → W p l e rm_X3_lowestNearer s m args below meth c s.heap [] 0 0 QQ (F0 m 5 ls [])) ?_
    intro x3 x4 hw ls hl
    unfold wb_X3_lowestNearer_5 at hw
    refine lv_iload hx hb dX3_lowestNearer_5 (lv_at hl 4 rfl) ?_
    refine lv_bipush (v := (6 : Int32)) hx hb dX3_lowestNearer_7 (by decide) ?_
    refine lv_icmp_ge (tgt := 78) hx hb dX3_lowestNearer_9 (by decide) (fun c_4 => ?_) (fun c_4 => ?_)
    · have hw := hw.1 c_4
      exact hK5 x3 hw _ (lv_sub hl [3] rfl)
    · have hw := hw.2 c_4
      refine lv_aload_n hx hb dX3_lowestNearer_12 rfl (lv_at hl 0 rfl) ?_
      refine lv_iload_n hx hb dX3_lowestNearer_13 rfl (lv_at hl 1 rfl) ?_
      refine lv_iload hx hb dX3_lowestNearer_14 (lv_at hl 4 rfl) ?_
      refine lv_iload_n hx hb dX3_lowestNearer_16 rfl (lv_at hl 2 rfl) ?_
      refine pcV (rest := []) (ci := 3) S0 (c_X3_landing l D ad cs s.heap.size vS_nexts vM_owners x1 x4 x2 _ hw) (cwV 3 hts gX3_lowestNearer_X3_landing rfl rfl rfl (by decide +kernel) ⟨Nat.le_of_ble_eq_true rfl, Nat.le_of_ble_eq_true rfl⟩) hN hK hP hD [0, 1, 2, 3, 4] [0, 1] rfl rfl rfl 4 rfl rfl rfl rfl hl.1 (Nat.le_of_ble_eq_true rfl) ⟨Nat.le_of_ble_eq_true rfl, Nat.le_of_ble_eq_true rfl⟩ dX3_lowestNearer_17 (fun r_5 hw => ?_)
      refine lv_istore (lv' := [(5, .int r_5), (0, .ref (ad 8)), (1, .int x1), (2, .int x2), (3, .int x3), (4, .int x4)]) hx hb dX3_lowestNearer_20 hl (by decide) rfl (fun ls hl => ?_)
      refine lv_iload hx hb dX3_lowestNearer_22 (lv_at hl 0 rfl) ?_
      refine lv_iconst (v := (-1 : Int32)) hx hb dX3_lowestNearer_24 (by decide) ?_
      refine lv_icmp_eq (tgt := 50) hx hb dX3_lowestNearer_25 (by decide) (fun c_6 => ?_) (fun c_6 => ?_)
      · have hw := hw.1 c_6
        refine lv_iconst (v := (0 : Int32)) hx hb dX3_lowestNearer_50 (by decide) ?_
        exact hJ51 x3 x4 r_5 (0 : Int32) _ _ _ hw (fun _ _ h => h) _ (lv_sub hl [1, 2, 3, 4, 5, 0] rfl)
      · have hw := hw.2 c_6
        refine lv_aload_n hx hb dX3_lowestNearer_28 rfl (lv_at hl 1 rfl) ?_
        refine va_get (D := D) (ci := 3) (v := .ref (ad 10)) (C := RX3) (T := TX3) (N := 5) hx hb hts inX3 hown hK hP 4 rfl rfl 3 (by decide) fl_15 (fun _ h9 => h9) rfl dX3_lowestNearer_29 ?_
        refine lv_iload hx hb dX3_lowestNearer_32 (lv_at hl 0 rfl) ?_
        obtain ⟨h_7, hw⟩ := hw
        refine va_iald hx hb hK hP 5 2 rfl rfl h_7 dX3_lowestNearer_34 ?_
        refine lv_aload_n hx hb dX3_lowestNearer_35 rfl (lv_at hl 1 rfl) ?_
        refine va_get (D := D) (ci := 3) (v := .ref (ad 10)) (C := RX3) (T := TX3) (N := 5) hx hb hts inX3 hown hK hP 4 rfl rfl 3 (by decide) fl_15 (fun _ h9 => h9) rfl dX3_lowestNearer_36 ?_
        refine lv_iload_n hx hb dX3_lowestNearer_39 rfl (lv_at hl 2 rfl) ?_
        obtain ⟨h_8, hw⟩ := hw
        refine va_iald hx hb hK hP 5 2 rfl rfl h_8 dX3_lowestNearer_40 ?_
        refine lv_iconst (v := (1 : Int32)) hx hb dX3_lowestNearer_41 (by decide) ?_
        refine lv_isub hx hb dX3_lowestNearer_42 ?_
        refine lv_icmp_ne (tgt := 50) hx hb dX3_lowestNearer_43 (by decide) (fun c_9 => ?_) (fun c_9 => ?_)
        · have hw := hw.1 c_9
          refine lv_iconst (v := (0 : Int32)) hx hb dX3_lowestNearer_50 (by decide) ?_
          exact hJ51 x3 x4 r_5 (0 : Int32) _ _ _ hw (fun _ _ h => h) _ (lv_sub hl [1, 2, 3, 4, 5, 0] rfl)
        · have hw := hw.2 c_9
          refine lv_iconst (v := (1 : Int32)) hx hb dX3_lowestNearer_46 (by decide) ?_
          refine lv_goto (tgt := 51) hx hb dX3_lowestNearer_47 (by decide) ?_
          exact hJ51 x3 x4 r_5 (1 : Int32) _ _ _ hw (fun _ _ h => h) _ (lv_sub hl [1, 2, 3, 4, 5, 0] rfl)
  unfold wp_X3_lowestNearer at hw
  refine lv_iconst (v := (-1 : Int32)) hx hb dX3_lowestNearer_0 (by decide) ?_
  refine lv_istore_n (lv' := [(3, .int (-1 : Int32)), (0, .ref (ad 8)), (1, .int x1), (2, .int x2)]) hx hb dX3_lowestNearer_1 rfl hl (by decide) rfl (fun ls hl => ?_)
  refine lv_iconst (v := (0 : Int32)) hx hb dX3_lowestNearer_2 (by decide) ?_
  refine lv_istore (lv' := [(4, .int (0 : Int32)), (3, .int (-1 : Int32)), (0, .ref (ad 8)), (1, .int x1), (2, .int x2)]) hx hb dX3_lowestNearer_3 hl (by decide) rfl (fun ls hl => ?_)
  refine hL5 x1 x2 _ (-1 : Int32) (0 : Int32) hw ?_ _ (lv_sub hl [2, 3, 4, 1, 0] rfl)
  intro x3_10 hw ls hl
  refine lv_iload_n hx hb dX3_lowestNearer_78 rfl (lv_at hl 0 rfl) ?_
  exact hret _ _ _ hw dX3_lowestNearer_79
set_option maxHeartbeats 4000000 in
set_option maxRecDepth 100000 in
theorem c_X3_lowestNearer (l : Launch) (D : va_G) (ad : Nat → Nat) (cs : Nat → ClassId) (sz : Nat) (vS_nexts vM_owners vR_level : Nat → Int32) (x1 x2 : Int32) (Q : Int32 → Prop) (hw : wp_X3_lowestNearer vS_nexts vM_owners vR_level x1 x2 Q) :
  Met l yX3_lowestNearer wsX3_lowestNearer rm_X3_lowestNearer (va_Pc [.ref (ad 8), .int x1, .int x2] (PX D (cl_X3_lowestNearer ad cs vS_nexts vM_owners vR_level) (ty_X3_lowestNearer cs) sz)) (vp_Si Q) 0 0 (fun _ => False) := by
  refine Met.ofW (cc := cX3_lowestNearer) (maxL := 7) (ret := (some .int)) (by decide) rfl ?_
  intro p e s m args below meth c s₁ B hml hv
  obtain ⟨rfl, hsz, hP, hK, hD0, hN⟩ := hv
  subst hsz
  have hl := lv_entry ([.ref (ad 8), .int x1, .int x2]) (n := 7) (Nat.le_of_ble_eq_true rfl)
  rw [lg_entry_eq]
  have hx := B.exec
  have hb := B.bytes
  have hr := B.returns
  exact b_X3_lowestNearer l D ad cs vS_nexts vM_owners vR_level x1 x2 Q hx hb hml (findClass_of_methodNamed B.named) (atoms_spec (ws := wsX3_lowestNearer) B.pre) hN hP hK hD0.self (fun q h => Or.inr h) hl (A := va_A (cl_X3_lowestNearer ad cs vS_nexts vM_owners vR_level) s.heap.size) (fun r pc ls hq hd => W.iret (v := r) hx hb hr (fun t ht hW => ⟨r, rfl, hq, ht⟩) (fun _ h => nomatch h) hd) hw
abbrev rm_X3_cellBehind : Room := { frames := 4, cells := 0, slots := 0, locals := 94 }
abbrev cl_X3_cellBehind (ad : Nat → Nat) (cs : Nat → ClassId) (vS_nexts vM_owners vR_level vR_queue : Nat → Int32) : va_W := [((ad 1), .inr (5, [.ref (ad 2), .ref (ad 3), .ref (ad 4), .ref (ad 5)])), ((ad 5), .inl ((cs 5), 726, .inl vS_nexts)), ((ad 6), .inr (1, [.ref (ad 1), .ref (ad 7)])), ((ad 7), .inl ((cs 7), 121, .inl vM_owners)), ((ad 8), .inr (3, [.ref (ad 1), .ref (ad 6), .ref (ad 9), .ref (ad 10), .ref (ad 11)])), ((ad 10), .inl ((cs 10), 121, .inl vR_level)), ((ad 11), .inl ((cs 11), 121, .inl vR_queue))]
abbrev ty_X3_cellBehind (cs : Nat → ClassId) : List (ClassId × FieldType) := [((cs 5), .int), ((cs 7), .int), ((cs 10), .int), ((cs 11), .int)]
def wb_X3_cellBehind_12 (vS_nexts vM_owners vR_level : Nat → Int32) (x1 x3 : Int32) (K12 : Int32 → Prop) (P12 : Int32 → Int32 → Prop) (x4 x5 : Int32) : Prop :=
 ((x3 < x5 → K12 x4) ∧
 (¬ x3 < x5 → ((x4 = (-1 : Int32) → K12 x4) ∧
 (¬ x4 = (-1 : Int32) → wp_X3_lowestNearer vS_nexts vM_owners vR_level x4 x1 (fun r_3 =>
 P12 r_3 (x5 + (1 : Int32)))))))
def wl_X3_cellBehind_12 (vS_nexts vM_owners vR_level : Nat → Int32) (x1 x3 : Int32) (K12 : Int32 → Prop) (x4 x5 : Int32) : Prop := ∀ P12 : Int32 → Int32 → Prop, (∀ (x4 x5 : Int32), wb_X3_cellBehind_12 vS_nexts vM_owners vR_level x1 x3 K12 P12 x4 x5 → P12 x4 x5) → P12 x4 x5
def wp_X3_cellBehind (vS_nexts vM_owners vR_level vR_queue : Nat → Int32) (x1 x2 x3 : Int32) (Q : Int32 → (Nat → Int32) → (Nat → Int32) → Prop) : Prop :=
 wp_X3_spread vS_nexts vM_owners vR_level vR_queue x2 x1 (fun vR_level_4 vR_queue_5 =>
 wl_X3_cellBehind_12 vS_nexts vM_owners vR_level_4 x1 x3 (fun x4_6 => Q x4_6 vR_level_4 vR_queue_5) x1 (0 : Int32))
set_option maxHeartbeats 4000000 in
set_option maxRecDepth 100000 in
theorem b_X3_cellBehind {p : Program} {e : Env} {s : State} {m : MethodId} {args : Array Value} {below : List Frame} {meth : Method} {c : Code} {QQ : State → Prop} {A : Nat → Prop} {ls : Array Slot} (l : Launch) (D : va_G) (ad : Nat → Nat) (cs : Nat → ClassId) (vS_nexts vM_owners vR_level vR_queue : Nat → Int32) (x1 x2 x3 : Int32) (Q : Int32 → (Nat → Int32) → (Nat → Int32) → Prop) (hx : p.tables.exec = Jvm.exec) (hb : c.code = cX3_cellBehind) (hml : c.maxLocals = 6) (hown : s.vm.findClass RX3 = some m.cls) (hts : ∀ w ∈ wsX3_cellBehind, w.before args s = true) (hN : NW s) (hP : va_P D vwCl (cl_X3_cellBehind ad cs vS_nexts vM_owners vR_level vR_queue) s.heap) (hK : va_K D vwCl (ty_X3_cellBehind cs) s) (hD : va_D A (cl_X3_cellBehind ad cs vS_nexts vM_owners vR_level vR_queue)) (hA : ∀ q : Nat, s.heap.size ≤ q → A q) (hl : lv_has ls 6 [(0, .ref (ad 8)), (1, .int x1), (2, .int x2), (3, .int x3)])
  (hret : ∀ (r : Int32) (o0 : Nat → Int32) (o1 : Nat → Int32) (H : Heap) (locs : List Loc) (pc : Nat) (ls : Array Slot), Q r o0 o1 → va_P D vwCl (cl_X3_cellBehind ad cs vS_nexts vM_owners o0 o1) H → va_D A (cl_X3_cellBehind ad cs vS_nexts vM_owners o0 o1) → va_S A s.heap H locs → decode cX3_cellBehind pc = .ok (.ireturn, 1) → W p l e rm_X3_cellBehind s m args below meth c H locs 0 0 QQ (F0 m pc ls [.int r]))
  (hw : wp_X3_cellBehind vS_nexts vM_owners vR_level vR_queue x1 x2 x3 Q) :
  W p l e rm_X3_cellBehind s m args below meth c s.heap [] 0 0 QQ (F0 m 0 ls []) := by
  have S0 : CallFix p m c cX3_cellBehind 6 s args wsX3_cellBehind RX3 := ⟨hx, hb, hml, hown, hts⟩
  have hL12 : ∀ (vR_level : Nat → Int32) (x1 x3 : Int32) (K12 : Int32 → Prop) (x4 x5 : Int32) (vR_queue : Nat → Int32), wl_X3_cellBehind_12 vS_nexts vM_owners vR_level x1 x3 K12 x4 x5 → (∀ (x4 : Int32), K12 x4 → ∀ (H : Heap) (locs : List Loc) (ls : Array Slot), va_P D vwCl (cl_X3_cellBehind ad cs vS_nexts vM_owners vR_level vR_queue) H → va_D A (cl_X3_cellBehind ad cs vS_nexts vM_owners vR_level vR_queue) → va_S A s.heap H locs → lv_has ls 6 [(4, .int x4)] → W p l e rm_X3_cellBehind s m args below meth c H locs 0 0 QQ (F0 m 39 ls [])) → ∀ (H : Heap) (locs : List Loc) (ls : Array Slot), va_P D vwCl (cl_X3_cellBehind ad cs vS_nexts vM_owners vR_level vR_queue) H → va_D A (cl_X3_cellBehind ad cs vS_nexts vM_owners vR_level vR_queue) → va_S A s.heap H locs → lv_has ls 6 [(0, .ref (ad 8)), (1, .int x1), (3, .int x3), (4, .int x4), (5, .int x5)] → W p l e rm_X3_cellBehind s m args below meth c H locs 0 0 QQ (F0 m 12 ls []) := by
    intro vR_level x1 x3 K12 x4 x5 vR_queue hw hK12
    unfold wl_X3_cellBehind_12 at hw
    refine hw (fun (x4 x5 : Int32) => ∀ (H : Heap) (locs : List Loc) (ls : Array Slot), va_P D vwCl (cl_X3_cellBehind ad cs vS_nexts vM_owners vR_level vR_queue) H → va_D A (cl_X3_cellBehind ad cs vS_nexts vM_owners vR_level vR_queue) → va_S A s.heap H locs → lv_has ls 6 [(0, .ref (ad 8)), (1, .int x1), (3, .int x3), (4, .int x4), (5, .int x5)] → W p l e rm_X3_cellBehind s m args below meth c H locs 0 0 QQ (F0 m 12 ls [])) ?_
    intro x4 x5 hw H locs ls hP hD hS hl
    unfold wb_X3_cellBehind_12 at hw
    refine lv_iload hx hb dX3_cellBehind_12 (lv_at hl 4 rfl) ?_
    refine lv_iload_n hx hb dX3_cellBehind_14 rfl (lv_at hl 2 rfl) ?_
    refine lv_icmp_gt (tgt := 39) hx hb dX3_cellBehind_15 (by decide) (fun c_1 => ?_) (fun c_1 => ?_)
    · have hw := hw.1 c_1
      exact hK12 x4 hw _ _ _ hP hD hS (lv_sub hl [3] rfl)
    · have hw := hw.2 c_1
      refine lv_iload hx hb dX3_cellBehind_18 (lv_at hl 3 rfl) ?_
      refine lv_iconst (v := (-1 : Int32)) hx hb dX3_cellBehind_20 (by decide) ?_
      refine lv_icmp_eq (tgt := 39) hx hb dX3_cellBehind_21 (by decide) (fun c_2 => ?_) (fun c_2 => ?_)
      · have hw := hw.1 c_2
        exact hK12 x4 hw _ _ _ hP hD hS (lv_sub hl [3] rfl)
      · have hw := hw.2 c_2
        refine lv_aload_n hx hb dX3_cellBehind_24 rfl (lv_at hl 0 rfl) ?_
        refine lv_iload hx hb dX3_cellBehind_25 (lv_at hl 3 rfl) ?_
        refine lv_iload_n hx hb dX3_cellBehind_27 rfl (lv_at hl 1 rfl) ?_
        refine pcV (rest := []) (ci := 3) S0 (c_X3_lowestNearer l D ad cs H.size vS_nexts vM_owners vR_level x4 x1 _ hw) (cwV 2 hts gX3_cellBehind_X3_lowestNearer rfl rfl rfl (by decide +kernel) ⟨Nat.le_of_ble_eq_true rfl, Nat.le_of_ble_eq_true rfl⟩) hN hK hP hD [0, 1, 2, 3, 4, 5] [0, 1, 2] rfl rfl rfl 4 rfl rfl rfl rfl hl.1 (Nat.le_of_ble_eq_true rfl) ⟨Nat.le_of_ble_eq_true rfl, Nat.le_of_ble_eq_true rfl⟩ dX3_cellBehind_28 (fun r_3 hw => ?_)
        refine lv_istore (lv' := [(4, .int r_3), (0, .ref (ad 8)), (1, .int x1), (3, .int x3), (5, .int x5)]) hx hb dX3_cellBehind_31 hl (by decide) rfl (fun ls hl => ?_)
        refine lv_iinc (v := (x5 + (1 : Int32))) (lv' := [(5, .int (x5 + (1 : Int32))), (4, .int r_3), (0, .ref (ad 8)), (1, .int x1), (3, .int x3)]) hx hb dX3_cellBehind_33 hl (k := 4) rfl rfl (by decide) rfl (fun ls hl => ?_)
        refine lv_goto (tgt := 12) hx hb dX3_cellBehind_36 (by decide) ?_
        exact hw _ _ _ hP hD hS (lv_sub hl [2, 3, 4, 1, 0] rfl)
  obtain ⟨H, hH⟩ : ∃ H : Heap, H = s.heap := ⟨_, rfl⟩
  have hS : va_S A s.heap H [] := by rw [hH]; exact va_S.rf
  rw [← hH] at hP ⊢
  unfold wp_X3_cellBehind at hw
  refine lv_aload_n hx hb dX3_cellBehind_0 rfl (lv_at hl 0 rfl) ?_
  refine lv_iload_n hx hb dX3_cellBehind_1 rfl (lv_at hl 2 rfl) ?_
  refine lv_iload_n hx hb dX3_cellBehind_2 rfl (lv_at hl 1 rfl) ?_
  refine pcVv (rest := []) (wr := []) (ci := 3) S0 (c_X3_spread l D ad cs H.size vS_nexts vM_owners vR_level vR_queue x2 x1 _ hw) (cwV 2 hts gX3_cellBehind_X3_spread rfl rfl rfl (by decide +kernel) ⟨Nat.le_of_ble_eq_true rfl, Nat.le_of_ble_eq_true rfl⟩) hN hK hP hD hS hA [0, 1, 2, 3, 4, 5, 6] [] [0, 1, 2, 3] ⟨rfl, rfl, rfl, rfl, rfl, by decide⟩ 4 rfl rfl rfl rfl hl.1 (Nat.le_of_ble_eq_true rfl) ⟨Nat.le_of_ble_eq_true rfl, Nat.le_of_ble_eq_true rfl⟩ dX3_cellBehind_3 (fun u H locs hw hP hD hS => ?_)
  obtain ⟨vR_level_4, vR_queue_5⟩ := u
  dsimp only at hw
  have hP : va_P D vwCl (cl_X3_cellBehind ad cs vS_nexts vM_owners vR_level_4 vR_queue_5) H := hP.sub [0, 1, 2, 3, 4, 5, 6] rfl
  have hD : va_D A (cl_X3_cellBehind ad cs vS_nexts vM_owners vR_level_4 vR_queue_5) := hD.sub [0, 1, 2, 3, 4, 5, 6] (by decide) rfl
  refine lv_iload_n hx hb dX3_cellBehind_6 rfl (lv_at hl 1 rfl) ?_
  refine lv_istore (lv' := [(4, .int x1), (0, .ref (ad 8)), (1, .int x1), (2, .int x2), (3, .int x3)]) hx hb dX3_cellBehind_7 hl (by decide) rfl (fun ls hl => ?_)
  refine lv_iconst (v := (0 : Int32)) hx hb dX3_cellBehind_9 (by decide) ?_
  refine lv_istore (lv' := [(5, .int (0 : Int32)), (4, .int x1), (0, .ref (ad 8)), (1, .int x1), (2, .int x2), (3, .int x3)]) hx hb dX3_cellBehind_10 hl (by decide) rfl (fun ls hl => ?_)
  refine hL12 vR_level_4 x1 x3 _ x1 (0 : Int32) _ hw ?_ _ _ _ hP hD hS (lv_sub hl [2, 3, 5, 1, 0] rfl)
  intro x4_6 hw H locs ls hP hD hS hl
  refine lv_iload hx hb dX3_cellBehind_39 (lv_at hl 0 rfl) ?_
  exact hret _ _ _ _ _ _ _ hw hP hD hS dX3_cellBehind_41
set_option maxHeartbeats 4000000 in
set_option maxRecDepth 100000 in
theorem c_X3_cellBehind (l : Launch) (D : va_G) (ad : Nat → Nat) (cs : Nat → ClassId) (sz : Nat) (vS_nexts vM_owners vR_level vR_queue : Nat → Int32) (x1 x2 x3 : Int32) (Q : Int32 → (Nat → Int32) → (Nat → Int32) → Prop) (hw : wp_X3_cellBehind vS_nexts vM_owners vR_level vR_queue x1 x2 x3 Q) :
  Met l yX3_cellBehind wsX3_cellBehind rm_X3_cellBehind (va_Pc [.ref (ad 8), .int x1, .int x2, .int x3] (PX D (cl_X3_cellBehind ad cs vS_nexts vM_owners vR_level vR_queue) (ty_X3_cellBehind cs) sz)) (va_Qi (fun (r : Int32) (u : (Nat → Int32) × (Nat → Int32)) => Q r u.1 u.2) (fun (u : (Nat → Int32) × (Nat → Int32)) t => va_P D vwCl (cl_X3_cellBehind ad cs vS_nexts vM_owners u.1 u.2) t.heap ∧ va_D (va_A (cl_X3_cellBehind ad cs vS_nexts vM_owners vR_level vR_queue) sz) (cl_X3_cellBehind ad cs vS_nexts vM_owners u.1 u.2)) (va_A (cl_X3_cellBehind ad cs vS_nexts vM_owners vR_level vR_queue) sz)) 0 0 (va_A (cl_X3_cellBehind ad cs vS_nexts vM_owners vR_level vR_queue) sz) := by
  refine Met.ofW (cc := cX3_cellBehind) (maxL := 6) (ret := (some .int)) (by decide) rfl ?_
  intro p e s m args below meth c s₁ B hml hv
  obtain ⟨rfl, hsz, hP, hK, hD0, hN⟩ := hv
  subst hsz
  have hl := lv_entry ([.ref (ad 8), .int x1, .int x2, .int x3]) (n := 6) (Nat.le_of_ble_eq_true rfl)
  rw [lg_entry_eq]
  have hx := B.exec
  have hb := B.bytes
  have hr := B.returns
  exact b_X3_cellBehind l D ad cs vS_nexts vM_owners vR_level vR_queue x1 x2 x3 Q hx hb hml (findClass_of_methodNamed B.named) (atoms_spec (ws := wsX3_cellBehind) B.pre) hN hP hK hD0.self (fun q h => Or.inr h) hl (fun r o0 o1 H locs pc ls hq hP hD hS hd => W.iret (v := r) hx hb hr (fun t ht hW => ⟨⟨r, (o0, o1), rfl, hq, by rw [ht]; exact hP, hD⟩, hS.F ht⟩) hS.2.2 hd) hw
abbrev rm_X5_campAmong : Room := { frames := 0, cells := 0, slots := 0, locals := 0 }
abbrev cl_X5_campAmong (ad : Nat → Nat) (cs : Nat → ClassId)  : va_W := []
abbrev ty_X5_campAmong (cs : Nat → ClassId) : List (ClassId × FieldType) := []
def wp_X5_campAmong (x0 x1 : Int32) (Q : Int32 → Prop) : Prop :=
 (((3 : Int32) < x0 → ((x0 < (13 : Int32) → (((7 : Int32) < x0 → ((x0 < (9 : Int32) → Q (-1 : Int32)) ∧
 (¬ x0 < (9 : Int32) → ((x1 < ((30 : Int32) - x0) → (((x0 - (6 : Int32)) < x1 → Q (-1 : Int32)) ∧
 (¬ (x0 - (6 : Int32)) < x1 → Q (4 : Int32)))) ∧
 (¬ x1 < ((30 : Int32) - x0) → Q (2 : Int32)))))) ∧
 (¬ (7 : Int32) < x0 → ((x1 < ((14 : Int32) + x0) → ((((10 : Int32) - x0) < x1 → Q (-1 : Int32)) ∧
 (¬ ((10 : Int32) - x0) < x1 → Q (5 : Int32)))) ∧
 (¬ x1 < ((14 : Int32) + x0) → Q (1 : Int32)))))) ∧
 (¬ x0 < (13 : Int32) → Q (3 : Int32)))) ∧
 (¬ (3 : Int32) < x0 → Q (0 : Int32)))
set_option maxHeartbeats 4000000 in
set_option maxRecDepth 100000 in
theorem b_X5_campAmong {p : Program} {e : Env} {s : State} {m : MethodId} {args : Array Value} {below : List Frame} {meth : Method} {c : Code} {QQ : State → Prop} {A : Nat → Prop} {ls : Array Slot} (l : Launch) (D : va_G) (ad : Nat → Nat) (cs : Nat → ClassId) (x0 x1 : Int32) (Q : Int32 → Prop) (hx : p.tables.exec = Jvm.exec) (hb : c.code = cX5_campAmong) (hml : c.maxLocals = 2) (hown : s.vm.findClass RX5 = some m.cls) (hts : ∀ w ∈ wsX5_campAmong, w.before args s = true) (hN : NW s) (hP : va_P D vwCl (cl_X5_campAmong ad cs) s.heap) (hK : va_K D vwCl (ty_X5_campAmong cs) s) (hD : va_D A (cl_X5_campAmong ad cs)) (hA : ∀ q : Nat, s.heap.size ≤ q → A q) (hl : lv_has ls 2 [(0, .int x0), (1, .int x1)])
  (hret : ∀ (r : Int32) (pc : Nat) (ls : Array Slot), Q r → decode cX5_campAmong pc = .ok (.ireturn, 1) → W p l e rm_X5_campAmong s m args below meth c s.heap [] 0 0 QQ (F0 m pc ls [.int r]))
  (hw : wp_X5_campAmong x0 x1 Q) :
  W p l e rm_X5_campAmong s m args below meth c s.heap [] 0 0 QQ (F0 m 0 ls []) := by
  have S0 : CallFix p m c cX5_campAmong 2 s args wsX5_campAmong RX5 := ⟨hx, hb, hml, hown, hts⟩
  unfold wp_X5_campAmong at hw
  refine lv_iload_n hx hb dX5_campAmong_0 rfl (lv_at hl 0 rfl) ?_
  refine lv_iconst (v := (3 : Int32)) hx hb dX5_campAmong_1 (by decide) ?_
  refine lv_icmp_gt (tgt := 7) hx hb dX5_campAmong_2 (by decide) (fun c_1 => ?_) (fun c_1 => ?_)
  · have hw := hw.1 c_1
    refine lv_iload_n hx hb dX5_campAmong_7 rfl (lv_at hl 0 rfl) ?_
    refine lv_bipush (v := (13 : Int32)) hx hb dX5_campAmong_8 (by decide) ?_
    refine lv_icmp_lt (tgt := 15) hx hb dX5_campAmong_10 (by decide) (fun c_2 => ?_) (fun c_2 => ?_)
    · have hw := hw.1 c_2
      refine lv_iload_n hx hb dX5_campAmong_15 rfl (lv_at hl 0 rfl) ?_
      refine lv_bipush (v := (7 : Int32)) hx hb dX5_campAmong_16 (by decide) ?_
      refine lv_icmp_gt (tgt := 47) hx hb dX5_campAmong_18 (by decide) (fun c_3 => ?_) (fun c_3 => ?_)
      · have hw := hw.1 c_3
        refine lv_iload_n hx hb dX5_campAmong_47 rfl (lv_at hl 0 rfl) ?_
        refine lv_bipush (v := (9 : Int32)) hx hb dX5_campAmong_48 (by decide) ?_
        refine lv_icmp_lt (tgt := 79) hx hb dX5_campAmong_50 (by decide) (fun c_4 => ?_) (fun c_4 => ?_)
        · have hw := hw.1 c_4
          refine lv_iconst (v := (-1 : Int32)) hx hb dX5_campAmong_79 (by decide) ?_
          exact hret _ _ _ hw dX5_campAmong_80
        · have hw := hw.2 c_4
          refine lv_iload_n hx hb dX5_campAmong_53 rfl (lv_at hl 1 rfl) ?_
          refine lv_bipush (v := (30 : Int32)) hx hb dX5_campAmong_54 (by decide) ?_
          refine lv_iload_n hx hb dX5_campAmong_56 rfl (lv_at hl 0 rfl) ?_
          refine lv_isub hx hb dX5_campAmong_57 ?_
          refine lv_icmp_lt (tgt := 65) hx hb dX5_campAmong_58 (by decide) (fun c_5 => ?_) (fun c_5 => ?_)
          · have hw := hw.1 c_5
            refine lv_iload_n hx hb dX5_campAmong_65 rfl (lv_at hl 1 rfl) ?_
            refine lv_iload_n hx hb dX5_campAmong_66 rfl (lv_at hl 0 rfl) ?_
            refine lv_bipush (v := (6 : Int32)) hx hb dX5_campAmong_67 (by decide) ?_
            refine lv_isub hx hb dX5_campAmong_69 ?_
            refine lv_icmp_gt (tgt := 77) hx hb dX5_campAmong_70 (by decide) (fun c_6 => ?_) (fun c_6 => ?_)
            · have hw := hw.1 c_6
              refine lv_iconst (v := (-1 : Int32)) hx hb dX5_campAmong_77 (by decide) ?_
              exact hret _ _ _ hw dX5_campAmong_78
            · have hw := hw.2 c_6
              refine lv_iconst (v := (4 : Int32)) hx hb dX5_campAmong_73 (by decide) ?_
              refine lv_goto (tgt := 78) hx hb dX5_campAmong_74 (by decide) ?_
              exact hret _ _ _ hw dX5_campAmong_78
          · have hw := hw.2 c_5
            refine lv_iconst (v := (2 : Int32)) hx hb dX5_campAmong_61 (by decide) ?_
            refine lv_goto (tgt := 78) hx hb dX5_campAmong_62 (by decide) ?_
            exact hret _ _ _ hw dX5_campAmong_78
      · have hw := hw.2 c_3
        refine lv_iload_n hx hb dX5_campAmong_21 rfl (lv_at hl 1 rfl) ?_
        refine lv_bipush (v := (14 : Int32)) hx hb dX5_campAmong_22 (by decide) ?_
        refine lv_iload_n hx hb dX5_campAmong_24 rfl (lv_at hl 0 rfl) ?_
        refine lv_iadd hx hb dX5_campAmong_25 ?_
        refine lv_icmp_lt (tgt := 33) hx hb dX5_campAmong_26 (by decide) (fun c_7 => ?_) (fun c_7 => ?_)
        · have hw := hw.1 c_7
          refine lv_iload_n hx hb dX5_campAmong_33 rfl (lv_at hl 1 rfl) ?_
          refine lv_bipush (v := (10 : Int32)) hx hb dX5_campAmong_34 (by decide) ?_
          refine lv_iload_n hx hb dX5_campAmong_36 rfl (lv_at hl 0 rfl) ?_
          refine lv_isub hx hb dX5_campAmong_37 ?_
          refine lv_icmp_gt (tgt := 45) hx hb dX5_campAmong_38 (by decide) (fun c_8 => ?_) (fun c_8 => ?_)
          · have hw := hw.1 c_8
            refine lv_iconst (v := (-1 : Int32)) hx hb dX5_campAmong_45 (by decide) ?_
            exact hret _ _ _ hw dX5_campAmong_46
          · have hw := hw.2 c_8
            refine lv_iconst (v := (5 : Int32)) hx hb dX5_campAmong_41 (by decide) ?_
            refine lv_goto (tgt := 46) hx hb dX5_campAmong_42 (by decide) ?_
            exact hret _ _ _ hw dX5_campAmong_46
        · have hw := hw.2 c_7
          refine lv_iconst (v := (1 : Int32)) hx hb dX5_campAmong_29 (by decide) ?_
          refine lv_goto (tgt := 46) hx hb dX5_campAmong_30 (by decide) ?_
          exact hret _ _ _ hw dX5_campAmong_46
    · have hw := hw.2 c_2
      refine lv_iconst (v := (3 : Int32)) hx hb dX5_campAmong_13 (by decide) ?_
      exact hret _ _ _ hw dX5_campAmong_14
  · have hw := hw.2 c_1
    refine lv_iconst (v := (0 : Int32)) hx hb dX5_campAmong_5 (by decide) ?_
    exact hret _ _ _ hw dX5_campAmong_6
set_option maxHeartbeats 4000000 in
set_option maxRecDepth 100000 in
theorem c_X5_campAmong (l : Launch) (D : va_G) (ad : Nat → Nat) (cs : Nat → ClassId) (sz : Nat) (x0 x1 : Int32) (Q : Int32 → Prop) (hw : wp_X5_campAmong x0 x1 Q) :
  Met l yX5_campAmong wsX5_campAmong rm_X5_campAmong (va_Pc [.int x0, .int x1] (PX D (cl_X5_campAmong ad cs) (ty_X5_campAmong cs) sz)) (vp_Si Q) 0 0 (fun _ => False) := by
  refine Met.ofW (cc := cX5_campAmong) (maxL := 2) (ret := (some .int)) (by decide) rfl ?_
  intro p e s m args below meth c s₁ B hml hv
  obtain ⟨rfl, hsz, hP, hK, hD0, hN⟩ := hv
  subst hsz
  have hl := lv_entry ([.int x0, .int x1]) (n := 2) (Nat.le_of_ble_eq_true rfl)
  rw [lg_entry_eq]
  have hx := B.exec
  have hb := B.bytes
  have hr := B.returns
  exact b_X5_campAmong l D ad cs x0 x1 Q hx hb hml (findClass_of_methodNamed B.named) (atoms_spec (ws := wsX5_campAmong) B.pre) hN hP hK hD0.self (fun q h => Or.inr h) hl (A := va_A (cl_X5_campAmong ad cs) s.heap.size) (fun r pc ls hq hd => W.iret (v := r) hx hb hr (fun t ht hW => ⟨r, rfl, hq, ht⟩) (fun _ h => nomatch h) hd) hw
