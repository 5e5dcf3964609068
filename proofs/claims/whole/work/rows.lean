section
-- ===== PART A: goes FIRST, ahead of the names: the tables' words, and 'selects' of the private methods out of them =====
/-- a private method of a class that the tables say can be made, by its rows of tables_1 -/
def lw_okq (q : MethodName × Nat) : Prop := (q.1.cls ≠ "java/lang/invoke/MethodHandle" ∧ q.1.cls ≠ "java/lang/invoke/VarHandle") ∧ Cond.instantiable q.1.cls q.2 ∈ tables_1 ∧ Cond.privateMethod q.1 ∈ tables_1 ∧ Cond.instanceMethod q.1 ∈ tables_1
theorem lw_p0 : lw_okq (⟨"HopperCourt$Reach", "spread", "(II)V"⟩, 5) := ⟨⟨by decide +kernel, by decide +kernel⟩, List.mem_of_getElem? (i := 84) (by decide +kernel), List.mem_of_getElem? (i := 250) (by decide +kernel), List.mem_of_getElem? (i := 251) (by decide +kernel)⟩
theorem lw_p1 : lw_okq (⟨"HopperCourt$Reach", "landing", "(III)I"⟩, 5) := ⟨⟨by decide +kernel, by decide +kernel⟩, List.mem_of_getElem? (i := 84) (by decide +kernel), List.mem_of_getElem? (i := 255) (by decide +kernel), List.mem_of_getElem? (i := 256) (by decide +kernel)⟩
theorem lw_p2 : lw_okq (⟨"HopperCourt$Reach", "mayEnd", "(III)Z"⟩, 5) := ⟨⟨by decide +kernel, by decide +kernel⟩, List.mem_of_getElem? (i := 84) (by decide +kernel), List.mem_of_getElem? (i := 267) (by decide +kernel), List.mem_of_getElem? (i := 268) (by decide +kernel)⟩
theorem lw_p3 : lw_okq (⟨"HopperCourt", "bestMove", "()I"⟩, 8) := ⟨⟨by decide +kernel, by decide +kernel⟩, List.mem_of_getElem? (i := 18) (by decide +kernel), List.mem_of_getElem? (i := 283) (by decide +kernel), List.mem_of_getElem? (i := 284) (by decide +kernel)⟩
theorem lw_p4 : lw_okq (⟨"HopperCourt$Pairing", "measure", "(I)V"⟩, 8) := ⟨⟨by decide +kernel, by decide +kernel⟩, List.mem_of_getElem? (i := 106) (by decide +kernel), List.mem_of_getElem? (i := 291) (by decide +kernel), List.mem_of_getElem? (i := 292) (by decide +kernel)⟩
theorem lw_p5 : lw_okq (⟨"HopperCourt$Pairing", "collect", "(I)V"⟩, 8) := ⟨⟨by decide +kernel, by decide +kernel⟩, List.mem_of_getElem? (i := 106) (by decide +kernel), List.mem_of_getElem? (i := 295) (by decide +kernel), List.mem_of_getElem? (i := 296) (by decide +kernel)⟩
theorem lw_p6 : lw_okq (⟨"HopperCourt$Pairing", "sumFirst", "()V"⟩, 8) := ⟨⟨by decide +kernel, by decide +kernel⟩, List.mem_of_getElem? (i := 106) (by decide +kernel), List.mem_of_getElem? (i := 312) (by decide +kernel), List.mem_of_getElem? (i := 313) (by decide +kernel)⟩
theorem lw_p7 : lw_okq (⟨"HopperCourt$Pairing", "leastWith", "([III)I"⟩, 8) := ⟨⟨by decide +kernel, by decide +kernel⟩, List.mem_of_getElem? (i := 106) (by decide +kernel), List.mem_of_getElem? (i := 322) (by decide +kernel), List.mem_of_getElem? (i := 323) (by decide +kernel)⟩
theorem lw_p8 : lw_okq (⟨"HopperCourt$Pairing", "sumLast", "()V"⟩, 8) := ⟨⟨by decide +kernel, by decide +kernel⟩, List.mem_of_getElem? (i := 106) (by decide +kernel), List.mem_of_getElem? (i := 330) (by decide +kernel), List.mem_of_getElem? (i := 331) (by decide +kernel)⟩
theorem lw_p9 : lw_okq (⟨"java/lang/Throwable", "fillInStackTrace", "(I)Ljava/lang/Throwable;"⟩, 6) := ⟨⟨by decide +kernel, by decide +kernel⟩, List.mem_of_getElem? (i := 398) (by decide +kernel), List.mem_of_getElem? (i := 396) (by decide +kernel), List.mem_of_getElem? (i := 397) (by decide +kernel)⟩
theorem lw_p10 : lw_okq (⟨"HopperCourt", "isOpen", "()Z"⟩, 8) := ⟨⟨by decide +kernel, by decide +kernel⟩, List.mem_of_getElem? (i := 18) (by decide +kernel), List.mem_of_getElem? (i := 486) (by decide +kernel), List.mem_of_getElem? (i := 487) (by decide +kernel)⟩
theorem lw_p11 : lw_okq (⟨"HopperCourt$Seats", "isStillIn", "(I)Z"⟩, 7) := ⟨⟨by decide +kernel, by decide +kernel⟩, List.mem_of_getElem? (i := 137) (by decide +kernel), List.mem_of_getElem? (i := 532) (by decide +kernel), List.mem_of_getElem? (i := 533) (by decide +kernel)⟩
theorem lw_p12 : lw_okq (⟨"HopperCourt$Seats", "isPlaced", "(I)Z"⟩, 7) := ⟨⟨by decide +kernel, by decide +kernel⟩, List.mem_of_getElem? (i := 137) (by decide +kernel), List.mem_of_getElem? (i := 540) (by decide +kernel), List.mem_of_getElem? (i := 541) (by decide +kernel)⟩
theorem lw_p13 : lw_okq (⟨"HopperCourt$Seats", "fillsGoal", "(II)Z"⟩, 7) := ⟨⟨by decide +kernel, by decide +kernel⟩, List.mem_of_getElem? (i := 137) (by decide +kernel), List.mem_of_getElem? (i := 544) (by decide +kernel), List.mem_of_getElem? (i := 545) (by decide +kernel)⟩
theorem lw_p14 : lw_okq (⟨"HopperCourt$Seats", "isTooLate", "(II)Z"⟩, 7) := ⟨⟨by decide +kernel, by decide +kernel⟩, List.mem_of_getElem? (i := 137) (by decide +kernel), List.mem_of_getElem? (i := 557) (by decide +kernel), List.mem_of_getElem? (i := 558) (by decide +kernel)⟩
theorem lw_p15 : lw_okq (⟨"HopperCourt$Reach", "lowestNearer", "(II)I"⟩, 5) := ⟨⟨by decide +kernel, by decide +kernel⟩, List.mem_of_getElem? (i := 84) (by decide +kernel), List.mem_of_getElem? (i := 641) (by decide +kernel), List.mem_of_getElem? (i := 642) (by decide +kernel)⟩
def lw_privs_1 : List (MethodName × Nat) := [(⟨"HopperCourt$Reach", "spread", "(II)V"⟩, 5), (⟨"HopperCourt$Reach", "landing", "(III)I"⟩, 5), (⟨"HopperCourt$Reach", "mayEnd", "(III)Z"⟩, 5), (⟨"HopperCourt", "bestMove", "()I"⟩, 8), (⟨"HopperCourt$Pairing", "measure", "(I)V"⟩, 8), (⟨"HopperCourt$Pairing", "collect", "(I)V"⟩, 8), (⟨"HopperCourt$Pairing", "sumFirst", "()V"⟩, 8), (⟨"HopperCourt$Pairing", "leastWith", "([III)I"⟩, 8), (⟨"HopperCourt$Pairing", "sumLast", "()V"⟩, 8), (⟨"java/lang/Throwable", "fillInStackTrace", "(I)Ljava/lang/Throwable;"⟩, 6), (⟨"HopperCourt", "isOpen", "()Z"⟩, 8), (⟨"HopperCourt$Seats", "isStillIn", "(I)Z"⟩, 7), (⟨"HopperCourt$Seats", "isPlaced", "(I)Z"⟩, 7), (⟨"HopperCourt$Seats", "fillsGoal", "(II)Z"⟩, 7), (⟨"HopperCourt$Seats", "isTooLate", "(II)Z"⟩, 7), (⟨"HopperCourt$Reach", "lowestNearer", "(II)I"⟩, 5)]
theorem lw_r1 : ∀ q ∈ lw_privs_1, lw_okq q := List.forall_mem_cons.mpr ⟨lw_p0, List.forall_mem_cons.mpr ⟨lw_p1, List.forall_mem_cons.mpr ⟨lw_p2, List.forall_mem_cons.mpr ⟨lw_p3, List.forall_mem_cons.mpr ⟨lw_p4, List.forall_mem_cons.mpr ⟨lw_p5, List.forall_mem_cons.mpr ⟨lw_p6, List.forall_mem_cons.mpr ⟨lw_p7, List.forall_mem_cons.mpr ⟨lw_p8, List.forall_mem_cons.mpr ⟨lw_p9, List.forall_mem_cons.mpr ⟨lw_p10, List.forall_mem_cons.mpr ⟨lw_p11, List.forall_mem_cons.mpr ⟨lw_p12, List.forall_mem_cons.mpr ⟨lw_p13, List.forall_mem_cons.mpr ⟨lw_p14, List.forall_mem_cons.mpr ⟨lw_p15, fun _ h => absurd h List.not_mem_nil⟩⟩⟩⟩⟩⟩⟩⟩⟩⟩⟩⟩⟩⟩⟩⟩
theorem lw_p16 : lw_okq (⟨"HopperCourtModel", "find", "(II)I"⟩, 27) := ⟨⟨by decide +kernel, by decide +kernel⟩, List.mem_of_getElem? (i := 686) (by decide +kernel), List.mem_of_getElem? (i := 695) (by decide +kernel), List.mem_of_getElem? (i := 696) (by decide +kernel)⟩
theorem lw_p17 : lw_okq (⟨"HopperCourtModel", "measures", "(I)V"⟩, 27) := ⟨⟨by decide +kernel, by decide +kernel⟩, List.mem_of_getElem? (i := 686) (by decide +kernel), List.mem_of_getElem? (i := 699) (by decide +kernel), List.mem_of_getElem? (i := 700) (by decide +kernel)⟩
theorem lw_p18 : lw_okq (⟨"HopperCourtModel", "can", "(I)Z"⟩, 27) := ⟨⟨by decide +kernel, by decide +kernel⟩, List.mem_of_getElem? (i := 686) (by decide +kernel), List.mem_of_getElem? (i := 797) (by decide +kernel), List.mem_of_getElem? (i := 798) (by decide +kernel)⟩
theorem lw_p19 : lw_okq (⟨"HopperCourtModel", "plays", "(I)Z"⟩, 27) := ⟨⟨by decide +kernel, by decide +kernel⟩, List.mem_of_getElem? (i := 686) (by decide +kernel), List.mem_of_getElem? (i := 801) (by decide +kernel), List.mem_of_getElem? (i := 802) (by decide +kernel)⟩
theorem lw_p20 : lw_okq (⟨"HopperCourtModel", "hopsOf", "(II)I"⟩, 27) := ⟨⟨by decide +kernel, by decide +kernel⟩, List.mem_of_getElem? (i := 686) (by decide +kernel), List.mem_of_getElem? (i := 820) (by decide +kernel), List.mem_of_getElem? (i := 821) (by decide +kernel)⟩
theorem lw_p21 : lw_okq (⟨"HopperCourtModel", "endsOf", "(I)I"⟩, 27) := ⟨⟨by decide +kernel, by decide +kernel⟩, List.mem_of_getElem? (i := 686) (by decide +kernel), List.mem_of_getElem? (i := 824) (by decide +kernel), List.mem_of_getElem? (i := 825) (by decide +kernel)⟩
theorem lw_p22 : lw_okq (⟨"HopperCourtModel", "hopsFrom", "(II)V"⟩, 27) := ⟨⟨by decide +kernel, by decide +kernel⟩, List.mem_of_getElem? (i := 686) (by decide +kernel), List.mem_of_getElem? (i := 828) (by decide +kernel), List.mem_of_getElem? (i := 829) (by decide +kernel)⟩
theorem lw_p23 : lw_okq (⟨"HopperCourtModel", "behind", "(III)I"⟩, 27) := ⟨⟨by decide +kernel, by decide +kernel⟩, List.mem_of_getElem? (i := 686) (by decide +kernel), List.mem_of_getElem? (i := 832) (by decide +kernel), List.mem_of_getElem? (i := 833) (by decide +kernel)⟩
theorem lw_p24 : lw_okq (⟨"HopperCourtModel", "isNext", "(II)Z"⟩, 27) := ⟨⟨by decide +kernel, by decide +kernel⟩, List.mem_of_getElem? (i := 686) (by decide +kernel), List.mem_of_getElem? (i := 836) (by decide +kernel), List.mem_of_getElem? (i := 837) (by decide +kernel)⟩
theorem lw_p25 : lw_okq (⟨"HopperCourtModel", "mayEnd", "(II)Z"⟩, 27) := ⟨⟨by decide +kernel, by decide +kernel⟩, List.mem_of_getElem? (i := 686) (by decide +kernel), List.mem_of_getElem? (i := 840) (by decide +kernel), List.mem_of_getElem? (i := 841) (by decide +kernel)⟩
theorem lw_p26 : lw_okq (⟨"HopperCourtModel", "notes", "(II)V"⟩, 27) := ⟨⟨by decide +kernel, by decide +kernel⟩, List.mem_of_getElem? (i := 686) (by decide +kernel), List.mem_of_getElem? (i := 844) (by decide +kernel), List.mem_of_getElem? (i := 845) (by decide +kernel)⟩
theorem lw_p27 : lw_okq (⟨"HopperCourtModel", "finishes", "()V"⟩, 27) := ⟨⟨by decide +kernel, by decide +kernel⟩, List.mem_of_getElem? (i := 686) (by decide +kernel), List.mem_of_getElem? (i := 848) (by decide +kernel), List.mem_of_getElem? (i := 849) (by decide +kernel)⟩
theorem lw_p28 : lw_okq (⟨"HopperCourtModel", "hasFinished", "(I)Z"⟩, 27) := ⟨⟨by decide +kernel, by decide +kernel⟩, List.mem_of_getElem? (i := 686) (by decide +kernel), List.mem_of_getElem? (i := 852) (by decide +kernel), List.mem_of_getElem? (i := 853) (by decide +kernel)⟩
theorem lw_p29 : lw_okq (⟨"HopperCourtModel", "isFull", "(I)Z"⟩, 27) := ⟨⟨by decide +kernel, by decide +kernel⟩, List.mem_of_getElem? (i := 686) (by decide +kernel), List.mem_of_getElem? (i := 856) (by decide +kernel), List.mem_of_getElem? (i := 857) (by decide +kernel)⟩
theorem lw_p30 : lw_okq (⟨"HopperCourtModel", "ownIn", "(II)I"⟩, 27) := ⟨⟨by decide +kernel, by decide +kernel⟩, List.mem_of_getElem? (i := 686) (by decide +kernel), List.mem_of_getElem? (i := 860) (by decide +kernel), List.mem_of_getElem? (i := 861) (by decide +kernel)⟩
theorem lw_p31 : lw_okq (⟨"HopperCourtModel", "turns", "()V"⟩, 27) := ⟨⟨by decide +kernel, by decide +kernel⟩, List.mem_of_getElem? (i := 686) (by decide +kernel), List.mem_of_getElem? (i := 864) (by decide +kernel), List.mem_of_getElem? (i := 865) (by decide +kernel)⟩
def lw_privs_2 : List (MethodName × Nat) := [(⟨"HopperCourtModel", "find", "(II)I"⟩, 27), (⟨"HopperCourtModel", "measures", "(I)V"⟩, 27), (⟨"HopperCourtModel", "can", "(I)Z"⟩, 27), (⟨"HopperCourtModel", "plays", "(I)Z"⟩, 27), (⟨"HopperCourtModel", "hopsOf", "(II)I"⟩, 27), (⟨"HopperCourtModel", "endsOf", "(I)I"⟩, 27), (⟨"HopperCourtModel", "hopsFrom", "(II)V"⟩, 27), (⟨"HopperCourtModel", "behind", "(III)I"⟩, 27), (⟨"HopperCourtModel", "isNext", "(II)Z"⟩, 27), (⟨"HopperCourtModel", "mayEnd", "(II)Z"⟩, 27), (⟨"HopperCourtModel", "notes", "(II)V"⟩, 27), (⟨"HopperCourtModel", "finishes", "()V"⟩, 27), (⟨"HopperCourtModel", "hasFinished", "(I)Z"⟩, 27), (⟨"HopperCourtModel", "isFull", "(I)Z"⟩, 27), (⟨"HopperCourtModel", "ownIn", "(II)I"⟩, 27), (⟨"HopperCourtModel", "turns", "()V"⟩, 27)]
theorem lw_r2 : ∀ q ∈ lw_privs_2, lw_okq q := List.forall_mem_cons.mpr ⟨lw_p16, List.forall_mem_cons.mpr ⟨lw_p17, List.forall_mem_cons.mpr ⟨lw_p18, List.forall_mem_cons.mpr ⟨lw_p19, List.forall_mem_cons.mpr ⟨lw_p20, List.forall_mem_cons.mpr ⟨lw_p21, List.forall_mem_cons.mpr ⟨lw_p22, List.forall_mem_cons.mpr ⟨lw_p23, List.forall_mem_cons.mpr ⟨lw_p24, List.forall_mem_cons.mpr ⟨lw_p25, List.forall_mem_cons.mpr ⟨lw_p26, List.forall_mem_cons.mpr ⟨lw_p27, List.forall_mem_cons.mpr ⟨lw_p28, List.forall_mem_cons.mpr ⟨lw_p29, List.forall_mem_cons.mpr ⟨lw_p30, List.forall_mem_cons.mpr ⟨lw_p31, fun _ h => absurd h List.not_mem_nil⟩⟩⟩⟩⟩⟩⟩⟩⟩⟩⟩⟩⟩⟩⟩⟩
theorem lw_p32 : lw_okq (⟨"HopperCourtModel", "allMoves", "()I"⟩, 27) := ⟨⟨by decide +kernel, by decide +kernel⟩, List.mem_of_getElem? (i := 686) (by decide +kernel), List.mem_of_getElem? (i := 872) (by decide +kernel), List.mem_of_getElem? (i := 873) (by decide +kernel)⟩
theorem lw_p33 : lw_okq (⟨"HopperCourtModel", "areCells", "(II)Z"⟩, 27) := ⟨⟨by decide +kernel, by decide +kernel⟩, List.mem_of_getElem? (i := 686) (by decide +kernel), List.mem_of_getElem? (i := 896) (by decide +kernel), List.mem_of_getElem? (i := 897) (by decide +kernel)⟩
theorem lw_p34 : lw_okq (⟨"HopperCourtModel", "wayOf", "(I)I"⟩, 27) := ⟨⟨by decide +kernel, by decide +kernel⟩, List.mem_of_getElem? (i := 686) (by decide +kernel), List.mem_of_getElem? (i := 940) (by decide +kernel), List.mem_of_getElem? (i := 941) (by decide +kernel)⟩
theorem lw_p35 : lw_okq (⟨"HopperCourtModel", "best", "()I"⟩, 27) := ⟨⟨by decide +kernel, by decide +kernel⟩, List.mem_of_getElem? (i := 686) (by decide +kernel), List.mem_of_getElem? (i := 949) (by decide +kernel), List.mem_of_getElem? (i := 950) (by decide +kernel)⟩
def lw_privs_3 : List (MethodName × Nat) := [(⟨"HopperCourtModel", "allMoves", "()I"⟩, 27), (⟨"HopperCourtModel", "areCells", "(II)Z"⟩, 27), (⟨"HopperCourtModel", "wayOf", "(I)I"⟩, 27), (⟨"HopperCourtModel", "best", "()I"⟩, 27)]
theorem lw_r3 : ∀ q ∈ lw_privs_3, lw_okq q := List.forall_mem_cons.mpr ⟨lw_p32, List.forall_mem_cons.mpr ⟨lw_p33, List.forall_mem_cons.mpr ⟨lw_p34, List.forall_mem_cons.mpr ⟨lw_p35, fun _ h => absurd h List.not_mem_nil⟩⟩⟩⟩
def lw_privs : List (MethodName × Nat) := lw_privs_1 ++ (lw_privs_2 ++ (lw_privs_3))
def lw_tbl : List Cond := k2_sels lw_privs ++ tables_1
theorem lw_privs_ok : ∀ q ∈ lw_privs, lw_okq q := by
  show ∀ q ∈ lw_privs_1 ++ (lw_privs_2 ++ (lw_privs_3)), lw_okq q
  exact List.forall_mem_append.mpr ⟨lw_r1, List.forall_mem_append.mpr ⟨lw_r2, lw_r3⟩⟩
-- ===== end of PART A; then your names; then what follows =====
end
section
/-! ===== BEGIN words of one list among another's, by their places ===== -/
theorem goodIn_r {big : List Cond} (ws : List Cond) (ps : List Nat) (hp : ws = ps.filterMap (fun i => big[i]?)) (h : ws.all goodWord = true) : GoodIn big ws := by
  intro w hw
  have h1 := List.all_eq_true.mp h w hw
  rw [hp] at hw
  obtain ⟨i, -, hi⟩ := List.mem_filterMap.mp hw
  have hm : w ∈ big := by first | exact List.mem_of_getElem? hi | exact List.getElem?_mem hi
  exact ⟨hm, good_of_word h1⟩
theorem goodIn_app {big a b : List Cond} (ha : GoodIn big a) (hb : GoodIn big b) : GoodIn big (a ++ b) := fun w h => (List.mem_append.mp h).elim (ha w) (hb w)
theorem goodIn_ca {big a b : List Cond} {c : Cond} (ha : GoodIn big (c :: a)) (hb : GoodIn big b) : GoodIn big (c :: (a ++ b)) := fun w h => (List.mem_cons.mp h).elim (fun e => ha w (List.mem_cons.mpr (Or.inl e))) (fun h => (List.mem_append.mp h).elim (fun h => ha w (List.mem_cons.mpr (Or.inr h))) (hb w))
theorem goodIn_sub {big ws : List Cond} (hm : ∀ w ∈ ws, w ∈ big) (h : ws.all goodWord = true) : GoodIn big ws := fun w hw => ⟨hm w hw, good_of_word (List.all_eq_true.mp h w hw)⟩
/-! ===== END ===== -/

/-! ===== BEGIN exceptions that leave a method, and their catching by the caller (launches without stack traces) ===== -/
section VXA
/-! The laws vx_back, vx_callV, vx_callS, vx_callSW, vx_throw0, vx_throwS follow proofs of the library, with one case more: JvmDerived/Free/Laws.lean (Back.of_free), Shelf42/LK1.lean (callV, callS), Shelf/KitTraced.lean (throwNew0V, throwNewS). -/
/-- where a method has thrown q: the class by its name, the cell, what was written, the world -/
def vx_T (XC : String → State → State → Prop) (st : State) (q : Addr) (t : State) (mc ms : Nat) (free : Addr → Prop) : Prop :=
  ∃ (E : String) (ce : Cell) (L : List Loc), XC E st t ∧ t.heap[q]? = some ce ∧ ce.vm = .none ∧ st.vm.findClass E = some ce.cls ∧ st.WarmedH t.vm ∧ st.sameButNew ({ t with vm := st.vm } : State) L mc ms ∧ ∀ z ∈ L, free z.base
def vx_Q (Qc : Array Value → State → Outcome → State → Prop) (XC : String → State → State → Prop) (mc ms : Nat) (free : Addr → Prop) : Array Value → State → Outcome → State → Prop := fun a st o t =>
  (Qc a st o t ∧ ∃ L, FrameEnd st o t L mc ms ∧ ∀ q ∈ L, free q.base) ∨ ∃ q, o = .threw q ∧ vx_T XC st q t mc ms free
/-- a callee that returns or throws -/
def vx_Met (l : Launch) (y : MethodName) (ws : List Cond) (rm : Room) (Pc : Array Value → State → Prop) (Qc : Array Value → State → Outcome → State → Prop) (XC : String → State → State → Prop) (mc ms : Nat) (free : Addr → Prop) : Prop :=
  MetFree l y (headSpec ws rm) Pc (fun _ _ _ _ _ => True) (vx_Q Qc XC mc ms free)
def vx_Post (XC : String → State → State → Prop) (mc ms : Nat) (free : Addr → Prop) : Pt → Array Value → Addr → Pt → Prop := fun A a q B =>
  ∃ (g : JFrame) (mk : MethodId) (t : State) (L : List Loc) (E : String) (ce : Cell), B.U.heap = t.heap ∧ B.U.vm = t.vm ∧ XC E (A.U.calling g mk a) t ∧ t.heap[q]? = some ce ∧ ce.vm = .none ∧ A.U.vm.findClass E = some ce.cls ∧ B.locs = A.locs ++ L ∧ (∀ z ∈ L, free z.base) ∧ B.cells = A.cells + mc ∧ B.slots = A.slots + ms
def vx_Back (l : Launch) (R : Room) (p : Program) (e : Env) (below : List Frame) (s : State) (sargs : Array Value) (y : MethodName) (len W9 : Nat)
    (Pre : Pt → Array Value → Prop) (Post : Pt → Array Value → Option Value → Pt → Prop) (PostX : Pt → Array Value → Addr → Pt → Prop) : Prop :=
  ∀ (m : MethodId) (meth : Method) (c : Code) (A : Pt) (g : JFrame) (ig : Instr) (mk : MethodId) (a : Array Value),
    Stand p l e R s m sargs below meth c A.U A.locs A.cells A.slots → g.method = m → g.locals.size = c.maxLocals → decode c.code g.pc = .ok (ig, len) →
    2 * g.monitorRoom + (g.stack.map fun v => v.category).sum ≤ W9 → A.U.methodNamed? y = some mk → Pre A a →
    (∃ (v : Option Value) (B : Pt), Stand p l e R s m sargs below meth c B.U B.locs B.cells B.slots ∧ Post A a v B ∧
      Steps p.tables e below (doInvoke e (A.U.setTop g) [] mk a).1 (B.U.setTop { g with pc := g.pc + len, stack := v.toList ++ g.stack })) ∨
    (∃ (q : Addr) (B : Pt), Stand p l e R s m sargs below meth c B.U B.locs B.cells B.slots ∧ PostX A a q B ∧
      Steps p.tables e below (doInvoke e (A.U.setTop g) [] mk a).1 ((B.U.setTop g).pushFrame (.throwing q)))
section Payer
variable {l : Launch} {R : Room} {p : Program} {e : Env} {below : List Frame} {s : State} {sargs : Array Value} {y : MethodName} {len W9 : Nat}
theorem vx_back {ws : List Cond} {rm : Room} {Pc : Array Value → State → Prop} {Qc : Array Value → State → Outcome → State → Prop} {XC : String → State → State → Prop} {mc ms : Nat} {free : Addr → Prop} {bytes : ByteArray} {maxL : Nat} {ret : Option FieldType}
    (hM : vx_Met l y ws rm Pc Qc XC mc ms free) (hblind : FrameBlind Pc) (hrc : rm.cells = mc) (hrs : rm.slots = ms)
    (hframes : rm.frames + 1 ≤ R.frames) (hlocals : W9 + (maxL + 11) + rm.locals ≤ R.locals)
    (hws : ∀ w ∈ ws, ∀ a' U, s.WarmedH U.vm → w.before a' U = true) (hcode : Cond.code y bytes maxL ret ∈ ws) (hinit : ∀ a' U, s.WarmedH U.vm → (Cond.initialized y.cls).before a' U = true) :
    vx_Back l R p e below s sargs y len W9 (PreOf R mc ms Pc) (PostOf Qc mc ms free) (vx_Post XC mc ms free) := by
  intro m meth c A g ig mk a X hg hsize hdg hW hn hp
  have h1 : (headSpec ws rm).pre.before a A.U = true := atoms_intro fun w hw => hws w hw _ _ X.warmed
  have h2 : (Cond.code y bytes maxL ret).before a A.U = true := hws _ hcode _ _ X.warmed
  have h3 : (Cond.initialized y.cls).before a A.U = true := hinit _ _ X.warmed
  have h4 : A.cells + (headSpec ws rm).room.cells ≤ R.cells := by rw [show (headSpec ws rm).room.cells = mc from hrc]; exact hp.1
  have h5 : A.slots + (headSpec ws rm).room.slots ≤ R.slots := by rw [show (headSpec ws rm).room.slots = ms from hrs]; exact hp.2.1
  have hPc : Pc a (A.U.calling g mk a) := hblind _ _ _ _ hp.2.2
  obtain ⟨U, Ls, c0, s0⟩ := A
  dsimp only [Pt.U, Pt.locs, Pt.cells, Pt.slots] at h1 h2 h3 h4 h5 X hn hPc ⊢
  obtain ⟨methY, cY, hmY, hcY, -, hlY, -, -, -, -⟩ := Cond.code_spec hn h2
  obtain ⟨kY, hkY, -⟩ := className_of_methodNamed hn
  have hinitY : kY.init = .initialized := Cond.initialized_spec (findClass_of_methodNamed hn) hkY h3
  have h : At U g.method c below := by rw [hg]; exact X.here
  have hlocals9 : W9 + (maxL + 11) + (headSpec ws rm).room.locals ≤ R.locals := hlocals
  have happ : (headSpec ws rm).appliesLoose y e.platform (U.calling g mk a) = true :=
    Spec.appliesLoose_calling (g := g) h hdg hn hkY hinitY
      (X.room_calling (g := g) (R' := (headSpec ws rm).room) hsize hmY hcY hframes (by rw [hlY]; omega) h4 h5) h1
  obtain ⟨mid, hmid⟩ := h.above
  have hfr : (U.setTop g).frames = (.java g :: mid) ++ below := by rw [State.frames_setTop' g h.top, hmid]; rfl
  obtain ⟨o, s₂, hsteps, -, hend, hq⟩ := Steps.callFree hM p X.admits X.cas X.clock (acts := []) hfr happ hPc trivial
  have hq' : vx_Q Qc XC mc ms free a (U.calling g mk a) o s₂ := hq
  rw [State.frames_setTop' g h.top] at hend
  obtain ⟨g₀, hg0⟩ := Option.isSome_iff_exists.mp h.top
  obtain ⟨r, hr⟩ := State.topJava?_eq_some.mp hg0
  have hr' : (({ U with heap := s₂.heap, slotsUsed := s₂.slotsUsed } : State).setVm s₂.vm).frames = .java g₀ :: r := hr
  rcases hq' with ⟨hqc, L, hfe, hL⟩ | ⟨q, rfl, E, ce, L, hx, hce, hcv, hcl, hW₂, hsm, hL⟩
  · obtain ⟨⟨v, rfl⟩, hW₂, e2, q2, q3, q4, q5, q6⟩ := id hfe
    have e3 : s₂ = ({ (U.calling g mk a).setFrames s₂.frames with heap := s₂.heap, slotsUsed := s₂.slotsUsed } : State).setVm s₂.vm := by
      have : s₂ = ({ s₂ with vm := (U.calling g mk a).vm } : State).setVm s₂.vm := rfl
      rw [e2] at this
      exact this
    obtain ⟨c₂, i₂, len₂, hc₂, hd₂, hf₂⟩ := hend
    have hW' : U.WarmedH s₂.vm := hW₂
    have hcc : c₂ = c := by
      have h1 : s₂.code? g.method = U.code? g.method := by
        rw [State.code?_eq, State.code?_eq, hW'.alike.method?]
      exact Option.some.inj (hc₂.symm.trans (h1.trans h.code))
    subst hcc
    have hlen : len₂ = len := by rw [hdg] at hd₂; cases hd₂; rfl
    subst hlen
    have hs₂ : s₂ = (({ U with heap := s₂.heap, slotsUsed := s₂.slotsUsed } : State).setVm s₂.vm).setTop { g with pc := g.pc + len₂, stack := v.toList ++ g.stack } := by
      refine e3.trans ?_
      rw [hf₂, State.calling_eq h.top, State.setFrames_setFrames, State.setTop_of_frames _ hr', hr]
      rfl
    have hsame : U.sameButNew ({ U with heap := s₂.heap, slotsUsed := s₂.slotsUsed } : State) L mc ms := by
      refine ⟨?_, q2, q3, q4, q5, q6⟩
      obtain ⟨t, ht, -⟩ := State.frames_cons hr
      show ({ U with heap := s₂.heap, slotsUsed := s₂.slotsUsed } : State) = { U.setFrames U.frames with heap := s₂.heap, slotsUsed := s₂.slotsUsed }
      rw [State.setFrames_self ht]
    subst hg
    refine Or.inl ⟨v, ⟨(({ U with heap := s₂.heap, slotsUsed := s₂.slotsUsed } : State).setVm s₂.vm), Ls ++ L, c0 + mc, s0 + ms⟩,
      ⟨X.admits, X.cas, X.clock, X.frames, X.room, X.hears, X.method, X.code, (X.here.setHeapUsed s₂.heap s₂.slotsUsed).setVm hW'.alike, X.tail, State.WarmedH.trans X.warmed hW', X.limits, X.bytes, X.same.trans (hsame.setVm s.vm)⟩,
      ⟨g, mk, s₂, L, rfl, rfl, hqc, rfl, hL, rfl, rfl⟩, ?_⟩
    show Steps p.tables e below _ ((({ U with heap := s₂.heap, slotsUsed := s₂.slotsUsed } : State).setVm s₂.vm).setTop { g with pc := g.pc + len₂, stack := v.toList ++ g.stack })
    rw [← hs₂]
    exact hsteps
  · obtain ⟨e2, q2, q3, q4, q5, q6⟩ := id hsm
    have e3 : s₂ = ({ (U.calling g mk a).setFrames s₂.frames with heap := s₂.heap, slotsUsed := s₂.slotsUsed } : State).setVm s₂.vm := by
      have : s₂ = ({ s₂ with vm := (U.calling g mk a).vm } : State).setVm s₂.vm := rfl
      rw [e2] at this
      exact this
    have hf₂ : s₂.frames = .throwing q :: .java g :: U.frames.tail := hend
    have hW' : U.WarmedH s₂.vm := hW₂
    have hs₂ : s₂ = ((({ U with heap := s₂.heap, slotsUsed := s₂.slotsUsed } : State).setVm s₂.vm).setTop g).pushFrame (.throwing q) := by
      refine e3.trans ?_
      rw [hf₂, State.calling_eq h.top, State.setFrames_setFrames, State.pushFrame, State.frames_setTop _ hr', State.setTop_of_frames _ hr', State.setFrames_setFrames, hr]
      rfl
    have hsame : U.sameButNew ({ U with heap := s₂.heap, slotsUsed := s₂.slotsUsed } : State) L mc ms := by
      refine ⟨?_, q2, q3, q4, q5, q6⟩
      obtain ⟨t, ht, -⟩ := State.frames_cons hr
      show ({ U with heap := s₂.heap, slotsUsed := s₂.slotsUsed } : State) = { U.setFrames U.frames with heap := s₂.heap, slotsUsed := s₂.slotsUsed }
      rw [State.setFrames_self ht]
    subst hg
    refine Or.inr ⟨q, ⟨(({ U with heap := s₂.heap, slotsUsed := s₂.slotsUsed } : State).setVm s₂.vm), Ls ++ L, c0 + mc, s0 + ms⟩,
      ⟨X.admits, X.cas, X.clock, X.frames, X.room, X.hears, X.method, X.code, (X.here.setHeapUsed s₂.heap s₂.slotsUsed).setVm hW'.alike, X.tail, State.WarmedH.trans X.warmed hW', X.limits, X.bytes, X.same.trans (hsame.setVm s.vm)⟩,
      ⟨g, mk, s₂, L, E, ce, rfl, rfl, hx, hce, hcv, hcl, rfl, hL, rfl, rfl⟩, ?_⟩
    show Steps p.tables e below _ (((({ U with heap := s₂.heap, slotsUsed := s₂.slotsUsed } : State).setVm s₂.vm).setTop g).pushFrame (.throwing q))
    rw [← hs₂]
    exact hsteps
end Payer
section Calls
variable {p : Program} {l : Launch} {e : Env} {R : Room} {s : State} {m : MethodId} {args : Array Value} {below : List Frame} {meth : Method} {c : Code} {T : State} {locs : List Loc} {cells slots : Nat}
theorem vx_callV (X : Stand p l e R s m args below meth c T locs cells slots) (hexec : p.tables.exec = Jvm.exec) {own C : String} {index : Nat} {y : MethodName} {bytes : ByteArray} {maxL : Nat} {ret : Option FieldType}
    (hown : s.vm.findClass own = some m.cls) (hlink : (Cond.methodLink own index y).before args s = true) (hinst : (Cond.instanceMethod y).before args s = true) (hsel : (Cond.selects C y y).before args s = true)
    (hcode : (Cond.code y bytes maxL ret).before args s = true) (hy : y.cls ≠ "java/lang/invoke/MethodHandle" ∧ y.cls ≠ "java/lang/invoke/VarHandle")
    {W9 : Nat} {Pre : Pt → Array Value → Prop} {Post : Pt → Array Value → Option Value → Pt → Prop} {PostX : Pt → Array Value → Addr → Pt → Prop} (hK : vx_Back l R p e below s args y 3 W9 Pre Post PostX)
    {b : Addr} {cellB : Cell} (hcell : T.heap[b]? = some cellB) (hobj : cellB.vm.isStatics = false) (hcls : s.vm.findClass C = some cellB.cls)
    {g : JFrame} (hg : g.method = m) (hsize : g.locals.size = c.maxLocals) {argsL rest : List Value} (hlen : ∀ sig, parseMethodDescriptor y.desc = some sig → argsL.length = sig.parameters.length)
    (hstack : g.stack = argsL.reverse ++ .ref b :: rest) (hW : 2 * g.monitorRoom + (rest.map fun v => v.category).sum ≤ W9) (hdg : decode c.code g.pc = .ok (.invokevirtual index, 3))
    (hpre : ∀ vm₁, s.WarmedH vm₁ → Pre ⟨T.setVm vm₁, locs, cells, slots⟩ (Value.ref b :: argsL).toArray) :
    (∃ (v : Option Value) (vm₁ : Vm) (B : Pt), s.WarmedH vm₁ ∧ Stand p l e R s m args below meth c B.U B.locs B.cells B.slots ∧ Post ⟨T.setVm vm₁, locs, cells, slots⟩ (Value.ref b :: argsL).toArray v B ∧
      ∀ target, Steps p.tables e below (B.U.setTop { g with pc := g.pc + 3, stack := v.toList ++ rest }) target → Steps p.tables e below (T.setTop g) target) ∨
    (∃ (q : Addr) (vm₁ : Vm) (B : Pt), s.WarmedH vm₁ ∧ Stand p l e R s m args below meth c B.U B.locs B.cells B.slots ∧ PostX ⟨T.setVm vm₁, locs, cells, slots⟩ (Value.ref b :: argsL).toArray q B ∧
      Steps p.tables e below (T.setTop g) ((B.U.setTop { g with stack := rest }).pushFrame (.throwing q))) := by
  obtain ⟨mk, methM, hnamed, hmethM, hstM, habM⟩ := Cond.instanceMethod_spec hinst
  obtain ⟨methM', cM, hmethM', -, -, -, -, -, -, hsigM⟩ := Cond.code_spec hnamed hcode
  cases hmethM.symm.trans hmethM'
  obtain ⟨c2, r2, m2, q1, q2, q3, q4, kP, hkP, hkPi⟩ := Cond.selects_spec hsel
  cases hcls.symm.trans q1
  cases (State.methodFound?_of_named hnamed hy).symm.trans q2
  cases hnamed.symm.trans q3
  have hselP : selectMethod e.platform s.vm cellB.cls mk = .method mk := by rw [Launch.admits_selectMethod X.admits]; exact q4
  obtain ⟨vm₁, X₁, hstep₁⟩ := X.invokevirtual hexec hown hlink hnamed hmethM hstM hkP hkPi hy (a := b) (cell := cellB) hcell
    (fun z h => by rw [h] at hobj; cases hobj) hselP hmethM habM hkP hkPi (g := g) hg (argsL := argsL) (rest := rest) (hlen _ hsigM) hstack hdg
  rcases hK m meth c ⟨T.setVm vm₁, locs, cells, slots⟩ { g with stack := rest } (.invokevirtual index) mk (Value.ref b :: argsL).toArray X₁ hg hsize hdg hW (X₁.named hnamed) (hpre vm₁ X₁.warmed) with ⟨v, B, X', hpost, hsteps⟩ | ⟨q, B, X', hpost, hsteps⟩
  · exact Or.inl ⟨v, vm₁, B, X₁.warmed, X', hpost, fun target h => hstep₁ _ fun acts => by rw [doInvoke_state]; exact hsteps.trans h⟩
  · exact Or.inr ⟨q, vm₁, B, X₁.warmed, X', hpost, hstep₁ _ fun acts => by rw [doInvoke_state]; exact hsteps⟩
theorem vx_callS (X : Stand p l e R s m args below meth c T locs cells slots) (hexec : p.tables.exec = Jvm.exec) {own : String} {index : Nat} {y : MethodName} {bytes : ByteArray} {maxL : Nat} {ret : Option FieldType}
    (hown : s.vm.findClass own = some m.cls) (hlink : (Cond.methodLink own index y).before args s = true) (hstat : (Cond.static y).before args s = true) (hinit : (Cond.initialized y.cls).before args s = true)
    (hcode : (Cond.code y bytes maxL ret).before args s = true) (hy : y.cls ≠ "java/lang/invoke/MethodHandle" ∧ y.cls ≠ "java/lang/invoke/VarHandle")
    {W9 : Nat} {Pre : Pt → Array Value → Prop} {Post : Pt → Array Value → Option Value → Pt → Prop} {PostX : Pt → Array Value → Addr → Pt → Prop} (hK : vx_Back l R p e below s args y 3 W9 Pre Post PostX)
    {g : JFrame} (hg : g.method = m) (hsize : g.locals.size = c.maxLocals) {argsL rest : List Value} (hlen : ∀ sig, parseMethodDescriptor y.desc = some sig → argsL.length = sig.parameters.length)
    (hstack : g.stack = argsL.reverse ++ rest) (hW : 2 * g.monitorRoom + (rest.map fun v => v.category).sum ≤ W9) (hdg : decode c.code g.pc = .ok (.invokestatic index, 3))
    (hpre : ∀ vm₁, s.WarmedH vm₁ → Pre ⟨T.setVm vm₁, locs, cells, slots⟩ argsL.toArray) :
    (∃ (v : Option Value) (vm₁ : Vm) (B : Pt), s.WarmedH vm₁ ∧ Stand p l e R s m args below meth c B.U B.locs B.cells B.slots ∧ Post ⟨T.setVm vm₁, locs, cells, slots⟩ argsL.toArray v B ∧
      ∀ target, Steps p.tables e below (B.U.setTop { g with pc := g.pc + 3, stack := v.toList ++ rest }) target → Steps p.tables e below (T.setTop g) target) ∨
    (∃ (q : Addr) (vm₁ : Vm) (B : Pt), s.WarmedH vm₁ ∧ Stand p l e R s m args below meth c B.U B.locs B.cells B.slots ∧ PostX ⟨T.setVm vm₁, locs, cells, slots⟩ argsL.toArray q B ∧
      Steps p.tables e below (T.setTop g) ((B.U.setTop { g with stack := rest }).pushFrame (.throwing q))) := by
  obtain ⟨mk, hnamed⟩ := Cond.code_named hcode
  obtain ⟨methM, cM, hmethM, -, -, -, -, -, -, hsigM⟩ := Cond.code_spec hnamed hcode
  have hstatic : methM.isStatic = true := Cond.static_spec hnamed hmethM hstat
  obtain ⟨kP, hkP, -⟩ := className_of_methodNamed hnamed
  have hinitP : kP.init = .initialized := Cond.initialized_spec (findClass_of_methodNamed hnamed) hkP hinit
  obtain ⟨vm₁, X₁, hstep₁⟩ := X.invokestatic hexec hown hlink hnamed hmethM hstatic hkP hinitP hy (g := g) hg (argsL := argsL) (rest := rest) (hlen _ hsigM) hstack hdg
  rcases hK m meth c ⟨T.setVm vm₁, locs, cells, slots⟩ { g with stack := rest } (.invokestatic index) mk argsL.toArray X₁ hg hsize hdg hW (X₁.named hnamed) (hpre vm₁ X₁.warmed) with ⟨v, B, X', hpost, hsteps⟩ | ⟨q, B, X', hpost, hsteps⟩
  · exact Or.inl ⟨v, vm₁, B, X₁.warmed, X', hpost, fun target h => hstep₁ _ fun acts => by rw [doInvoke_state]; exact hsteps.trans h⟩
  · exact Or.inr ⟨q, vm₁, B, X₁.warmed, X', hpost, hstep₁ _ fun acts => by rw [doInvoke_state]; exact hsteps⟩
end Calls
theorem vx_cls {s : State} {T : State} {vm₁ : Vm} {E : String} {k : ClassId} (hW : s.WarmedH vm₁) (h : (T.setVm vm₁).vm.findClass E = some k) : s.vm.findClass E = some k := by
  have h1 : vm₁.findClass E = some k := h
  rw [hW.alike.findClass] at h1
  exact h1
/-- the method's frame g, with q thrown over it -/
def vx_W (p : Program) (l : Launch) (e : Env) (R : Room) (s : State) (m : MethodId) (args : Array Value) (below : List Frame) (meth : Method) (c : Code) (H : Heap) (locs : List Loc) (cells slots : Nat) (Q : State → Prop) (g : JFrame) (q : Addr) : Prop :=
  ∀ T : State, T.heap = H → Stand p l e R s m args below meth c T locs cells slots → ∃ t, Steps p.tables e below ((T.setTop g).pushFrame (.throwing q)) t ∧ Q t
def vx_Run (p : Program) (l : Launch) (e : Env) (R : Room) (s : State) (m : MethodId) (args : Array Value) (below : List Frame) (meth : Method) (c : Code) (H : Heap) (locs : List Loc) (cells slots mc ms : Nat) (g : JFrame) (rest : List Value) (Qa : State → Outcome → State → Prop) (XC : String → State → State → Prop) (free : Addr → Prop) : Prop :=
  ∀ T : State, T.heap = H → Stand p l e R s m args below meth c T locs cells slots →
    (∃ (v : Option Value) (st₀ t T' : State) (L : List Loc), st₀.heap = H ∧ Stand p l e R s m args below meth c T' (locs ++ L) (cells + mc) (slots + ms) ∧ (∀ q ∈ L, free q.base) ∧ T'.heap = t.heap ∧ T'.vm = t.vm ∧ Qa st₀ (.returned v) t ∧
      Goes p e below T g T' { g with pc := g.pc + 3, stack := v.toList ++ rest }) ∨
    (∃ (q : Addr) (st₀ t T' : State) (L : List Loc) (E : String) (ce : Cell), st₀.heap = H ∧ Stand p l e R s m args below meth c T' (locs ++ L) (cells + mc) (slots + ms) ∧ (∀ z ∈ L, free z.base) ∧ T'.heap = t.heap ∧ T'.vm = t.vm ∧ XC E st₀ t ∧ t.heap[q]? = some ce ∧ ce.vm = .none ∧ s.vm.findClass E = some ce.cls ∧
      Steps p.tables e below (T.setTop g) ((T'.setTop { g with stack := rest }).pushFrame (.throwing q)))
def vx_X {S : Type} (px : S → Prop) (B : String → S → State → Prop) (A : Nat → Prop) : String → State → State → Prop := fun E st t => ∃ u : S, px u ∧ B E u t ∧ va_F A st t
section Runs
variable {p : Program} {l : Launch} {e : Env} {R : Room} {s : State} {m : MethodId} {args : Array Value} {below : List Frame} {meth : Method} {c : Code} {H : Heap} {locs : List Loc} {cells slots : Nat}
variable {y : MethodName} {bytes cc : ByteArray} {maxL nL mc ms n index : Nat} {ret : Option FieldType} {ws : List Cond} {rm : Room} {Pc : Array Value → State → Prop} {Qc : Array Value → State → Outcome → State → Prop} {XC : String → State → State → Prop} {free : Addr → Prop} {Ts : List Cond} {own C : String} {b : Addr} {As rest : List Value} {g : JFrame}
theorem vx_callBack (cb : CallB R s args own index y bytes maxL ret ws rm mc ms n) (hM : vx_Met l y ws rm Pc Qc XC mc ms free) (hbl : FrameBlind Pc) : vx_Back l R p e below s args y 3 8 (PreOf R mc ms Pc) (PostOf Qc mc ms free) (vx_Post XC mc ms free) := by
  obtain ⟨hrc, hrs, hfr, hlo, hws, hcw, -, hini, -⟩ := cb
  exact vx_back (bytes := bytes) (maxL := maxL) (ret := ret) hM hbl hrc hrs hfr hlo hws hcw (fun a' U hW => word_at hW (Or.inl (by first | rfl | simp [Cond.onTables, Cond.keeps, Cond.steady])) hini)
theorem vx_runV (S : CallFix p m c cc nL s args Ts own) (hM : vx_Met l y ws rm Pc Qc XC mc ms free) (cw : CallW R s args own C index y bytes maxL ret ws rm mc ms n) (hp : PreV s H C b Pc As)
    (hg : g.method = m) (hn : As.length = n) (hsize : g.locals.size = nL) (hstack : g.stack = As.reverse ++ .ref b :: rest) (hW : 2 * g.monitorRoom + (rest.map fun v => v.category).sum ≤ 8) (hdg : decode cc g.pc = .ok (.invokevirtual index, 3)) (hf : cells + mc ≤ R.cells ∧ slots + ms ≤ R.slots) :
    vx_Run p l e R s m args below meth c H locs cells slots mc ms g rest (Qc (Value.ref b :: As).toArray) XC free := by
  have hK : vx_Back l R p e below s args y 3 8 (PreOf R mc ms Pc) (PostOf Qc mc ms free) (vx_Post XC mc ms free) := vx_callBack cw.1 hM hp.1
  obtain ⟨⟨-, -, -, -, -, -, hcode, -, hy, hlen, hl⟩, hin, hse⟩ := cw
  obtain ⟨hx, hb, hml, ho, -⟩ := S
  obtain ⟨-, ⟨cellB, hcB, hoB, hclB⟩, hPc⟩ := hp
  intro T hT X
  rcases vx_callV X hx (C := C) (bytes := bytes) (maxL := maxL) (ret := ret) ho hl hin hse hcode hy hK (by rw [hT]; exact hcB) hoB hclB hg (hsize.trans hml.symm) (argsL := As) (rest := rest) (fun sig h => hn.trans (hlen sig h)) hstack hW (by rw [hb]; exact hdg)
    (fun vm₁ hW₁ => ⟨hf.1, hf.2, hPc (T.setVm vm₁) hT hW₁⟩) with ⟨v, vm₁, ⟨U', l2, c2, s2⟩, hW₁, X', ⟨g', mk, t, L, e1, e2, hq, h1, hL, h2, h3⟩, st⟩ | ⟨q, vm₁, ⟨U', l2, c2, s2⟩, hW₁, X', ⟨g', mk, t, L, E, ce, e1, e2, hq, hce, hcv, hcl, h1, hL, h2, h3⟩, st⟩
  · dsimp only [Pt.U, Pt.locs, Pt.cells, Pt.slots] at X' e1 e2 h1 h2 h3 st
    subst h1; subst h2; subst h3
    exact Or.inl ⟨v, (T.setVm vm₁).calling g' mk (Value.ref b :: As).toArray, t, U', L, hT, X', hL, e1, e2, hq, st⟩
  · dsimp only [Pt.U, Pt.locs, Pt.cells, Pt.slots] at X' e1 e2 h1 h2 h3 st hcl
    subst h1; subst h2; subst h3
    exact Or.inr ⟨q, (T.setVm vm₁).calling g' mk (Value.ref b :: As).toArray, t, U', L, E, ce, hT, X', hL, e1, e2, hq, hce, hcv, vx_cls hW₁ hcl, st⟩
theorem vx_runS (S : CallFix p m c cc nL s args Ts own) (hM : vx_Met l y ws rm Pc Qc XC mc ms free) (cw : CallB R s args own index y bytes maxL ret ws rm mc ms n ∧ (Cond.static y).before args s = true) (hp : PreS s H Pc As)
    (hg : g.method = m) (hn : As.length = n) (hsize : g.locals.size = nL) (hstack : g.stack = As.reverse ++ rest) (hW : 2 * g.monitorRoom + (rest.map fun v => v.category).sum ≤ 8) (hdg : decode cc g.pc = .ok (.invokestatic index, 3)) (hf : cells + mc ≤ R.cells ∧ slots + ms ≤ R.slots) :
    vx_Run p l e R s m args below meth c H locs cells slots mc ms g rest (Qc As.toArray) XC free := by
  have hK : vx_Back l R p e below s args y 3 8 (PreOf R mc ms Pc) (PostOf Qc mc ms free) (vx_Post XC mc ms free) := vx_callBack cw.1 hM hp.1
  obtain ⟨⟨-, -, -, -, -, -, hcode, hini, hy, hlen, hl⟩, hstt⟩ := cw
  obtain ⟨hx, hb, hml, ho, -⟩ := S
  intro T hT X
  rcases vx_callS X hx (bytes := bytes) (maxL := maxL) (ret := ret) ho hl hstt hini hcode hy hK hg (hsize.trans hml.symm) (argsL := As) (rest := rest) (fun sig h => hn.trans (hlen sig h)) hstack hW (by rw [hb]; exact hdg)
    (fun vm₁ hW₁ => ⟨hf.1, hf.2, hp.2 (T.setVm vm₁) hT hW₁⟩) with ⟨v, vm₁, ⟨U', l2, c2, s2⟩, hW₁, X', ⟨g', mk, t, L, e1, e2, hq, h1, hL, h2, h3⟩, st⟩ | ⟨q, vm₁, ⟨U', l2, c2, s2⟩, hW₁, X', ⟨g', mk, t, L, E, ce, e1, e2, hq, hce, hcv, hcl, h1, hL, h2, h3⟩, st⟩
  · dsimp only [Pt.U, Pt.locs, Pt.cells, Pt.slots] at X' e1 e2 h1 h2 h3 st
    subst h1; subst h2; subst h3
    exact Or.inl ⟨v, (T.setVm vm₁).calling g' mk As.toArray, t, U', L, hT, X', hL, e1, e2, hq, st⟩
  · dsimp only [Pt.U, Pt.locs, Pt.cells, Pt.slots] at X' e1 e2 h1 h2 h3 st hcl
    subst h1; subst h2; subst h3
    exact Or.inr ⟨q, (T.setVm vm₁).calling g' mk As.toArray, t, U', L, E, ce, hT, X', hL, e1, e2, hq, hce, hcv, vx_cls hW₁ hcl, st⟩
end Runs
section Rows
variable {p : Program} {l : Launch} {e : Env} {R : Room} {s : State} {m : MethodId} {args : Array Value} {below : List Frame} {meth : Method} {c : Code} {H : Heap} {locs : List Loc} {cells slots : Nat} {Q : State → Prop}
variable {mc ms : Nat} {free : Addr → Prop} {A0 A1 : Nat → Prop} {H0 : Heap} {a : Array Value} {pc : Nat} {ls : Array Slot} {st0 rest : List Value}
theorem vx_keep {st₀ t T' : State} {L : List Loc} (h0 : st₀.heap = H) (e1 : T'.heap = t.heap) (hS : va_S A0 H0 H locs) (hA : ∀ q, q < H.size → A1 q → A0 q) (hf : ∀ q, free q → A0 q) (hL : ∀ q ∈ L, free q.base) (hF : va_F A1 st₀ t) :
    H.size ≤ T'.heap.size ∧ (∀ q : Nat, q < H.size → ¬ A1 q → T'.heap[q]? = H[q]?) ∧ va_S A0 H0 T'.heap (locs ++ L) := by
  obtain ⟨hz, hk⟩ := hF
  rw [h0] at hz hk
  exact ⟨by rw [e1]; exact hz, fun q h1 h2 => by rw [e1]; exact hk q h1 h2,
    ⟨Nat.le_trans hS.1 (by rw [e1]; exact hz), fun q h1 h2 => by rw [e1, hk q (Nat.lt_of_lt_of_le h1 hS.1) (fun z => h2 (hA q (Nat.lt_of_lt_of_le h1 hS.1) z))]; exact hS.2.1 q h1 h2, fun q hq => by
      rcases List.mem_append.mp hq with h | h
      · exact hS.2.2 q h
      · exact hf _ (hL q h)⟩⟩
theorem vx_calli {S SX : Type} {post : Int32 → S → Prop} {px : SX → Prop} {B : S → State → Prop} {BX : String → SX → State → Prop} {AX : Nat → Prop} (hr : vx_Run p l e R s m args below meth c H locs cells slots mc ms (F0 m pc ls st0) rest (va_Qi post B A1 a) (vx_X px BX AX) free) (hS : va_S A0 H0 H locs) (hA : ∀ q, q < H.size → A1 q → A0 q) (hf : ∀ q, free q → A0 q) (hAX : ∀ q, q < H.size → AX q → A0 q)
    (kx : ∀ (E : String) (ce : Cell) (q9 : Addr) (u : SX) (t : State) (H1 : Heap) (locs1 : List Loc), t.heap = H1 → s.vm.Alike t.vm → px u → BX E u t → H.size ≤ H1.size → (∀ q : Nat, q < H.size → ¬ AX q → H1[q]? = H[q]?) → va_S A0 H0 H1 locs1 → H1[q9]? = some ce → ce.vm = .none → s.vm.findClass E = some ce.cls → vx_W p l e R s m args below meth c H1 locs1 (cells + mc) (slots + ms) Q (F0 m pc ls rest) q9)
    (kk : ∀ (r : Int32) (u : S) (t : State) (H1 : Heap) (locs1 : List Loc), t.heap = H1 → s.vm.Alike t.vm → post r u → B u t → H.size ≤ H1.size → (∀ q : Nat, q < H.size → ¬ A1 q → H1[q]? = H[q]?) → va_S A0 H0 H1 locs1 → W p l e R s m args below meth c H1 locs1 (cells + mc) (slots + ms) Q (F0 m (pc + 3) ls (.int r :: rest))) : W p l e R s m args below meth c H locs cells slots Q (F0 m pc ls st0) := by
  intro T hT X
  rcases hr T hT X with ⟨v, st₀, t, T', L, h0, X', hL, e1, e2, ⟨⟨r, u, hv, hp, hb⟩, hF⟩, st⟩ | ⟨q, st₀, t, T', L, E, ce, h0, X', hL, e1, e2, ⟨u, hp, hb, hF⟩, hce, hcv, hcl, st⟩
  · cases hv
    obtain ⟨k1, k2, k3⟩ := vx_keep h0 e1 hS hA hf hL hF
    obtain ⟨t2, a1, b1⟩ := kk r u t T'.heap (locs ++ L) e1.symm (by rw [← e2]; exact X'.warmed.alike) hp hb k1 k2 k3 T' rfl X'
    exact ⟨t2, st t2 a1, b1⟩
  · obtain ⟨k1, k2, k3⟩ := vx_keep h0 e1 hS hAX hf hL hF
    obtain ⟨t2, a1, b1⟩ := kx E ce q u t T'.heap (locs ++ L) e1.symm (by rw [← e2]; exact X'.warmed.alike) hp hb k1 k2 k3 (by rw [e1]; exact hce) hcv hcl T' rfl X'
    exact ⟨t2, st.trans a1, b1⟩
theorem vx_calll {S SX : Type} {post : Int64 → S → Prop} {px : SX → Prop} {B : S → State → Prop} {BX : String → SX → State → Prop} {AX : Nat → Prop} (hr : vx_Run p l e R s m args below meth c H locs cells slots mc ms (F0 m pc ls st0) rest (va_Ql post B A1 a) (vx_X px BX AX) free) (hS : va_S A0 H0 H locs) (hA : ∀ q, q < H.size → A1 q → A0 q) (hf : ∀ q, free q → A0 q) (hAX : ∀ q, q < H.size → AX q → A0 q)
    (kx : ∀ (E : String) (ce : Cell) (q9 : Addr) (u : SX) (t : State) (H1 : Heap) (locs1 : List Loc), t.heap = H1 → s.vm.Alike t.vm → px u → BX E u t → H.size ≤ H1.size → (∀ q : Nat, q < H.size → ¬ AX q → H1[q]? = H[q]?) → va_S A0 H0 H1 locs1 → H1[q9]? = some ce → ce.vm = .none → s.vm.findClass E = some ce.cls → vx_W p l e R s m args below meth c H1 locs1 (cells + mc) (slots + ms) Q (F0 m pc ls rest) q9)
    (kk : ∀ (r : Int64) (u : S) (t : State) (H1 : Heap) (locs1 : List Loc), t.heap = H1 → s.vm.Alike t.vm → post r u → B u t → H.size ≤ H1.size → (∀ q : Nat, q < H.size → ¬ A1 q → H1[q]? = H[q]?) → va_S A0 H0 H1 locs1 → W p l e R s m args below meth c H1 locs1 (cells + mc) (slots + ms) Q (F0 m (pc + 3) ls (.long r :: rest))) : W p l e R s m args below meth c H locs cells slots Q (F0 m pc ls st0) := by
  intro T hT X
  rcases hr T hT X with ⟨v, st₀, t, T', L, h0, X', hL, e1, e2, ⟨⟨r, u, hv, hp, hb⟩, hF⟩, st⟩ | ⟨q, st₀, t, T', L, E, ce, h0, X', hL, e1, e2, ⟨u, hp, hb, hF⟩, hce, hcv, hcl, st⟩
  · cases hv
    obtain ⟨k1, k2, k3⟩ := vx_keep h0 e1 hS hA hf hL hF
    obtain ⟨t2, a1, b1⟩ := kk r u t T'.heap (locs ++ L) e1.symm (by rw [← e2]; exact X'.warmed.alike) hp hb k1 k2 k3 T' rfl X'
    exact ⟨t2, st t2 a1, b1⟩
  · obtain ⟨k1, k2, k3⟩ := vx_keep h0 e1 hS hAX hf hL hF
    obtain ⟨t2, a1, b1⟩ := kx E ce q u t T'.heap (locs ++ L) e1.symm (by rw [← e2]; exact X'.warmed.alike) hp hb k1 k2 k3 (by rw [e1]; exact hce) hcv hcl T' rfl X'
    exact ⟨t2, st.trans a1, b1⟩
theorem vx_callf {S SX : Type} {post : UInt32 → S → Prop} {px : SX → Prop} {B : S → State → Prop} {BX : String → SX → State → Prop} {AX : Nat → Prop} (hr : vx_Run p l e R s m args below meth c H locs cells slots mc ms (F0 m pc ls st0) rest (va_Qf post B A1 a) (vx_X px BX AX) free) (hS : va_S A0 H0 H locs) (hA : ∀ q, q < H.size → A1 q → A0 q) (hf : ∀ q, free q → A0 q) (hAX : ∀ q, q < H.size → AX q → A0 q)
    (kx : ∀ (E : String) (ce : Cell) (q9 : Addr) (u : SX) (t : State) (H1 : Heap) (locs1 : List Loc), t.heap = H1 → s.vm.Alike t.vm → px u → BX E u t → H.size ≤ H1.size → (∀ q : Nat, q < H.size → ¬ AX q → H1[q]? = H[q]?) → va_S A0 H0 H1 locs1 → H1[q9]? = some ce → ce.vm = .none → s.vm.findClass E = some ce.cls → vx_W p l e R s m args below meth c H1 locs1 (cells + mc) (slots + ms) Q (F0 m pc ls rest) q9)
    (kk : ∀ (r : UInt32) (u : S) (t : State) (H1 : Heap) (locs1 : List Loc), t.heap = H1 → s.vm.Alike t.vm → post r u → B u t → H.size ≤ H1.size → (∀ q : Nat, q < H.size → ¬ A1 q → H1[q]? = H[q]?) → va_S A0 H0 H1 locs1 → W p l e R s m args below meth c H1 locs1 (cells + mc) (slots + ms) Q (F0 m (pc + 3) ls (.float r :: rest))) : W p l e R s m args below meth c H locs cells slots Q (F0 m pc ls st0) := by
  intro T hT X
  rcases hr T hT X with ⟨v, st₀, t, T', L, h0, X', hL, e1, e2, ⟨⟨r, u, hv, hp, hb⟩, hF⟩, st⟩ | ⟨q, st₀, t, T', L, E, ce, h0, X', hL, e1, e2, ⟨u, hp, hb, hF⟩, hce, hcv, hcl, st⟩
  · cases hv
    obtain ⟨k1, k2, k3⟩ := vx_keep h0 e1 hS hA hf hL hF
    obtain ⟨t2, a1, b1⟩ := kk r u t T'.heap (locs ++ L) e1.symm (by rw [← e2]; exact X'.warmed.alike) hp hb k1 k2 k3 T' rfl X'
    exact ⟨t2, st t2 a1, b1⟩
  · obtain ⟨k1, k2, k3⟩ := vx_keep h0 e1 hS hAX hf hL hF
    obtain ⟨t2, a1, b1⟩ := kx E ce q u t T'.heap (locs ++ L) e1.symm (by rw [← e2]; exact X'.warmed.alike) hp hb k1 k2 k3 (by rw [e1]; exact hce) hcv hcl T' rfl X'
    exact ⟨t2, st.trans a1, b1⟩
theorem vx_calld {S SX : Type} {post : UInt64 → S → Prop} {px : SX → Prop} {B : S → State → Prop} {BX : String → SX → State → Prop} {AX : Nat → Prop} (hr : vx_Run p l e R s m args below meth c H locs cells slots mc ms (F0 m pc ls st0) rest (va_Qd post B A1 a) (vx_X px BX AX) free) (hS : va_S A0 H0 H locs) (hA : ∀ q, q < H.size → A1 q → A0 q) (hf : ∀ q, free q → A0 q) (hAX : ∀ q, q < H.size → AX q → A0 q)
    (kx : ∀ (E : String) (ce : Cell) (q9 : Addr) (u : SX) (t : State) (H1 : Heap) (locs1 : List Loc), t.heap = H1 → s.vm.Alike t.vm → px u → BX E u t → H.size ≤ H1.size → (∀ q : Nat, q < H.size → ¬ AX q → H1[q]? = H[q]?) → va_S A0 H0 H1 locs1 → H1[q9]? = some ce → ce.vm = .none → s.vm.findClass E = some ce.cls → vx_W p l e R s m args below meth c H1 locs1 (cells + mc) (slots + ms) Q (F0 m pc ls rest) q9)
    (kk : ∀ (r : UInt64) (u : S) (t : State) (H1 : Heap) (locs1 : List Loc), t.heap = H1 → s.vm.Alike t.vm → post r u → B u t → H.size ≤ H1.size → (∀ q : Nat, q < H.size → ¬ A1 q → H1[q]? = H[q]?) → va_S A0 H0 H1 locs1 → W p l e R s m args below meth c H1 locs1 (cells + mc) (slots + ms) Q (F0 m (pc + 3) ls (.double r :: rest))) : W p l e R s m args below meth c H locs cells slots Q (F0 m pc ls st0) := by
  intro T hT X
  rcases hr T hT X with ⟨v, st₀, t, T', L, h0, X', hL, e1, e2, ⟨⟨r, u, hv, hp, hb⟩, hF⟩, st⟩ | ⟨q, st₀, t, T', L, E, ce, h0, X', hL, e1, e2, ⟨u, hp, hb, hF⟩, hce, hcv, hcl, st⟩
  · cases hv
    obtain ⟨k1, k2, k3⟩ := vx_keep h0 e1 hS hA hf hL hF
    obtain ⟨t2, a1, b1⟩ := kk r u t T'.heap (locs ++ L) e1.symm (by rw [← e2]; exact X'.warmed.alike) hp hb k1 k2 k3 T' rfl X'
    exact ⟨t2, st t2 a1, b1⟩
  · obtain ⟨k1, k2, k3⟩ := vx_keep h0 e1 hS hAX hf hL hF
    obtain ⟨t2, a1, b1⟩ := kx E ce q u t T'.heap (locs ++ L) e1.symm (by rw [← e2]; exact X'.warmed.alike) hp hb k1 k2 k3 (by rw [e1]; exact hce) hcv hcl T' rfl X'
    exact ⟨t2, st.trans a1, b1⟩
theorem vx_callv {S SX : Type} {post : S → Prop} {px : SX → Prop} {B : S → State → Prop} {BX : String → SX → State → Prop} {AX : Nat → Prop} (hr : vx_Run p l e R s m args below meth c H locs cells slots mc ms (F0 m pc ls st0) rest (va_Qv post B A1 a) (vx_X px BX AX) free) (hS : va_S A0 H0 H locs) (hA : ∀ q, q < H.size → A1 q → A0 q) (hf : ∀ q, free q → A0 q) (hAX : ∀ q, q < H.size → AX q → A0 q)
    (kx : ∀ (E : String) (ce : Cell) (q9 : Addr) (u : SX) (t : State) (H1 : Heap) (locs1 : List Loc), t.heap = H1 → s.vm.Alike t.vm → px u → BX E u t → H.size ≤ H1.size → (∀ q : Nat, q < H.size → ¬ AX q → H1[q]? = H[q]?) → va_S A0 H0 H1 locs1 → H1[q9]? = some ce → ce.vm = .none → s.vm.findClass E = some ce.cls → vx_W p l e R s m args below meth c H1 locs1 (cells + mc) (slots + ms) Q (F0 m pc ls rest) q9)
    (kk : ∀ (u : S) (t : State) (H1 : Heap) (locs1 : List Loc), t.heap = H1 → s.vm.Alike t.vm → post u → B u t → H.size ≤ H1.size → (∀ q : Nat, q < H.size → ¬ A1 q → H1[q]? = H[q]?) → va_S A0 H0 H1 locs1 → W p l e R s m args below meth c H1 locs1 (cells + mc) (slots + ms) Q (F0 m (pc + 3) ls (rest))) : W p l e R s m args below meth c H locs cells slots Q (F0 m pc ls st0) := by
  intro T hT X
  rcases hr T hT X with ⟨v, st₀, t, T', L, h0, X', hL, e1, e2, ⟨⟨u, hv, hp, hb⟩, hF⟩, st⟩ | ⟨q, st₀, t, T', L, E, ce, h0, X', hL, e1, e2, ⟨u, hp, hb, hF⟩, hce, hcv, hcl, st⟩
  · cases hv
    obtain ⟨k1, k2, k3⟩ := vx_keep h0 e1 hS hA hf hL hF
    obtain ⟨t2, a1, b1⟩ := kk u t T'.heap (locs ++ L) e1.symm (by rw [← e2]; exact X'.warmed.alike) hp hb k1 k2 k3 T' rfl X'
    exact ⟨t2, st t2 a1, b1⟩
  · obtain ⟨k1, k2, k3⟩ := vx_keep h0 e1 hS hAX hf hL hF
    obtain ⟨t2, a1, b1⟩ := kx E ce q u t T'.heap (locs ++ L) e1.symm (by rw [← e2]; exact X'.warmed.alike) hp hb k1 k2 k3 (by rw [e1]; exact hce) hcv hcl T' rfl X'
    exact ⟨t2, st.trans a1, b1⟩
/-- caught by the row x of this method's table; the rows ahead don't take it -/
theorem vx_catch {own name : String} {E : String} {ce : Cell} {q : Addr} (hown : s.vm.findClass own = some m.cls) (pre : List ExceptionTableEntry) (x : ExceptionTableEntry) (suf : List ExceptionTableEntry) (hsplit : c.exceptionTable.toList = pre ++ x :: suf)
    (hpass : ∀ z ∈ pre, covers z pc = false ∨ (z.catchType ≠ 0 ∧ ∃ nm : String, (Cond.classLink own z.catchType nm).before args s = true ∧ va_Nc E nm s)) (hx : covers x pc = true) (h0 : x.catchType ≠ 0)
    (hlink : (Cond.classLink own x.catchType name).before args s = true) (hcast : (Cond.castable E name).before args s = true) (hcell : H[q]? = some ce) (hv : ce.vm = .none) (hcl : s.vm.findClass E = some ce.cls)
    (kk : W p l e R s m args below meth c H locs cells slots Q (F0 m x.handlerPc ls [.ref q])) : vx_W p l e R s m args below meth c H locs cells slots Q (F0 m pc ls rest) q := by
  intro T hT X
  have hpl : e.platform.magicAccessors = ({} : Platform).magicAccessors := by rw [X.admits.platform]
  obtain ⟨c3, c4, hc3, hc4, hasg⟩ := Cond.castable_spec hcast
  cases Option.some.inj (hc3.symm.trans hcl)
  obtain ⟨c5, hc5, hcl5⟩ := Cond.classLink_spec hown hlink e.platform hpl
  cases Option.some.inj (hc4.symm.trans hc5)
  obtain ⟨vm', X', st⟩ := X.thenCaughtThrough q (g := F0 m pc ls rest) rfl (Steps.refl _) (by rw [hT]; exact hcell) (by rw [hv]; rfl) (by obtain ⟨k9, h9, -⟩ := Vm.findClass_spec hcl; exact ⟨k9, h9⟩) pre x suf hsplit
    (fun z hz => by
      rcases hpass z hz with h | ⟨hz0, nm, hl1, hn1⟩
      · exact Or.inl h
      · obtain ⟨c6, hc6, hcl6⟩ := Cond.classLink_spec hown hl1 e.platform hpl
        obtain ⟨a8, b8, h1, h2, h3⟩ := hn1
        cases Option.some.inj (h1.symm.trans hcl)
        cases Option.some.inj (h2.symm.trans hc6)
        exact Or.inr ⟨hz0, _, hcl6, h3⟩) hx (Or.inr ⟨h0, c4, hcl5, hasg⟩)
  obtain ⟨t, a1, b1⟩ := kk (T.setVm vm') hT X'
  exact ⟨t, st.trans a1, b1⟩
end Rows
section Ends
variable {p : Program} {l : Launch} {e : Env} {R : Room} {s : State} {m : MethodId} {args : Array Value} {below : List Frame} {meth : Method} {c : Code} {H : Heap} {locs : List Loc} {cells slots : Nat} {Q : State → Prop}
variable {mc ms : Nat} {free : Addr → Prop} {A0 A1 : Nat → Prop} {H0 : Heap} {a : Array Value} {ls : Array Slot} {st0 rest : List Value}
variable {Qc : Array Value → State → Outcome → State → Prop} {XC : String → State → State → Prop}
/-- what a body that may throw owes at its end -/
def vx_MQ (below : List Frame) (Qc : Array Value → State → Outcome → State → Prop) (XC : String → State → State → Prop) (a : Array Value) (s : State) (mc ms : Nat) (free : Addr → Prop) : State → Prop := fun t =>
  ∃ o, t.status = .running ∧ Ended t below o ∧ vx_Q Qc XC mc ms free a s o t
theorem vx_ret {g : JFrame} {mc ms : Nat} (k : W p l e R s m args below meth c H locs cells slots (MQ below Qc args s mc ms free) g) : W p l e R s m args below meth c H locs cells slots (vx_MQ below Qc XC args s mc ms free) g := by
  intro T hT X
  obtain ⟨t, a1, o, b1, b2, b3, b4⟩ := k T hT X
  exact ⟨t, a1, o, b1, b2, Or.inl ⟨b3, b4⟩⟩
/-- not caught here: it goes on to the caller -/
theorem vx_widen {g : JFrame} {q : Addr} {k n : Nat} (h1 : cells ≤ k) (h2 : slots ≤ n) (kk : vx_W p l e R s m args below meth c H locs k n Q g q) : vx_W p l e R s m args below meth c H locs cells slots Q g q := fun T hT X => kk T hT (stand_widen X h1 h2)
theorem vx_out {pc : Nat} {E : String} {ce : Cell} {q : Addr} {mc ms : Nat} (hout : ∀ x ∈ c.exceptionTable.toList, covers x pc = false) (hlocks : meth.locks = false) (hcell : H[q]? = some ce) (hv : ce.vm = .none) (hcl : s.vm.findClass E = some ce.cls)
    (hx : ∀ t : State, t.heap = H → s.vm.Alike t.vm → XC E s t) (hf : ∀ z ∈ locs, free z.base) (hc : cells ≤ mc) (hs : slots ≤ ms) :
    vx_W p l e R s m args below meth c H locs cells slots (vx_MQ below Qc XC args s mc ms free) (F0 m pc ls rest) q := by
  intro T hT X
  obtain ⟨st1, hrun, hend, hW, hsm⟩ := X.leaveThrown q (g := F0 m pc ls rest) rfl rfl rfl hout hlocks
  have hcell9 : (T.setFrames (.throwing q :: below)).heap[q]? = some ce := by
    show T.heap[q]? = some ce
    rw [hT]; exact hcell
  exact ⟨_, st1, .threw q, hrun, hend, Or.inr ⟨q, rfl, E, ce, locs, hx _ hT hW.alike, hcell9, hv, hcl, hW, hsm.mono hc hs, hf⟩⟩
theorem vx_frame {U : State} {k n : Nat} (h : s.sameButNew ({ U with vm := s.vm } : State) locs k n) : s.heap.size ≤ U.heap.size ∧ ∀ q : Nat, q < s.heap.size → (∀ z ∈ locs, z.base ≠ q) → U.heap[q]? = s.heap[q]? := by
  obtain ⟨-, h2, -, -, -, h6⟩ := h
  refine ⟨h2, fun q hq hz => ?_⟩
  obtain ⟨c9, e1, e2, e3, e4⟩ := h6 q _ (Array.getElem?_eq_getElem hq)
  have hs : c9.slots = (s.heap[q]).slots := Array.ext_getElem? fun i => e4 i fun hm => hz _ hm rfl
  have h9 : c9 = s.heap[q] := by
    rw [hs] at e2
    exact e2
  have e5 : U.heap[q]? = some c9 := e1
  rw [e5, h9, Array.getElem?_eq_getElem hq]
/-- the words of a throw but the four that speak of the heap -/
def vx_no (w : Cond) : Bool := decide (w ≠ .isRef (.static Bundle.tN "UNASSIGNED_STACK" Bundle.steD)) && decide (w ≠ .isRef (.static Bundle.tN "SUPPRESSED_SENTINEL" Bundle.listD)) && decide (w ≠ .laysStatic Bundle.tN "UNASSIGNED_STACK" Bundle.steD) && decide (w ≠ .laysStatic Bundle.tN "SUPPRESSED_SENTINEL" Bundle.listD)
def vx_at0 (own : String) (ic : Nat) (X : String) (names : List String) : List Cond := (Bundle.ownAtoms0 own ic X names).filter vx_no
def vx_atS (own : String) (ic : Nat) (X : String) (names : List String) : List Cond := (Bundle.ownAtoms own ic X names).filter vx_no
/-- a word that the tables alone decide, or a good one -/
def vx_ot (w : Cond) : Bool := w.onTables || goodWord w
theorem vx_ot_at {args a' : Array Value} {s U : State} {w : Cond} (hW : s.WarmedH U.vm) (hvm : s.vm = U.vm) (hg : vx_ot w = true) (h : w.before args s = true) : w.before a' U = true := by
  simp only [vx_ot, Bool.or_eq_true] at hg
  rcases hg with hg | hg
  · exact va_tabs hg hvm h
  · exact word_at hW (good_of_word hg) h
/-- a list's words: the good ones out of the method's own list, the others by premises of their own -/
theorem vx_hat {args : Array Value} {s : State} {L B : List Cond} (h1 : ∀ w ∈ L.filter goodWord, w.before args s = true) (h2 : ∀ w ∈ L.filter (fun w => !goodWord w), w ∈ B) (h3 : ∀ w ∈ B, w.before args s = true) : ∀ w ∈ L, w.before args s = true := by
  intro w hw
  by_cases g : goodWord w = true
  · exact h1 w (List.mem_filter.mpr ⟨hw, g⟩)
  · refine h3 w (h2 w (List.mem_filter.mpr ⟨hw, ?_⟩))
    show (!goodWord w) = true
    cases hgw : goodWord w
    · rfl
    · exact absurd hgw g
theorem vx_c {args : Array Value} {s : State} {w : Cond} {B : List Cond} (h : w.before args s = true) (t : ∀ w ∈ B, w.before args s = true) : ∀ w' ∈ w :: B, w'.before args s = true := fun w' h' => (List.mem_cons.mp h').elim (fun e => by rw [e]; exact h) (t w')
theorem vx_n {args : Array Value} {s : State} : ∀ w ∈ ([] : List Cond), w.before args s = true := fun _ h => nomatch h
theorem vx_own {args : Array Value} {s : State} {L : List Cond} (h1 : ∀ w ∈ L.filter vx_no, w.before args s = true)
    (hU : (Cond.isRef (.static Bundle.tN "UNASSIGNED_STACK" Bundle.steD)).before args s = true) (hN : (Cond.isRef (.static Bundle.tN "SUPPRESSED_SENTINEL" Bundle.listD)).before args s = true)
    (lU : (Cond.laysStatic Bundle.tN "UNASSIGNED_STACK" Bundle.steD).before args s = true) (lN : (Cond.laysStatic Bundle.tN "SUPPRESSED_SENTINEL" Bundle.listD).before args s = true) : ∀ w ∈ L, w.before args s = true := by
  intro w hw
  by_cases e1 : w = .isRef (.static Bundle.tN "UNASSIGNED_STACK" Bundle.steD)
  · rw [e1]; exact hU
  · by_cases e2 : w = .isRef (.static Bundle.tN "SUPPRESSED_SENTINEL" Bundle.listD)
    · rw [e2]; exact hN
    · by_cases e3 : w = .laysStatic Bundle.tN "UNASSIGNED_STACK" Bundle.steD
      · rw [e3]; exact lU
      · by_cases e4 : w = .laysStatic Bundle.tN "SUPPRESSED_SENTINEL" Bundle.listD
        · rw [e4]; exact lN
        · exact h1 w (List.mem_filter.mpr ⟨hw, by unfold vx_no; rw [decide_eq_true e1, decide_eq_true e2, decide_eq_true e3, decide_eq_true e4]; rfl⟩)
/-- where a static field lies, its class's statics cell in H -/
def vx_L (C n d : String) (A : Nat → Prop) (U : State) (H : Heap) : Prop := ∃ (c : ClassId) (k : Class) (i : Nat) (f : Field) (a : Nat) (cell : Cell), U.vm.findClass C = some c ∧ U.fieldFound? C n d = some (c, k, i, f) ∧ f.isStatic = true ∧ k.statics = some a ∧ H[a]? = some cell ∧ cell.vm.isStatics = true ∧ cell.cls = c ∧ f.slot < cell.slots.size ∧ k.staticTypes[f.slot]? = some f.type ∧ ¬ A a
theorem vx_L.moved {C n d : String} {A : Nat → Prop} {u U : State} {H : Heap} (hvm : u.vm.Alike U.vm) (h : vx_L C n d A u H) : vx_L C n d A U H := by
  obtain ⟨c, k, i, f, a, cell, h1, h2, h3, h4, h5, h6, h7, h8, h9, h10⟩ := h
  obtain ⟨k', hi', he⟩ := State.fieldFound?_setVm hvm h2
  exact ⟨c, k', i, f, a, cell, by rw [hvm.findClass]; exact h1, hi', h3, by rw [he]; exact h4, h5, h6, h7, h8, by rw [he]; exact h9, h10⟩
theorem vx_L.kept {C n d : String} {A : Nat → Prop} {U : State} {H H1 : Heap} (h : vx_L C n d A U H) (hq : ∀ a : Nat, a < H.size → ¬ A a → H1[a]? = H[a]?) : vx_L C n d A U H1 := by
  obtain ⟨c, k, i, f, a, cell, h1, h2, h3, h4, h5, h6, h7, h8, h9, h10⟩ := h
  exact ⟨c, k, i, f, a, cell, h1, h2, h3, h4, by rw [hq a (Array.getElem?_eq_some_iff.mp h5).1 h10]; exact h5, h6, h7, h8, h9, h10⟩
theorem vx_L.narrow {C n d : String} {A B : Nat → Prop} {U : State} {H : Heap} (h : vx_L C n d A U H) (hAB : ∀ q, B q → A q) : vx_L C n d B U H := by
  obtain ⟨c, k, i, f, a, cell, h1, h2, h3, h4, h5, h6, h7, h8, h9, h10⟩ := h
  exact ⟨c, k, i, f, a, cell, h1, h2, h3, h4, h5, h6, h7, h8, h9, fun z => h10 (hAB _ z)⟩
theorem vx_L.word {C n d : String} {A : Nat → Prop} {s : State} {args : Array Value} (h : vx_L C n d A s s.heap) : (Cond.laysStatic C n d).before args s = true := by
  obtain ⟨c, k, i, f, a, cell, h1, h2, h3, h4, h5, h6, h7, h8, h9, -⟩ := h
  show (Cond.laysStatic C n d).holds args s none s [] = true
  exact Cond.laysStatic_of h1 h2 h3 h4 h5 h6 h7 h8 h9
/-- .. and what it holds: null or some reference -/
def vx_Zq (C n d : String) (A : Nat → Prop) (U : State) (H : Heap) : Prop := va_Zq C n d A U H ∧ vx_L C n d A U H
theorem vx_Zq.moved {C n d : String} {A : Nat → Prop} {u U : State} {H : Heap} (hvm : u.vm.Alike U.vm) (h : vx_Zq C n d A u H) : vx_Zq C n d A U H := ⟨va_Zq.moved hvm h.1, vx_L.moved hvm h.2⟩
theorem vx_Zq.kept {C n d : String} {A : Nat → Prop} {U : State} {H H1 : Heap} (h : vx_Zq C n d A U H) (hq : ∀ a : Nat, a < H.size → ¬ A a → H1[a]? = H[a]?) : vx_Zq C n d A U H1 := ⟨va_Zq.kept h.1 hq, vx_L.kept h.2 hq⟩
theorem vx_Zq.narrow {C n d : String} {A B : Nat → Prop} {U : State} {H : Heap} (h : vx_Zq C n d A U H) (hAB : ∀ q, B q → A q) : vx_Zq C n d B U H := ⟨va_Zq.narrow h.1 hAB, vx_L.narrow h.2 hAB⟩
theorem vx_Zqof {args : Array Value} {s : State} {C n d : String} {A : Nat → Prop} (hl : (Cond.laysStatic C n d).before args s = true) (hini : (Cond.initialized C).before args s = true) (h : (Cond.isRef (.static C n d)).before args s = true) (hA : ∀ a : Nat, a < s.heap.size → ¬ A a) : vx_Zq C n d A s s.heap := by
  refine ⟨va_Zqof hl hini h hA, ?_⟩
  obtain ⟨c, k, i, f, a, cell, h1, h2, h3, h4, h5, h6, h7, h8, h9⟩ := Cond.laysStatic_spec hl
  exact ⟨c, k, i, f, a, cell, h1, h2, h3, h4, h5, h6, h7, h8, h9, hA a (Array.getElem?_eq_some_iff.mp h5).1⟩
theorem vx_isRef {C n d : String} {v : Value} {A : Nat → Prop} {s : State} {args : Array Value} (h : va_Z C n d v A s s.heap) (hv : v.isRef = true) : (Cond.isRef (.static C n d)).before args s = true := by
  obtain ⟨cf, kf, fi, f, a, cell, h1, h2, h3, h4, h5, h6, h7, -⟩ := h
  have he : (Term.static C n d).eval args s none [] s = some v := by
    simp [Term.eval, State.fieldNamed?, h1, h2, h4, h5, h6, h7]
  simp only [Cond.before, Cond.holds, Cond.value, he]
  cases v <;> simp_all [Value.isRef]
theorem vx_isRefq {C n d : String} {A : Nat → Prop} {s : State} {args : Array Value} (h : va_Zq C n d A s s.heap) : (Cond.isRef (.static C n d)).before args s = true := by
  rcases h with h | ⟨t, h⟩
  · exact vx_isRef h rfl
  · exact vx_isRef h rfl
/-- the same frame, seen from here: as if the method were called anew in this heap -/
theorem vx_rebase {T : State} (X : Stand p l e R s m args below meth c T locs cells slots) {R' : Room} (hf : R'.frames ≤ R.frames) (hl : R'.locals ≤ R.locals) (hc : cells + R'.cells ≤ R.cells) (hs : slots + R'.slots ≤ R.slots) :
    Stand p l e R' ((T.setVm s.vm).setFrames (.invoking m args :: below)) m args below meth c T [] 0 0 := by
  have htop : (T.setVm s.vm).topJava?.isSome := X.here.top
  have hF : ((T.setVm s.vm).setFrames (.invoking m args :: below)).frames = .invoking m args :: below := State.frames_setFrames _ (State.cur_lt_of_top htop)
  obtain ⟨g₀, hg0⟩ := Option.isSome_iff_exists.mp htop
  obtain ⟨r, hr⟩ := State.topJava?_eq_some.mp hg0
  have hl9 : e.platform.stackLimits (T.setVm s.vm).me = e.platform.stackLimits s.me := X.limits
  have hb9 : (T.setVm s.vm).me.stackBytes = s.me.stackBytes := X.bytes
  refine ⟨X.admits, X.cas, X.clock, hF, ?_, X.hears, X.method, X.code, X.here, X.tail, X.warmed, ?_, ?_, ?_⟩
  · have h := X.room
    have hU : ((T.setVm s.vm).setFrames (.invoking m args :: below)).localsInUse = s.localsInUse := by
      rw [State.localsInUse_invoking hF (meth := meth) (c := c) X.method X.code, State.localsInUse_invoking X.frames X.method X.code]
    simp only [State.hasRoom, Bool.and_eq_true, decide_eq_true_eq] at h ⊢
    obtain ⟨⟨⟨⟨h1, h2, h3, h4, h5, h6⟩, h7⟩, h8⟩, h9⟩ := h
    rw [X.frames, List.length_cons] at h2 h3
    have q1 := X.heapSize
    have q2 := X.used
    simp only [hF, hU, List.length_cons, State.stackLimits_setFrames, State.stackBytes_setFrames, hl9, hb9]
    refine ⟨⟨⟨⟨by omega, by omega, by omega, by omega, by omega, h6⟩, ?_⟩, ?_⟩, X.book⟩
    · show T.heap.size + R'.cells ≤ e.platform.maxCells
      omega
    · show T.slotsUsed + R'.slots ≤ e.platform.maxSlots
      omega
  · rw [State.stackLimits_setFrames]; rfl
  · rw [State.stackBytes_setFrames]; rfl
  · refine ⟨?_, Nat.le_refl _, Nat.le_refl _, ?_, ?_, fun a c9 h9 => ⟨c9, h9, rfl, rfl, fun _ _ => rfl⟩⟩
    · obtain ⟨t, ht, -⟩ := State.frames_cons hr
      show T.setVm s.vm = { ((T.setVm s.vm).setFrames (.invoking m args :: below)).setFrames (T.setVm s.vm).frames with heap := T.heap, slotsUsed := T.slotsUsed }
      rw [State.setFrames_setFrames, State.setFrames_self ht]
      rfl
    · show T.slotsUsed = T.slotsUsed + ((T.heap.toList.drop T.heap.size).map (·.slots.size)).sum
      rw [List.drop_eq_nil_of_le (Nat.le_of_eq Array.length_toList)]
      rfl
    · show ((T.heap.toList.drop T.heap.size).map (·.slots.size)).sum ≤ 0
      rw [List.drop_eq_nil_of_le (Nat.le_of_eq Array.length_toList)]
      exact Nat.le_refl _
/-- 'throw new E()': new; dup; invokespecial; athrow -/
theorem vx_throw0 {cc : ByteArray} {pc : Nat} (hexec : p.tables.exec = Jvm.exec) (hb : c.code = cc) (hl : l.stackTraces = false) {own cls : String} {names : List String} {ik ic mc ms : Nat} {A : Nat → Prop}
    (hown : s.vm.findClass own = some m.cls) (hcls : Bundle.fit cls = true) (hnames : ∀ n ∈ names, Bundle.fit n = true)
    (hk : (Cond.classLink own ik cls).before args s = true) (hini : (Cond.initialized cls).before args s = true) (hat : ∀ w ∈ vx_at0 own ic cls names, w.before args s = true)
    (hgood : ∀ w ∈ Cond.classLink own ik cls :: Cond.initialized cls :: vx_at0 own ic cls names, vx_ot w = true)
    (hU : vx_Zq Bundle.tN "UNASSIGNED_STACK" Bundle.steD A s s.heap) (hN : vx_Zq Bundle.tN "SUPPRESSED_SENTINEL" Bundle.listD A s s.heap) (hS : va_S A s.heap H locs) (hsize : ls.size = c.maxLocals)
    (d0 : decode cc pc = .ok (.new ik, 3)) (d3 : decode cc (pc + 3) = .ok (.dup, 1)) (d4 : decode cc (pc + 4) = .ok (.invokespecial ic, 3)) (d7 : decode cc (pc + 7) = .ok (.athrow, 1))
    (hout : ∀ x ∈ c.exceptionTable.toList, covers x (pc + 7) = false)
    (hRframes : names.length + 3 < R.frames) (hRlocals : (rest.map fun v => v.category).sum + (13 * (names.length + 1) + 42) ≤ R.locals) (hRcells : cells + 1 ≤ R.cells) (hRslots : slots + 6 ≤ R.slots) (hlocks : meth.locks = false)
    (hx : ∀ t : State, s.vm.Alike t.vm → H.size ≤ t.heap.size → (∀ q : Nat, q < H.size → t.heap[q]? = H[q]?) → XC cls s t)
    (hf : ∀ z ∈ locs, free z.base) (hc : cells + 1 ≤ mc) (hs : slots + 6 ≤ ms) :
    W p l e R s m args below meth c H locs cells slots (vx_MQ below Qc XC args s mc ms free) (F0 m pc ls rest) := by
  intro T hT X
  have htr : e.platform.stackTraces = false := (show e.platform.stackTraces = l.stackTraces by rw [X.admits.platform]).trans hl
  have Y := vx_rebase X (R' := { frames := R.frames, locals := R.locals, cells := 1, slots := 6 }) (Nat.le_refl _) (Nat.le_refl _) hRcells hRslots
  obtain ⟨s', hA⟩ : ∃ z, z = (T.setVm s.vm).setFrames (.invoking m args :: below) := ⟨_, rfl⟩
  rw [← hA] at Y
  have hvm : s'.vm = s.vm := by rw [hA]; rfl
  have hhp : s'.heap = H := by rw [hA]; exact hT
  have hW0 : s.WarmedH s'.vm := by rw [hvm]; exact State.WarmedH.refl s
  have hat' : ∀ w ∈ vx_at0 own ic cls names, w.before args s' = true := fun w hw => vx_ot_at hW0 hvm.symm (hgood w (List.mem_cons_of_mem _ (List.mem_cons_of_mem _ hw))) (hat w hw)
  have hk' : (Cond.classLink own ik cls).before args s' = true := vx_ot_at hW0 hvm.symm (hgood _ List.mem_cons_self) hk
  have hini' : (Cond.initialized cls).before args s' = true := vx_ot_at hW0 hvm.symm (hgood _ (List.mem_cons_of_mem _ List.mem_cons_self)) hini
  have hU' : vx_Zq Bundle.tN "UNASSIGNED_STACK" Bundle.steD A s' s'.heap := by rw [hhp]; exact vx_Zq.moved hW0.alike (hU.kept hS.2.1)
  have hN' : vx_Zq Bundle.tN "SUPPRESSED_SENTINEL" Bundle.listD A s' s'.heap := by rw [hhp]; exact vx_Zq.moved hW0.alike (hN.kept hS.2.1)
  have h : ∀ w ∈ Bundle.ownAtoms0 own ic cls names, w.before args s' = true := vx_own hat' (vx_isRefq hU'.1) (vx_isRefq hN'.1) hU'.2.word hN'.2.word
  have hown' : s'.vm.findClass own = some m.cls := by rw [hvm]; exact hown
  have hins : (Cond.instantiable cls 6).before args s' = true := h _ (by simp [Bundle.ownAtoms0])
  obtain ⟨vm₁, cX, kX, hfX, hkX, -, -, X₁, st1⟩ := Y.newCold hexec (own := own) (C := cls) (index := ik) (n := 6) hown' hk' hins hini'
    (g := F0 m pc ls rest) rfl (by rw [hb]; exact d0) (Nat.le_refl _) (Nat.le_refl _)
  generalize hT1 : (T.setVm vm₁).pushCell { cls := cX, slots := kX.instanceTypes.map defaultValue, vm := .none } = T1 at X₁ st1
  have hcat : (Value.ref T.heap.size).category = 1 := rfl
  have hcellA : T1.heap[T.heap.size]? = some (freshCell cX kX) := by rw [← hT1]; exact State.heap_pushCell_size _ _
  have d3' : decode c.code (pc + 3) = .ok (.dup, 1) := by rw [hb]; exact d3
  obtain ⟨U, hsteps, hrun, hend, hW, hsame, ce, hce, hO⟩ := X₁.ctorThrow0 hexec htr (own := own) (cls := cls) (names := names) (ic := ic) hown' hcls hnames h (fun x hx => nomatch hx) hfX hkX hcellA (by rw [hhp, hT]; exact Nat.le_refl _)
    (g := { method := m, pc := pc + 4, locals := ls, stack := .ref T.heap.size :: .ref T.heap.size :: rest, locked := none }) rfl hsize rfl rfl (rest := rest) rfl
    (by rw [hb]; exact d4) (by rw [hb]; exact d7) hout hRframes (by simp only [List.map_cons, List.sum_cons, hcat]; omega) hlocks
  obtain ⟨f1, f2⟩ := vx_frame hsame
  rw [hhp] at f1 f2
  have hWs : s.WarmedH U.vm := State.WarmedH.trans hW0 hW
  have hcl : s.vm.findClass cls = some ce.cls := by
    have h9 := hO.cls
    rw [hvm] at h9
    exact h9
  have hall : s.sameButNew ({ U with vm := s.vm } : State) locs mc ms := by
    subst hA
    obtain ⟨e1, e2⟩ := hsame
    rw [State.setFrames_setFrames] at e1
    have h2 : (T.setVm s.vm).sameButNew ({ U with vm := s.vm } : State) [] (0 + 1) (0 + 6) := ⟨e1, e2⟩
    have h3 := X.same.trans h2
    rw [List.append_nil] at h3
    exact h3.mono hc hs
  refine ⟨U, ?_, .threw T.heap.size, hrun, hend, Or.inr ⟨T.heap.size, rfl, cls, ce, locs, hx U hWs.alike f1 (fun q hq => f2 q hq (fun z hz => nomatch hz)), hce, hO.vm, hcl, hWs, hall, hf⟩⟩
  refine st1 _ ?_
  show Steps p.tables e below (T1.setTop { method := m, pc := pc + 3, locals := ls, stack := .ref T.heap.size :: rest, locked := none }) _
  jvm_step X₁.here [X₁.here.top, hexec, d3', Value.category]
  exact hsteps
/-- 'throw new E("text")': new; dup; ldc; invokespecial; athrow -/
theorem vx_throwS {cc : ByteArray} {pc : Nat} (hexec : p.tables.exec = Jvm.exec) (hb : c.code = cc) (hl : l.stackTraces = false) {own cls text : String} {names : List String} {ik is ic mc ms sa : Nat} {A : Nat → Prop}
    (hown : s.vm.findClass own = some m.cls) (hcls : Bundle.fit cls = true) (hnames : ∀ n ∈ names, Bundle.fit n = true)
    (hk : (Cond.classLink own ik cls).before args s = true) (hini : (Cond.initialized cls).before args s = true) (hstr : vk_R own is text sa s) (hat : ∀ w ∈ vx_atS own ic cls names, w.before args s = true)
    (hgood : ∀ w ∈ Cond.classLink own ik cls :: Cond.initialized cls :: vx_atS own ic cls names, vx_ot w = true)
    (hU : vx_Zq Bundle.tN "UNASSIGNED_STACK" Bundle.steD A s s.heap) (hN : vx_Zq Bundle.tN "SUPPRESSED_SENTINEL" Bundle.listD A s s.heap) (hS : va_S A s.heap H locs) (hsize : ls.size = c.maxLocals)
    (d0 : decode cc pc = .ok (.new ik, 3)) (d3 : decode cc (pc + 3) = .ok (.dup, 1)) (d4 : decode cc (pc + 4) = .ok (.ldc is, 2)) (d6 : decode cc (pc + 6) = .ok (.invokespecial ic, 3)) (d9 : decode cc (pc + 9) = .ok (.athrow, 1))
    (hout : ∀ x ∈ c.exceptionTable.toList, covers x (pc + 9) = false)
    (hRframes : names.length + 3 < R.frames) (hRlocals : (rest.map fun v => v.category).sum + (13 * (names.length + 1) + 43) ≤ R.locals) (hRcells : cells + 1 ≤ R.cells) (hRslots : slots + 6 ≤ R.slots) (hlocks : meth.locks = false)
    (hx : ∀ t : State, s.vm.Alike t.vm → H.size ≤ t.heap.size → (∀ q : Nat, q < H.size → t.heap[q]? = H[q]?) → XC cls s t)
    (hf : ∀ z ∈ locs, free z.base) (hc : cells + 1 ≤ mc) (hs : slots + 6 ≤ ms) :
    W p l e R s m args below meth c H locs cells slots (vx_MQ below Qc XC args s mc ms free) (F0 m pc ls rest) := by
  intro T hT X
  have htr : e.platform.stackTraces = false := (show e.platform.stackTraces = l.stackTraces by rw [X.admits.platform]).trans hl
  have Y := vx_rebase X (R' := { frames := R.frames, locals := R.locals, cells := 1, slots := 6 }) (Nat.le_refl _) (Nat.le_refl _) hRcells hRslots
  obtain ⟨s', hA⟩ : ∃ z, z = (T.setVm s.vm).setFrames (.invoking m args :: below) := ⟨_, rfl⟩
  rw [← hA] at Y
  have hvm : s'.vm = s.vm := by rw [hA]; rfl
  have hhp : s'.heap = H := by rw [hA]; exact hT
  have hW0 : s.WarmedH s'.vm := by rw [hvm]; exact State.WarmedH.refl s
  have hat' : ∀ w ∈ vx_atS own ic cls names, w.before args s' = true := fun w hw => vx_ot_at hW0 hvm.symm (hgood w (List.mem_cons_of_mem _ (List.mem_cons_of_mem _ hw))) (hat w hw)
  have hk' : (Cond.classLink own ik cls).before args s' = true := vx_ot_at hW0 hvm.symm (hgood _ List.mem_cons_self) hk
  have hini' : (Cond.initialized cls).before args s' = true := vx_ot_at hW0 hvm.symm (hgood _ (List.mem_cons_of_mem _ List.mem_cons_self)) hini
  have hU' : vx_Zq Bundle.tN "UNASSIGNED_STACK" Bundle.steD A s' s'.heap := by rw [hhp]; exact vx_Zq.moved hW0.alike (hU.kept hS.2.1)
  have hN' : vx_Zq Bundle.tN "SUPPRESSED_SENTINEL" Bundle.listD A s' s'.heap := by rw [hhp]; exact vx_Zq.moved hW0.alike (hN.kept hS.2.1)
  have h : ∀ w ∈ Bundle.ownAtoms own ic cls names, w.before args s' = true := vx_own hat' (vx_isRefq hU'.1) (vx_isRefq hN'.1) hU'.2.word hN'.2.word
  have hown' : s'.vm.findClass own = some m.cls := by rw [hvm]; exact hown
  have hins : (Cond.instantiable cls 6).before args s' = true := h _ (by simp [Bundle.ownAtoms])
  obtain ⟨vm₁, cX, kX, hfX, hkX, -, -, X₁, st1⟩ := Y.newCold hexec (own := own) (C := cls) (index := ik) (n := 6) hown' hk' hins hini'
    (g := F0 m pc ls rest) rfl (by rw [hb]; exact d0) (Nat.le_refl _) (Nat.le_refl _)
  generalize hT1 : (T.setVm vm₁).pushCell { cls := cX, slots := kX.instanceTypes.map defaultValue, vm := .none } = T1 at X₁ st1
  have hcat : (Value.ref T.heap.size).category = 1 := rfl
  have hcellA : T1.heap[T.heap.size]? = some (freshCell cX kX) := by rw [← hT1]; exact State.heap_pushCell_size _ _
  have d3' : decode c.code (pc + 3) = .ok (.dup, 1) := by rw [hb]; exact d3
  have d4' : decode c.code (pc + 4) = .ok (.ldc is, 2) := by rw [hb]; exact d4
  have hstr' : vk_R own is text sa s' := vk_R.warm hW0 hstr
  obtain ⟨U, hsteps, hrun, hend, hW, hsame, ce, hce, hO⟩ := X₁.ctorThrowS hexec htr (own := own) (cls := cls) (names := names) (ic := ic) hown' hcls hnames h (fun x hx => nomatch hx) hfX hkX hcellA (by rw [hhp, hT]; exact Nat.le_refl _) (msg := .ref sa) rfl
    (g := { method := m, pc := pc + 6, locals := ls, stack := .ref sa :: .ref T.heap.size :: .ref T.heap.size :: rest, locked := none }) rfl hsize rfl rfl (rest := rest) rfl
    (by rw [hb]; exact d6) (by rw [hb]; exact d9) hout hRframes (by simp only [List.map_cons, List.sum_cons, hcat]; omega) hlocks
  obtain ⟨f1, f2⟩ := vx_frame hsame
  rw [hhp] at f1 f2
  have hWs : s.WarmedH U.vm := State.WarmedH.trans hW0 hW
  have hcl : s.vm.findClass cls = some ce.cls := by
    have h9 := hO.cls
    rw [hvm] at h9
    exact h9
  have hall : s.sameButNew ({ U with vm := s.vm } : State) locs mc ms := by
    subst hA
    obtain ⟨e1, e2⟩ := hsame
    rw [State.setFrames_setFrames] at e1
    have h2 : (T.setVm s.vm).sameButNew ({ U with vm := s.vm } : State) [] (0 + 1) (0 + 6) := ⟨e1, e2⟩
    have h3 := X.same.trans h2
    rw [List.append_nil] at h3
    exact h3.mono hc hs
  refine ⟨U, ?_, .threw T.heap.size, hrun, hend, Or.inr ⟨T.heap.size, rfl, cls, ce, locs, hx U hWs.alike f1 (fun q hq => f2 q hq (fun z hz => nomatch hz)), hce, hO.vm, hcl, hWs, hall, hf⟩⟩
  refine st1 _ ?_
  show Steps p.tables e below (T1.setTop { method := m, pc := pc + 3, locals := ls, stack := .ref T.heap.size :: rest, locked := none }) _
  jvm_step X₁.here [X₁.here.top, hexec, d3', Value.category]
  exact X₁.ldcString hexec (own := own) (text := text) (index := is) (a := sa) hown' hstr'.1 hstr'.2
    (g := { method := m, pc := pc + 4, locals := ls, stack := .ref T.heap.size :: .ref T.heap.size :: rest, locked := none }) rfl d4' _ hsteps
/-- 'throw new E("text")', the text by a wide index -/
theorem vx_throwSW {cc : ByteArray} {pc : Nat} (hexec : p.tables.exec = Jvm.exec) (hb : c.code = cc) (hl : l.stackTraces = false) {own cls text : String} {names : List String} {ik is ic mc ms sa : Nat} {A : Nat → Prop}
    (hown : s.vm.findClass own = some m.cls) (hcls : Bundle.fit cls = true) (hnames : ∀ n ∈ names, Bundle.fit n = true)
    (hk : (Cond.classLink own ik cls).before args s = true) (hini : (Cond.initialized cls).before args s = true) (hstr : vk_R own is text sa s) (hat : ∀ w ∈ vx_atS own ic cls names, w.before args s = true)
    (hgood : ∀ w ∈ Cond.classLink own ik cls :: Cond.initialized cls :: vx_atS own ic cls names, vx_ot w = true)
    (hU : vx_Zq Bundle.tN "UNASSIGNED_STACK" Bundle.steD A s s.heap) (hN : vx_Zq Bundle.tN "SUPPRESSED_SENTINEL" Bundle.listD A s s.heap) (hS : va_S A s.heap H locs) (hsize : ls.size = c.maxLocals)
    (d0 : decode cc pc = .ok (.new ik, 3)) (d3 : decode cc (pc + 3) = .ok (.dup, 1)) (d4 : decode cc (pc + 4) = .ok (.ldc_w is, 3)) (d7 : decode cc (pc + 7) = .ok (.invokespecial ic, 3)) (d10 : decode cc (pc + 10) = .ok (.athrow, 1))
    (hout : ∀ x ∈ c.exceptionTable.toList, covers x (pc + 10) = false)
    (hRframes : names.length + 3 < R.frames) (hRlocals : (rest.map fun v => v.category).sum + (13 * (names.length + 1) + 43) ≤ R.locals) (hRcells : cells + 1 ≤ R.cells) (hRslots : slots + 6 ≤ R.slots) (hlocks : meth.locks = false)
    (hx : ∀ t : State, s.vm.Alike t.vm → H.size ≤ t.heap.size → (∀ q : Nat, q < H.size → t.heap[q]? = H[q]?) → XC cls s t)
    (hf : ∀ z ∈ locs, free z.base) (hc : cells + 1 ≤ mc) (hs : slots + 6 ≤ ms) :
    W p l e R s m args below meth c H locs cells slots (vx_MQ below Qc XC args s mc ms free) (F0 m pc ls rest) := by
  intro T hT X
  have htr : e.platform.stackTraces = false := (show e.platform.stackTraces = l.stackTraces by rw [X.admits.platform]).trans hl
  have Y := vx_rebase X (R' := { frames := R.frames, locals := R.locals, cells := 1, slots := 6 }) (Nat.le_refl _) (Nat.le_refl _) hRcells hRslots
  obtain ⟨s', hA⟩ : ∃ z, z = (T.setVm s.vm).setFrames (.invoking m args :: below) := ⟨_, rfl⟩
  rw [← hA] at Y
  have hvm : s'.vm = s.vm := by rw [hA]; rfl
  have hhp : s'.heap = H := by rw [hA]; exact hT
  have hW0 : s.WarmedH s'.vm := by rw [hvm]; exact State.WarmedH.refl s
  have hat' : ∀ w ∈ vx_atS own ic cls names, w.before args s' = true := fun w hw => vx_ot_at hW0 hvm.symm (hgood w (List.mem_cons_of_mem _ (List.mem_cons_of_mem _ hw))) (hat w hw)
  have hk' : (Cond.classLink own ik cls).before args s' = true := vx_ot_at hW0 hvm.symm (hgood _ List.mem_cons_self) hk
  have hini' : (Cond.initialized cls).before args s' = true := vx_ot_at hW0 hvm.symm (hgood _ (List.mem_cons_of_mem _ List.mem_cons_self)) hini
  have hU' : vx_Zq Bundle.tN "UNASSIGNED_STACK" Bundle.steD A s' s'.heap := by rw [hhp]; exact vx_Zq.moved hW0.alike (hU.kept hS.2.1)
  have hN' : vx_Zq Bundle.tN "SUPPRESSED_SENTINEL" Bundle.listD A s' s'.heap := by rw [hhp]; exact vx_Zq.moved hW0.alike (hN.kept hS.2.1)
  have h : ∀ w ∈ Bundle.ownAtoms own ic cls names, w.before args s' = true := vx_own hat' (vx_isRefq hU'.1) (vx_isRefq hN'.1) hU'.2.word hN'.2.word
  have hown' : s'.vm.findClass own = some m.cls := by rw [hvm]; exact hown
  have hins : (Cond.instantiable cls 6).before args s' = true := h _ (by simp [Bundle.ownAtoms])
  obtain ⟨vm₁, cX, kX, hfX, hkX, -, -, X₁, st1⟩ := Y.newCold hexec (own := own) (C := cls) (index := ik) (n := 6) hown' hk' hins hini'
    (g := F0 m pc ls rest) rfl (by rw [hb]; exact d0) (Nat.le_refl _) (Nat.le_refl _)
  generalize hT1 : (T.setVm vm₁).pushCell { cls := cX, slots := kX.instanceTypes.map defaultValue, vm := .none } = T1 at X₁ st1
  have hcat : (Value.ref T.heap.size).category = 1 := rfl
  have hcellA : T1.heap[T.heap.size]? = some (freshCell cX kX) := by rw [← hT1]; exact State.heap_pushCell_size _ _
  have d3' : decode c.code (pc + 3) = .ok (.dup, 1) := by rw [hb]; exact d3
  have d4' : decode c.code (pc + 4) = .ok (.ldc_w is, 3) := by rw [hb]; exact d4
  have hstr' : vk_R own is text sa s' := vk_R.warm hW0 hstr
  obtain ⟨U, hsteps, hrun, hend, hW, hsame, ce, hce, hO⟩ := X₁.ctorThrowS hexec htr (own := own) (cls := cls) (names := names) (ic := ic) hown' hcls hnames h (fun x hx => nomatch hx) hfX hkX hcellA (by rw [hhp, hT]; exact Nat.le_refl _) (msg := .ref sa) rfl
    (g := { method := m, pc := pc + 7, locals := ls, stack := .ref sa :: .ref T.heap.size :: .ref T.heap.size :: rest, locked := none }) rfl hsize rfl rfl (rest := rest) rfl
    (by rw [hb]; exact d7) (by rw [hb]; exact d10) hout hRframes (by simp only [List.map_cons, List.sum_cons, hcat]; omega) hlocks
  obtain ⟨f1, f2⟩ := vx_frame hsame
  rw [hhp] at f1 f2
  have hWs : s.WarmedH U.vm := State.WarmedH.trans hW0 hW
  have hcl : s.vm.findClass cls = some ce.cls := by
    have h9 := hO.cls
    rw [hvm] at h9
    exact h9
  have hall : s.sameButNew ({ U with vm := s.vm } : State) locs mc ms := by
    subst hA
    obtain ⟨e1, e2⟩ := hsame
    rw [State.setFrames_setFrames] at e1
    have h2 : (T.setVm s.vm).sameButNew ({ U with vm := s.vm } : State) [] (0 + 1) (0 + 6) := ⟨e1, e2⟩
    have h3 := X.same.trans h2
    rw [List.append_nil] at h3
    exact h3.mono hc hs
  refine ⟨U, ?_, .threw T.heap.size, hrun, hend, Or.inr ⟨T.heap.size, rfl, cls, ce, locs, hx U hWs.alike f1 (fun q hq => f2 q hq (fun z hz => nomatch hz)), hce, hO.vm, hcl, hWs, hall, hf⟩⟩
  refine st1 _ ?_
  show Steps p.tables e below (T1.setTop { method := m, pc := pc + 3, locals := ls, stack := .ref T.heap.size :: rest, locked := none }) _
  jvm_step X₁.here [X₁.here.top, hexec, d3', Value.category]
  exact X₁.ldcStringW hexec (own := own) (text := text) (index := is) (a := sa) hown' hstr'.1 hstr'.2
    (g := { method := m, pc := pc + 4, locals := ls, stack := .ref T.heap.size :: .ref T.heap.size :: rest, locked := none }) rfl d4' _ hsteps
end Ends
section Bodies
variable {l : Launch}
theorem vx_ofW {y : MethodName} {ws ws' : List Cond} {rm : Room} {Pc : Array Value → State → Prop} {Qc : Array Value → State → Outcome → State → Prop} {XC : String → State → State → Prop} {mc ms : Nat} {free : Addr → Prop} {cc : ByteArray} {maxL : Nat} {ret : Option FieldType}
    (hy : plainName y.cls = true) (hw : ws = Cond.code y cc maxL ret :: ws')
    (body : ∀ p e s m args below meth c s₁, BodyLoose p l y (headSpec ws rm) cc maxL ret e s m args below meth c s₁ → c.maxLocals = maxL → (∀ x ∈ c.exceptionTable.toList, False) → Pc args s →
      W p l e (headSpec ws rm).room s m args below meth c s.heap [] 0 0 (vx_MQ below Qc XC args s mc ms free) (entryFrame m args maxL)) : vx_Met l y ws rm Pc Qc XC mc ms free := by
  refine MetFree.of_bodyS (code := cc) (maxLocals := maxL) (ret := ret) hy ?_ ?_
  · intro args s m h hn
    obtain ⟨meth, c, h1, h2, h3, h4, h5, h6, -, -⟩ := Cond.code_spec hn (atoms_spec (ws := ws) h _ (by rw [hw]; exact List.mem_cons_self))
    exact ⟨meth, c, h1, h2, h3, h4, h5, h6⟩
  · intro p e s m args below meth c s₁ B hml hP _
    have hh0 : s₁.heap = s.heap := by rw [B.state]; rfl
    have ht : ∀ x ∈ c.exceptionTable.toList, False := by
      obtain ⟨meth9, c9, h1, h2, -, -, -, -, h7, -⟩ := Cond.code_spec B.named (atoms_spec (ws := ws) B.pre _ (by rw [hw]; exact List.mem_cons_self))
      cases Option.some.inj (h1.symm.trans B.method)
      cases Option.some.inj (h2.symm.trans (Stand.of_body B).code)
      intro x hx
      rw [Array.isEmpty_iff.mp h7] at hx
      cases hx
    obtain ⟨t, a1, o, b1, b2, b3⟩ := body p e s m args below meth c s₁ B hml ht hP s₁ hh0 (Stand.of_body B)
    exact ⟨t, o, a1, b1, b2, b3⟩
/-- the table of a body with handlers -/
theorem vx_table {p : Program} {x y : MethodName} {S : Spec} {cc bytes : ByteArray} {maxL maxL' : Nat} {ret ret' : Option FieldType} {e : Env} {s s₁ : State} {m : MethodId} {args : Array Value} {below : List Frame} {meth : Method} {c : Code} {hh : List (Nat × Nat × Nat × Nat)}
    (B : BodyLoose p l y S cc maxL ret e s m args below meth c s₁) (h : (Cond.codeWith y bytes maxL' ret' hh).before args s = true) : c.exceptionTable.toList = tableOf hh := by
  obtain ⟨m9, meth9, c9, hn9, h1, h2, -, -, h6, -⟩ := Cond.codeWith_spec h
  cases Option.some.inj (hn9.symm.trans B.named)
  cases Option.some.inj (h1.symm.trans B.method)
  cases Option.some.inj (h2.symm.trans (Stand.of_body B).code)
  rw [← h6, table_eq]
end Bodies
end VXA
/-! ===== END ===== -/
/-! ===== BEGIN a static call of a method with an exception table ===== -/
section VXS
variable {p : Program} {l : Launch} {e : Env} {R : Room} {s : State} {m : MethodId} {args : Array Value} {below : List Frame} {meth : Method} {c : Code} {T : State} {H : Heap} {locs : List Loc} {cells slots : Nat}
abbrev vx_CSW (R : Room) (s : State) (args : Array Value) (own : String) (index : Nat) (y : MethodName) (bytes : ByteArray) (maxL : Nat) (ret : Option FieldType) (hh : List (Nat × Nat × Nat × Nat)) (ws : List Cond) (rm : Room) (mc ms n : Nat) : Prop :=
  (rm.cells = mc ∧ rm.slots = ms ∧ rm.frames + 1 ≤ R.frames ∧ 8 + (maxL + 11) + rm.locals ≤ R.locals ∧ (∀ w ∈ ws, ∀ (a' : Array Value) (U : State), s.WarmedH U.vm → w.before a' U = true) ∧ Cond.codeWith y bytes maxL ret hh ∈ ws) ∧
  (Cond.codeWith y bytes maxL ret hh).before args s = true ∧ (Cond.initialized y.cls).before args s = true ∧ (y.cls ≠ "java/lang/invoke/MethodHandle" ∧ y.cls ≠ "java/lang/invoke/VarHandle") ∧
  (∀ sig, parseMethodDescriptor y.desc = some sig → n = sig.parameters.length) ∧ (Cond.methodLink own index y).before args s = true ∧ (Cond.static y).before args s = true
theorem vx_cwSW {own : String} {index maxL mc ms : Nat} {y : MethodName} {bytes : ByteArray} {ret : Option FieldType} {hh : List (Nat × Nat × Nat × Nat)} {Ts ws ws' : List Cond} {rm : Room} (n : Nat) (ht : ∀ w ∈ Ts, w.before args s = true) (hT : GoodIn Ts (va_wsS own index y ws)) (hw : ws = Cond.codeWith y bytes maxL ret hh :: ws') (hrc : rm.cells = mc) (hrs : rm.slots = ms)
    (hd : y.cls ≠ "java/lang/invoke/MethodHandle" ∧ y.cls ≠ "java/lang/invoke/VarHandle" ∧ (parseMethodDescriptor y.desc).map (fun d => d.parameters.length) = some n) (hR : rm.frames + 1 ≤ R.frames ∧ 8 + (maxL + 11) + rm.locals ≤ R.locals) :
    vx_CSW R s args own index y bytes maxL ret hh ws rm mc ms n := by
  have ok : ∀ w ∈ va_wsS own index y ws, w.before args s = true := fun w h => ht w (hT w h).1
  have hG : GoodIn Ts ws := fun w h => hT w (by unfold va_wsS; exact List.mem_append_right _ h)
  have hc : Cond.codeWith y bytes maxL ret hh ∈ ws := by rw [hw]; exact List.mem_cons_self
  refine ⟨⟨hrc, hrs, hR.1, hR.2, pay_in ht hG, hc⟩, ht _ (hG _ hc).1, ok _ (by simp [va_wsS]), ⟨hd.1, hd.2.1⟩, fun sig h => ?_, ok _ (by simp [va_wsS]), ok _ (by simp [va_wsS])⟩
  have h2 := hd.2.2
  rw [h] at h2
  exact (Option.some.inj h2).symm
theorem vx_callSW (X : Stand p l e R s m args below meth c T locs cells slots) (hexec : p.tables.exec = Jvm.exec) {own : String} {index : Nat} {y : MethodName} {bytes : ByteArray} {maxL : Nat} {ret : Option FieldType} {hh : List (Nat × Nat × Nat × Nat)}
    (hown : s.vm.findClass own = some m.cls) (hlink : (Cond.methodLink own index y).before args s = true) (hstat : (Cond.static y).before args s = true) (hinit : (Cond.initialized y.cls).before args s = true)
    (hcode : (Cond.codeWith y bytes maxL ret hh).before args s = true) (hy : y.cls ≠ "java/lang/invoke/MethodHandle" ∧ y.cls ≠ "java/lang/invoke/VarHandle")
    {W9 : Nat} {Pre : Pt → Array Value → Prop} {Post : Pt → Array Value → Option Value → Pt → Prop} (hK : Back l R p e below s args y 3 W9 Pre Post)
    {g : JFrame} (hg : g.method = m) (hsize : g.locals.size = c.maxLocals) {argsL rest : List Value} (hlen : ∀ sig, parseMethodDescriptor y.desc = some sig → argsL.length = sig.parameters.length)
    (hstack : g.stack = argsL.reverse ++ rest) (hW : 2 * g.monitorRoom + (rest.map fun v => v.category).sum ≤ W9) (hdg : decode c.code g.pc = .ok (.invokestatic index, 3))
    (hpre : ∀ vm₁, s.WarmedH vm₁ → Pre ⟨T.setVm vm₁, locs, cells, slots⟩ argsL.toArray) :
    ∃ (v : Option Value) (vm₁ : Vm) (B : Pt), s.WarmedH vm₁ ∧ Stand p l e R s m args below meth c B.U B.locs B.cells B.slots ∧ Post ⟨T.setVm vm₁, locs, cells, slots⟩ argsL.toArray v B ∧
      ∀ target, Steps p.tables e below (B.U.setTop { g with pc := g.pc + 3, stack := v.toList ++ rest }) target → Steps p.tables e below (T.setTop g) target := by
  obtain ⟨mk, methM, cM, hnamed, hmethM, -, -, -, -, -, -, hsigM⟩ := Cond.codeWith_spec hcode
  have hstatic : methM.isStatic = true := Cond.static_spec hnamed hmethM hstat
  obtain ⟨kP, hkP, -⟩ := className_of_methodNamed hnamed
  have hinitP : kP.init = .initialized := Cond.initialized_spec (findClass_of_methodNamed hnamed) hkP hinit
  obtain ⟨vm₁, X₁, hstep₁⟩ := X.invokestatic hexec hown hlink hnamed hmethM hstatic hkP hinitP hy (g := g) hg (argsL := argsL) (rest := rest) (hlen _ hsigM) hstack hdg
  obtain ⟨v, B, X', hpost, hsteps⟩ := hK m meth c ⟨T.setVm vm₁, locs, cells, slots⟩ { g with stack := rest } (.invokestatic index) mk argsL.toArray X₁ hg hsize hdg hW (X₁.named hnamed) (hpre vm₁ X₁.warmed)
  exact ⟨v, vm₁, B, X₁.warmed, X', hpost, fun target h => hstep₁ _ fun acts => by rw [doInvoke_state]; exact hsteps.trans h⟩
theorem vx_runSW {y : MethodName} {bytes cc : ByteArray} {maxL nL mc ms n index : Nat} {ret : Option FieldType} {hh : List (Nat × Nat × Nat × Nat)} {ws : List Cond} {rm : Room} {Pc : Array Value → State → Prop} {Qc : Array Value → State → Outcome → State → Prop} {free : Addr → Prop} {Ts : List Cond} {own : String} {As rest : List Value} {g : JFrame}
    (S : CallFix p m c cc nL s args Ts own) (hM : Met l y ws rm Pc Qc mc ms free) (cw : vx_CSW R s args own index y bytes maxL ret hh ws rm mc ms n) (hp : PreS s H Pc As)
    (hg : g.method = m) (hn : As.length = n) (hsize : g.locals.size = nL) (hstack : g.stack = As.reverse ++ rest) (hW : 2 * g.monitorRoom + (rest.map fun v => v.category).sum ≤ 8) (hdg : decode cc g.pc = .ok (.invokestatic index, 3)) (hf : cells + mc ≤ R.cells ∧ slots + ms ≤ R.slots) :
    va_Run p l e R s m args below meth c H locs cells slots mc ms g rest (Qc As.toArray) (free) := by
  obtain ⟨⟨hrc, hrs, hfr, hlo, hws, hcw⟩, hcode, hini, hy, hlen, hl, hstt⟩ := cw
  have hK : Back l R p e below s args y 3 8 (PreOf R mc ms Pc) (PostOf Qc mc ms free) := va_backW (hh := hh) (bytes := bytes) (maxL := maxL) (ret := ret) hM hp.1 hrc hrs hfr hlo hws hcw (fun a' U hW => word_at hW (Or.inl (by first | rfl | simp [Cond.onTables, Cond.keeps, Cond.steady])) hini)
  obtain ⟨hx, hb, hml, ho, -⟩ := S
  intro T hT X
  obtain ⟨v, vm₁, ⟨U', l2, c2, s2⟩, hW₁, X', ⟨g', mk, t, L, e1, e2, hq, h1, hL, h2, h3⟩, st⟩ := vx_callSW X hx (hh := hh) (bytes := bytes) (maxL := maxL) (ret := ret) ho hl hstt hini hcode hy hK hg (hsize.trans hml.symm) (argsL := As) (rest := rest) (fun sig h => hn.trans (hlen sig h)) hstack hW (by rw [hb]; exact hdg)
    (fun vm₁ hW₁ => ⟨hf.1, hf.2, hp.2 (T.setVm vm₁) hT hW₁⟩)
  dsimp only [Pt.U, Pt.locs, Pt.cells, Pt.slots] at X' e1 e2 h1 h2 h3 st
  subst h1; subst h2; subst h3
  exact ⟨v, (T.setVm vm₁).calling g' mk As.toArray, t, U', L, hT, X', hL, e1, e2, hq, st⟩
/-- not caught here, past rows that name other classes: it goes on to the caller -/
theorem vx_outP {p : Program} {l : Launch} {e : Env} {R : Room} {s : State} {m : MethodId} {args : Array Value} {below : List Frame} {meth : Method} {c : Code} {H : Heap} {locs : List Loc} {cells slots : Nat} {free : Addr → Prop} {ls : Array Slot} {rest : List Value} {Qc : Array Value → State → Outcome → State → Prop} {XC : String → State → State → Prop}
    {pc : Nat} {own E : String} {ce : Cell} {q : Addr} {mc ms : Nat} (hown : s.vm.findClass own = some m.cls) (hlocks : meth.locks = false)
    (hpass : ∀ z ∈ c.exceptionTable.toList, covers z pc = false ∨ (z.catchType ≠ 0 ∧ ∃ nm : String, (Cond.classLink own z.catchType nm).before args s = true ∧ va_Nc E nm s)) (hcell : H[q]? = some ce) (hv : ce.vm = .none) (hcl : s.vm.findClass E = some ce.cls)
    (hx : ∀ t : State, t.heap = H → s.vm.Alike t.vm → XC E s t) (hf : ∀ z ∈ locs, free z.base) (hc : cells ≤ mc) (hs : slots ≤ ms) :
    vx_W p l e R s m args below meth c H locs cells slots (vx_MQ below Qc XC args s mc ms free) (F0 m pc ls rest) q := by
  intro T hT X
  have hpl : e.platform.magicAccessors = ({} : Platform).magicAccessors := by rw [X.admits.platform]
  obtain ⟨vm', hW', X', st⟩ := X.outThrough hlocks q (g := F0 m pc ls rest) rfl rfl rfl (cell := ce) (by rw [hT]; exact hcell) (by rw [hv]; rfl)
    (by obtain ⟨k9, h9, -⟩ := Vm.findClass_spec hcl; exact ⟨k9, h9⟩) (fun z hz => by
      rcases hpass z hz with h | ⟨hz0, nm, hl1, hn1⟩
      · exact Or.inl h
      · obtain ⟨c6, hc6, hcl6⟩ := Cond.classLink_spec hown hl1 e.platform hpl
        obtain ⟨a8, b8, h1, h2, h3⟩ := hn1
        cases Option.some.inj (h1.symm.trans hcl)
        cases Option.some.inj (h2.symm.trans hc6)
        exact Or.inr ⟨hz0, _, hcl6, h3⟩)
  obtain ⟨g₀, hfr⟩ := X'.frames_eq
  have hcell9 : ((T.setVm vm').setFrames (.throwing q :: below)).heap[q]? = some ce := by
    show T.heap[q]? = some ce
    rw [hT]; exact hcell
  have hend : Ended ((T.setVm vm').setFrames (.throwing q :: below)) below (.threw q) := State.frames_setFrames _ (State.cur_lt_of_frames hfr)
  refine ⟨(T.setVm vm').setFrames (.throwing q :: below), ?_, .threw q, X'.here.running, hend, Or.inr ⟨q, rfl, E, ce, locs, hx _ hT (X'.ends _).1.alike, hcell9, hv, hcl, (X'.ends _).1, (X'.ends _).2.mono hc hs, hf⟩⟩
  rw [X.pushThrowing_eq]
  exact st
/-- a thing of a world lies in the heap -/
theorem vx_lt {D : va_G} {cl : List vw_C} {ws : va_W} {H1 : Heap} (h : va_P D cl ws H1) {k : Nat} {q : Nat × va_E} (hk : ws[k]? = some q) : q.1 < H1.size := (h k q hk).lt
end VXS
/-! ===== END ===== -/
/-! ===== BEGIN methods with a table of their own: called by a name, returning or throwing ===== -/
section VXH
/-! vx_backW, vx_callVX, vx_callSX, vx_callVW, vx_runVW, vx_runVX, vx_runSX, vx_ofWH follow the same proofs as their sisters above (Free/Laws.lean, Shelf42/LK1.lean); vx_outP calls Shelf42/NT130.lean (outThrough). -/
section
variable {l : Launch} {R : Room} {p : Program} {e : Env} {below : List Frame} {s : State} {sargs : Array Value} {y : MethodName} {len W9 : Nat}
theorem vx_backW {ws : List Cond} {rm : Room} {Pc : Array Value → State → Prop} {Qc : Array Value → State → Outcome → State → Prop} {XC : String → State → State → Prop} {mc ms : Nat} {free : Addr → Prop} {bytes : ByteArray} {maxL : Nat} {ret : Option FieldType} {hh : List (Nat × Nat × Nat × Nat)}
    (hM : vx_Met l y ws rm Pc Qc XC mc ms free) (hblind : FrameBlind Pc) (hrc : rm.cells = mc) (hrs : rm.slots = ms)
    (hframes : rm.frames + 1 ≤ R.frames) (hlocals : W9 + (maxL + 11) + rm.locals ≤ R.locals)
    (hws : ∀ w ∈ ws, ∀ a' U, s.WarmedH U.vm → w.before a' U = true) (hcode : Cond.codeWith y bytes maxL ret hh ∈ ws) (hinit : ∀ a' U, s.WarmedH U.vm → (Cond.initialized y.cls).before a' U = true) :
    vx_Back l R p e below s sargs y len W9 (PreOf R mc ms Pc) (PostOf Qc mc ms free) (vx_Post XC mc ms free) := by
  intro m meth c A g ig mk a X hg hsize hdg hW hn hp
  have h1 : (headSpec ws rm).pre.before a A.U = true := atoms_intro fun w hw => hws w hw _ _ X.warmed
  have h2 : (Cond.codeWith y bytes maxL ret hh).before a A.U = true := hws _ hcode _ _ X.warmed
  have h3 : (Cond.initialized y.cls).before a A.U = true := hinit _ _ X.warmed
  have h4 : A.cells + (headSpec ws rm).room.cells ≤ R.cells := by rw [show (headSpec ws rm).room.cells = mc from hrc]; exact hp.1
  have h5 : A.slots + (headSpec ws rm).room.slots ≤ R.slots := by rw [show (headSpec ws rm).room.slots = ms from hrs]; exact hp.2.1
  have hPc : Pc a (A.U.calling g mk a) := hblind _ _ _ _ hp.2.2
  obtain ⟨U, Ls, c0, s0⟩ := A
  dsimp only [Pt.U, Pt.locs, Pt.cells, Pt.slots] at h1 h2 h3 h4 h5 X hn hPc ⊢
  obtain ⟨m9, methY, cY, hn9, hmY, hcY, -, hlY, -⟩ := Cond.codeWith_spec h2
  cases Option.some.inj (hn9.symm.trans hn)
  obtain ⟨kY, hkY, -⟩ := className_of_methodNamed hn
  have hinitY : kY.init = .initialized := Cond.initialized_spec (findClass_of_methodNamed hn) hkY h3
  have h : At U g.method c below := by rw [hg]; exact X.here
  have hlocals9 : W9 + (maxL + 11) + (headSpec ws rm).room.locals ≤ R.locals := hlocals
  have happ : (headSpec ws rm).appliesLoose y e.platform (U.calling g mk a) = true :=
    Spec.appliesLoose_calling (g := g) h hdg hn hkY hinitY
      (X.room_calling (g := g) (R' := (headSpec ws rm).room) hsize hmY hcY hframes (by rw [hlY]; omega) h4 h5) h1
  obtain ⟨mid, hmid⟩ := h.above
  have hfr : (U.setTop g).frames = (.java g :: mid) ++ below := by rw [State.frames_setTop' g h.top, hmid]; rfl
  obtain ⟨o, s₂, hsteps, -, hend, hq⟩ := Steps.callFree hM p X.admits X.cas X.clock (acts := []) hfr happ hPc trivial
  have hq' : vx_Q Qc XC mc ms free a (U.calling g mk a) o s₂ := hq
  rw [State.frames_setTop' g h.top] at hend
  obtain ⟨g₀, hg0⟩ := Option.isSome_iff_exists.mp h.top
  obtain ⟨r, hr⟩ := State.topJava?_eq_some.mp hg0
  have hr' : (({ U with heap := s₂.heap, slotsUsed := s₂.slotsUsed } : State).setVm s₂.vm).frames = .java g₀ :: r := hr
  rcases hq' with ⟨hqc, L, hfe, hL⟩ | ⟨q, rfl, E, ce, L, hx, hce, hcv, hcl, hW₂, hsm, hL⟩
  · obtain ⟨⟨v, rfl⟩, hW₂, e2, q2, q3, q4, q5, q6⟩ := id hfe
    have e3 : s₂ = ({ (U.calling g mk a).setFrames s₂.frames with heap := s₂.heap, slotsUsed := s₂.slotsUsed } : State).setVm s₂.vm := by
      have : s₂ = ({ s₂ with vm := (U.calling g mk a).vm } : State).setVm s₂.vm := rfl
      rw [e2] at this
      exact this
    obtain ⟨c₂, i₂, len₂, hc₂, hd₂, hf₂⟩ := hend
    have hW' : U.WarmedH s₂.vm := hW₂
    have hcc : c₂ = c := by
      have h1 : s₂.code? g.method = U.code? g.method := by
        rw [State.code?_eq, State.code?_eq, hW'.alike.method?]
      exact Option.some.inj (hc₂.symm.trans (h1.trans h.code))
    subst hcc
    have hlen : len₂ = len := by rw [hdg] at hd₂; cases hd₂; rfl
    subst hlen
    have hs₂ : s₂ = (({ U with heap := s₂.heap, slotsUsed := s₂.slotsUsed } : State).setVm s₂.vm).setTop { g with pc := g.pc + len₂, stack := v.toList ++ g.stack } := by
      refine e3.trans ?_
      rw [hf₂, State.calling_eq h.top, State.setFrames_setFrames, State.setTop_of_frames _ hr', hr]
      rfl
    have hsame : U.sameButNew ({ U with heap := s₂.heap, slotsUsed := s₂.slotsUsed } : State) L mc ms := by
      refine ⟨?_, q2, q3, q4, q5, q6⟩
      obtain ⟨t, ht, -⟩ := State.frames_cons hr
      show ({ U with heap := s₂.heap, slotsUsed := s₂.slotsUsed } : State) = { U.setFrames U.frames with heap := s₂.heap, slotsUsed := s₂.slotsUsed }
      rw [State.setFrames_self ht]
    subst hg
    refine Or.inl ⟨v, ⟨(({ U with heap := s₂.heap, slotsUsed := s₂.slotsUsed } : State).setVm s₂.vm), Ls ++ L, c0 + mc, s0 + ms⟩,
      ⟨X.admits, X.cas, X.clock, X.frames, X.room, X.hears, X.method, X.code, (X.here.setHeapUsed s₂.heap s₂.slotsUsed).setVm hW'.alike, X.tail, State.WarmedH.trans X.warmed hW', X.limits, X.bytes, X.same.trans (hsame.setVm s.vm)⟩,
      ⟨g, mk, s₂, L, rfl, rfl, hqc, rfl, hL, rfl, rfl⟩, ?_⟩
    show Steps p.tables e below _ ((({ U with heap := s₂.heap, slotsUsed := s₂.slotsUsed } : State).setVm s₂.vm).setTop { g with pc := g.pc + len₂, stack := v.toList ++ g.stack })
    rw [← hs₂]
    exact hsteps
  · obtain ⟨e2, q2, q3, q4, q5, q6⟩ := id hsm
    have e3 : s₂ = ({ (U.calling g mk a).setFrames s₂.frames with heap := s₂.heap, slotsUsed := s₂.slotsUsed } : State).setVm s₂.vm := by
      have : s₂ = ({ s₂ with vm := (U.calling g mk a).vm } : State).setVm s₂.vm := rfl
      rw [e2] at this
      exact this
    have hf₂ : s₂.frames = .throwing q :: .java g :: U.frames.tail := hend
    have hW' : U.WarmedH s₂.vm := hW₂
    have hs₂ : s₂ = ((({ U with heap := s₂.heap, slotsUsed := s₂.slotsUsed } : State).setVm s₂.vm).setTop g).pushFrame (.throwing q) := by
      refine e3.trans ?_
      rw [hf₂, State.calling_eq h.top, State.setFrames_setFrames, State.pushFrame, State.frames_setTop _ hr', State.setTop_of_frames _ hr', State.setFrames_setFrames, hr]
      rfl
    have hsame : U.sameButNew ({ U with heap := s₂.heap, slotsUsed := s₂.slotsUsed } : State) L mc ms := by
      refine ⟨?_, q2, q3, q4, q5, q6⟩
      obtain ⟨t, ht, -⟩ := State.frames_cons hr
      show ({ U with heap := s₂.heap, slotsUsed := s₂.slotsUsed } : State) = { U.setFrames U.frames with heap := s₂.heap, slotsUsed := s₂.slotsUsed }
      rw [State.setFrames_self ht]
    subst hg
    refine Or.inr ⟨q, ⟨(({ U with heap := s₂.heap, slotsUsed := s₂.slotsUsed } : State).setVm s₂.vm), Ls ++ L, c0 + mc, s0 + ms⟩,
      ⟨X.admits, X.cas, X.clock, X.frames, X.room, X.hears, X.method, X.code, (X.here.setHeapUsed s₂.heap s₂.slotsUsed).setVm hW'.alike, X.tail, State.WarmedH.trans X.warmed hW', X.limits, X.bytes, X.same.trans (hsame.setVm s.vm)⟩,
      ⟨g, mk, s₂, L, E, ce, rfl, rfl, hx, hce, hcv, hcl, rfl, hL, rfl, rfl⟩, ?_⟩
    show Steps p.tables e below _ (((({ U with heap := s₂.heap, slotsUsed := s₂.slotsUsed } : State).setVm s₂.vm).setTop g).pushFrame (.throwing q))
    rw [← hs₂]
    exact hsteps
end
variable {p : Program} {l : Launch} {e : Env} {R : Room} {s : State} {m : MethodId} {args : Array Value} {below : List Frame} {meth : Method} {c : Code} {T : State} {H : Heap} {locs : List Loc} {cells slots : Nat}
theorem vx_callVX (X : Stand p l e R s m args below meth c T locs cells slots) (hexec : p.tables.exec = Jvm.exec) {own C : String} {index : Nat} {y : MethodName} {bytes : ByteArray} {maxL : Nat} {ret : Option FieldType} {hh : List (Nat × Nat × Nat × Nat)}
    (hown : s.vm.findClass own = some m.cls) (hlink : (Cond.methodLink own index y).before args s = true) (hinst : (Cond.instanceMethod y).before args s = true) (hsel : (Cond.selects C y y).before args s = true)
    (hcode : (Cond.codeWith y bytes maxL ret hh).before args s = true) (hy : y.cls ≠ "java/lang/invoke/MethodHandle" ∧ y.cls ≠ "java/lang/invoke/VarHandle")
    {W9 : Nat} {Pre : Pt → Array Value → Prop} {Post : Pt → Array Value → Option Value → Pt → Prop} {PostX : Pt → Array Value → Addr → Pt → Prop} (hK : vx_Back l R p e below s args y 3 W9 Pre Post PostX)
    {b : Addr} {cellB : Cell} (hcell : T.heap[b]? = some cellB) (hobj : cellB.vm.isStatics = false) (hcls : s.vm.findClass C = some cellB.cls)
    {g : JFrame} (hg : g.method = m) (hsize : g.locals.size = c.maxLocals) {argsL rest : List Value} (hlen : ∀ sig, parseMethodDescriptor y.desc = some sig → argsL.length = sig.parameters.length)
    (hstack : g.stack = argsL.reverse ++ .ref b :: rest) (hW : 2 * g.monitorRoom + (rest.map fun v => v.category).sum ≤ W9) (hdg : decode c.code g.pc = .ok (.invokevirtual index, 3))
    (hpre : ∀ vm₁, s.WarmedH vm₁ → Pre ⟨T.setVm vm₁, locs, cells, slots⟩ (Value.ref b :: argsL).toArray) :
    (∃ (v : Option Value) (vm₁ : Vm) (B : Pt), s.WarmedH vm₁ ∧ Stand p l e R s m args below meth c B.U B.locs B.cells B.slots ∧ Post ⟨T.setVm vm₁, locs, cells, slots⟩ (Value.ref b :: argsL).toArray v B ∧
      ∀ target, Steps p.tables e below (B.U.setTop { g with pc := g.pc + 3, stack := v.toList ++ rest }) target → Steps p.tables e below (T.setTop g) target) ∨
    (∃ (q : Addr) (vm₁ : Vm) (B : Pt), s.WarmedH vm₁ ∧ Stand p l e R s m args below meth c B.U B.locs B.cells B.slots ∧ PostX ⟨T.setVm vm₁, locs, cells, slots⟩ (Value.ref b :: argsL).toArray q B ∧
      Steps p.tables e below (T.setTop g) ((B.U.setTop { g with stack := rest }).pushFrame (.throwing q))) := by
  obtain ⟨mk, methM, hnamed, hmethM, hstM, habM⟩ := Cond.instanceMethod_spec hinst
  obtain ⟨m8, methM', cM, hn8, hmethM', -, -, -, -, -, -, hsigM⟩ := Cond.codeWith_spec hcode
  cases Option.some.inj (hn8.symm.trans hnamed)
  cases hmethM.symm.trans hmethM'
  obtain ⟨c2, r2, m2, q1, q2, q3, q4, kP, hkP, hkPi⟩ := Cond.selects_spec hsel
  cases hcls.symm.trans q1
  cases (State.methodFound?_of_named hnamed hy).symm.trans q2
  cases hnamed.symm.trans q3
  have hselP : selectMethod e.platform s.vm cellB.cls mk = .method mk := by rw [Launch.admits_selectMethod X.admits]; exact q4
  obtain ⟨vm₁, X₁, hstep₁⟩ := X.invokevirtual hexec hown hlink hnamed hmethM hstM hkP hkPi hy (a := b) (cell := cellB) hcell
    (fun z h => by rw [h] at hobj; cases hobj) hselP hmethM habM hkP hkPi (g := g) hg (argsL := argsL) (rest := rest) (hlen _ hsigM) hstack hdg
  rcases hK m meth c ⟨T.setVm vm₁, locs, cells, slots⟩ { g with stack := rest } (.invokevirtual index) mk (Value.ref b :: argsL).toArray X₁ hg hsize hdg hW (X₁.named hnamed) (hpre vm₁ X₁.warmed) with ⟨v, B, X', hpost, hsteps⟩ | ⟨q, B, X', hpost, hsteps⟩
  · exact Or.inl ⟨v, vm₁, B, X₁.warmed, X', hpost, fun target h => hstep₁ _ fun acts => by rw [doInvoke_state]; exact hsteps.trans h⟩
  · exact Or.inr ⟨q, vm₁, B, X₁.warmed, X', hpost, hstep₁ _ fun acts => by rw [doInvoke_state]; exact hsteps⟩
theorem vx_callSX (X : Stand p l e R s m args below meth c T locs cells slots) (hexec : p.tables.exec = Jvm.exec) {own : String} {index : Nat} {y : MethodName} {bytes : ByteArray} {maxL : Nat} {ret : Option FieldType} {hh : List (Nat × Nat × Nat × Nat)}
    (hown : s.vm.findClass own = some m.cls) (hlink : (Cond.methodLink own index y).before args s = true) (hstat : (Cond.static y).before args s = true) (hinit : (Cond.initialized y.cls).before args s = true)
    (hcode : (Cond.codeWith y bytes maxL ret hh).before args s = true) (hy : y.cls ≠ "java/lang/invoke/MethodHandle" ∧ y.cls ≠ "java/lang/invoke/VarHandle")
    {W9 : Nat} {Pre : Pt → Array Value → Prop} {Post : Pt → Array Value → Option Value → Pt → Prop} {PostX : Pt → Array Value → Addr → Pt → Prop} (hK : vx_Back l R p e below s args y 3 W9 Pre Post PostX)
    {g : JFrame} (hg : g.method = m) (hsize : g.locals.size = c.maxLocals) {argsL rest : List Value} (hlen : ∀ sig, parseMethodDescriptor y.desc = some sig → argsL.length = sig.parameters.length)
    (hstack : g.stack = argsL.reverse ++ rest) (hW : 2 * g.monitorRoom + (rest.map fun v => v.category).sum ≤ W9) (hdg : decode c.code g.pc = .ok (.invokestatic index, 3))
    (hpre : ∀ vm₁, s.WarmedH vm₁ → Pre ⟨T.setVm vm₁, locs, cells, slots⟩ argsL.toArray) :
    (∃ (v : Option Value) (vm₁ : Vm) (B : Pt), s.WarmedH vm₁ ∧ Stand p l e R s m args below meth c B.U B.locs B.cells B.slots ∧ Post ⟨T.setVm vm₁, locs, cells, slots⟩ argsL.toArray v B ∧
      ∀ target, Steps p.tables e below (B.U.setTop { g with pc := g.pc + 3, stack := v.toList ++ rest }) target → Steps p.tables e below (T.setTop g) target) ∨
    (∃ (q : Addr) (vm₁ : Vm) (B : Pt), s.WarmedH vm₁ ∧ Stand p l e R s m args below meth c B.U B.locs B.cells B.slots ∧ PostX ⟨T.setVm vm₁, locs, cells, slots⟩ argsL.toArray q B ∧
      Steps p.tables e below (T.setTop g) ((B.U.setTop { g with stack := rest }).pushFrame (.throwing q))) := by
  obtain ⟨mk, methM, cM, hnamed, hmethM, -, -, -, -, -, -, hsigM⟩ := Cond.codeWith_spec hcode
  have hstatic : methM.isStatic = true := Cond.static_spec hnamed hmethM hstat
  obtain ⟨kP, hkP, -⟩ := className_of_methodNamed hnamed
  have hinitP : kP.init = .initialized := Cond.initialized_spec (findClass_of_methodNamed hnamed) hkP hinit
  obtain ⟨vm₁, X₁, hstep₁⟩ := X.invokestatic hexec hown hlink hnamed hmethM hstatic hkP hinitP hy (g := g) hg (argsL := argsL) (rest := rest) (hlen _ hsigM) hstack hdg
  rcases hK m meth c ⟨T.setVm vm₁, locs, cells, slots⟩ { g with stack := rest } (.invokestatic index) mk argsL.toArray X₁ hg hsize hdg hW (X₁.named hnamed) (hpre vm₁ X₁.warmed) with ⟨v, B, X', hpost, hsteps⟩ | ⟨q, B, X', hpost, hsteps⟩
  · exact Or.inl ⟨v, vm₁, B, X₁.warmed, X', hpost, fun target h => hstep₁ _ fun acts => by rw [doInvoke_state]; exact hsteps.trans h⟩
  · exact Or.inr ⟨q, vm₁, B, X₁.warmed, X', hpost, hstep₁ _ fun acts => by rw [doInvoke_state]; exact hsteps⟩
theorem vx_callVW (X : Stand p l e R s m args below meth c T locs cells slots) (hexec : p.tables.exec = Jvm.exec) {own C : String} {index : Nat} {y : MethodName} {bytes : ByteArray} {maxL : Nat} {ret : Option FieldType} {hh : List (Nat × Nat × Nat × Nat)}
    (hown : s.vm.findClass own = some m.cls) (hlink : (Cond.methodLink own index y).before args s = true) (hinst : (Cond.instanceMethod y).before args s = true) (hsel : (Cond.selects C y y).before args s = true)
    (hcode : (Cond.codeWith y bytes maxL ret hh).before args s = true) (hy : y.cls ≠ "java/lang/invoke/MethodHandle" ∧ y.cls ≠ "java/lang/invoke/VarHandle")
    {W9 : Nat} {Pre : Pt → Array Value → Prop} {Post : Pt → Array Value → Option Value → Pt → Prop} (hK : Back l R p e below s args y 3 W9 Pre Post)
    {b : Addr} {cellB : Cell} (hcell : T.heap[b]? = some cellB) (hobj : cellB.vm.isStatics = false) (hcls : s.vm.findClass C = some cellB.cls)
    {g : JFrame} (hg : g.method = m) (hsize : g.locals.size = c.maxLocals) {argsL rest : List Value} (hlen : ∀ sig, parseMethodDescriptor y.desc = some sig → argsL.length = sig.parameters.length)
    (hstack : g.stack = argsL.reverse ++ .ref b :: rest) (hW : 2 * g.monitorRoom + (rest.map fun v => v.category).sum ≤ W9) (hdg : decode c.code g.pc = .ok (.invokevirtual index, 3))
    (hpre : ∀ vm₁, s.WarmedH vm₁ → Pre ⟨T.setVm vm₁, locs, cells, slots⟩ (Value.ref b :: argsL).toArray) :
    ∃ (v : Option Value) (vm₁ : Vm) (B : Pt), s.WarmedH vm₁ ∧ Stand p l e R s m args below meth c B.U B.locs B.cells B.slots ∧ Post ⟨T.setVm vm₁, locs, cells, slots⟩ (Value.ref b :: argsL).toArray v B ∧
      ∀ target, Steps p.tables e below (B.U.setTop { g with pc := g.pc + 3, stack := v.toList ++ rest }) target → Steps p.tables e below (T.setTop g) target := by
  obtain ⟨mk, methM, hnamed, hmethM, hstM, habM⟩ := Cond.instanceMethod_spec hinst
  obtain ⟨m8, methM', cM, hn8, hmethM', -, -, -, -, -, -, hsigM⟩ := Cond.codeWith_spec hcode
  cases Option.some.inj (hn8.symm.trans hnamed)
  cases hmethM.symm.trans hmethM'
  obtain ⟨c2, r2, m2, q1, q2, q3, q4, kP, hkP, hkPi⟩ := Cond.selects_spec hsel
  cases hcls.symm.trans q1
  cases (State.methodFound?_of_named hnamed hy).symm.trans q2
  cases hnamed.symm.trans q3
  have hselP : selectMethod e.platform s.vm cellB.cls mk = .method mk := by rw [Launch.admits_selectMethod X.admits]; exact q4
  obtain ⟨vm₁, X₁, hstep₁⟩ := X.invokevirtual hexec hown hlink hnamed hmethM hstM hkP hkPi hy (a := b) (cell := cellB) hcell
    (fun z h => by rw [h] at hobj; cases hobj) hselP hmethM habM hkP hkPi (g := g) hg (argsL := argsL) (rest := rest) (hlen _ hsigM) hstack hdg
  obtain ⟨v, B, X', hpost, hsteps⟩ := hK m meth c ⟨T.setVm vm₁, locs, cells, slots⟩ { g with stack := rest } (.invokevirtual index) mk (Value.ref b :: argsL).toArray X₁ hg hsize hdg hW (X₁.named hnamed) (hpre vm₁ X₁.warmed)
  exact ⟨v, vm₁, B, X₁.warmed, X', hpost, fun target h => hstep₁ _ fun acts => by rw [doInvoke_state]; exact hsteps.trans h⟩
abbrev vx_CVW (R : Room) (s : State) (args : Array Value) (own C : String) (index : Nat) (y : MethodName) (bytes : ByteArray) (maxL : Nat) (ret : Option FieldType) (hh : List (Nat × Nat × Nat × Nat)) (ws : List Cond) (rm : Room) (mc ms n : Nat) : Prop :=
  (rm.cells = mc ∧ rm.slots = ms ∧ rm.frames + 1 ≤ R.frames ∧ 8 + (maxL + 11) + rm.locals ≤ R.locals ∧ (∀ w ∈ ws, ∀ (a' : Array Value) (U : State), s.WarmedH U.vm → w.before a' U = true) ∧ Cond.codeWith y bytes maxL ret hh ∈ ws) ∧
  (Cond.codeWith y bytes maxL ret hh).before args s = true ∧ (Cond.initialized y.cls).before args s = true ∧ (y.cls ≠ "java/lang/invoke/MethodHandle" ∧ y.cls ≠ "java/lang/invoke/VarHandle") ∧
  (∀ sig, parseMethodDescriptor y.desc = some sig → n = sig.parameters.length) ∧ (Cond.methodLink own index y).before args s = true ∧ (Cond.instanceMethod y).before args s = true ∧ (Cond.selects C y y).before args s = true
theorem vx_cwVW {own C : String} {index maxL mc ms : Nat} {y : MethodName} {bytes : ByteArray} {ret : Option FieldType} {hh : List (Nat × Nat × Nat × Nat)} {Ts ws ws' : List Cond} {rm : Room} (n : Nat) (ht : ∀ w ∈ Ts, w.before args s = true) (hT : GoodIn Ts (wsV own index C y ws)) (hw : ws = Cond.codeWith y bytes maxL ret hh :: ws') (hrc : rm.cells = mc) (hrs : rm.slots = ms)
    (hd : y.cls = C ∧ y.cls ≠ "java/lang/invoke/MethodHandle" ∧ y.cls ≠ "java/lang/invoke/VarHandle" ∧ (parseMethodDescriptor y.desc).map (fun d => d.parameters.length) = some n) (hR : rm.frames + 1 ≤ R.frames ∧ 8 + (maxL + 11) + rm.locals ≤ R.locals) :
    vx_CVW R s args own C index y bytes maxL ret hh ws rm mc ms n := by
  obtain ⟨hC, hd⟩ := hd
  subst hC
  have ok : ∀ w ∈ wsV own index y.cls y ws, w.before args s = true := fun w h => ht w (hT w h).1
  have hG : GoodIn Ts ws := fun w h => hT w (by unfold wsV; exact List.mem_append_right _ h)
  have hc : Cond.codeWith y bytes maxL ret hh ∈ ws := by rw [hw]; exact List.mem_cons_self
  refine ⟨⟨hrc, hrs, hR.1, hR.2, pay_in ht hG, hc⟩, ht _ (hG _ hc).1, ok _ (by simp [wsV]), ⟨hd.1, hd.2.1⟩, fun sig h => ?_, ok _ (by simp [wsV]), ok _ (by simp [wsV]), ok _ (by simp [wsV])⟩
  have h2 := hd.2.2
  rw [h] at h2
  exact (Option.some.inj h2).symm
theorem vx_runVW {y : MethodName} {bytes cc : ByteArray} {maxL nL mc ms n index : Nat} {ret : Option FieldType} {hh : List (Nat × Nat × Nat × Nat)} {ws : List Cond} {rm : Room} {Pc : Array Value → State → Prop} {Qc : Array Value → State → Outcome → State → Prop} {free : Addr → Prop} {Ts : List Cond} {own C : String} {b : Addr} {As rest : List Value} {g : JFrame}
    (S : CallFix p m c cc nL s args Ts own) (hM : Met l y ws rm Pc Qc mc ms free) (cw : vx_CVW R s args own C index y bytes maxL ret hh ws rm mc ms n) (hp : PreV s H C b Pc As)
    (hg : g.method = m) (hn : As.length = n) (hsize : g.locals.size = nL) (hstack : g.stack = As.reverse ++ .ref b :: rest) (hW : 2 * g.monitorRoom + (rest.map fun v => v.category).sum ≤ 8) (hdg : decode cc g.pc = .ok (.invokevirtual index, 3)) (hf : cells + mc ≤ R.cells ∧ slots + ms ≤ R.slots) :
    va_Run p l e R s m args below meth c H locs cells slots mc ms g rest (Qc (Value.ref b :: As).toArray) free := by
  obtain ⟨⟨hrc, hrs, hfr, hlo, hws, hcw⟩, hcode, hini, hy, hlen, hl, hin, hse⟩ := cw
  have hK : Back l R p e below s args y 3 8 (PreOf R mc ms Pc) (PostOf Qc mc ms free) := va_backW (hh := hh) (bytes := bytes) (maxL := maxL) (ret := ret) hM hp.1 hrc hrs hfr hlo hws hcw (fun a' U hW => word_at hW (Or.inl (by first | rfl | simp [Cond.onTables, Cond.keeps, Cond.steady])) hini)
  obtain ⟨hx, hb, hml, ho, -⟩ := S
  obtain ⟨-, ⟨cellB, hcB, hoB, hclB⟩, hPc⟩ := hp
  intro T hT X
  obtain ⟨v, vm₁, ⟨U', l2, c2, s2⟩, hW₁, X', ⟨g', mk, t, L, e1, e2, hq, h1, hL, h2, h3⟩, st⟩ := vx_callVW X hx (C := C) (hh := hh) (bytes := bytes) (maxL := maxL) (ret := ret) ho hl hin hse hcode hy hK (by rw [hT]; exact hcB) hoB hclB hg (hsize.trans hml.symm) (argsL := As) (rest := rest) (fun sig h => hn.trans (hlen sig h)) hstack hW (by rw [hb]; exact hdg)
    (fun vm₁ hW₁ => ⟨hf.1, hf.2, hPc (T.setVm vm₁) hT hW₁⟩)
  dsimp only [Pt.U, Pt.locs, Pt.cells, Pt.slots] at X' e1 e2 h1 h2 h3 st
  subst h1; subst h2; subst h3
  exact ⟨v, (T.setVm vm₁).calling g' mk (Value.ref b :: As).toArray, t, U', L, hT, X', hL, e1, e2, hq, st⟩
section
variable {y : MethodName} {bytes cc : ByteArray} {maxL nL mc ms n index : Nat} {ret : Option FieldType} {ws : List Cond} {rm : Room} {Pc : Array Value → State → Prop} {Qc : Array Value → State → Outcome → State → Prop} {XC : String → State → State → Prop} {free : Addr → Prop} {Ts : List Cond} {own C : String} {b : Addr} {As rest : List Value} {g : JFrame}
theorem vx_runVX {hh : List (Nat × Nat × Nat × Nat)} (S : CallFix p m c cc nL s args Ts own) (hM : vx_Met l y ws rm Pc Qc XC mc ms free) (cw : vx_CVW R s args own C index y bytes maxL ret hh ws rm mc ms n) (hp : PreV s H C b Pc As)
    (hg : g.method = m) (hn : As.length = n) (hsize : g.locals.size = nL) (hstack : g.stack = As.reverse ++ .ref b :: rest) (hW : 2 * g.monitorRoom + (rest.map fun v => v.category).sum ≤ 8) (hdg : decode cc g.pc = .ok (.invokevirtual index, 3)) (hf : cells + mc ≤ R.cells ∧ slots + ms ≤ R.slots) :
    vx_Run p l e R s m args below meth c H locs cells slots mc ms g rest (Qc (Value.ref b :: As).toArray) XC free := by
  obtain ⟨⟨hrc, hrs, hfr, hlo, hws, hcw⟩, hcode, hini, hy, hlen, hl, hin, hse⟩ := cw
  have hK : vx_Back l R p e below s args y 3 8 (PreOf R mc ms Pc) (PostOf Qc mc ms free) (vx_Post XC mc ms free) := vx_backW (hh := hh) (bytes := bytes) (maxL := maxL) (ret := ret) hM hp.1 hrc hrs hfr hlo hws hcw (fun a' U hW => word_at hW (Or.inl (by first | rfl | simp [Cond.onTables, Cond.keeps, Cond.steady])) hini)
  obtain ⟨hx, hb, hml, ho, -⟩ := S
  obtain ⟨-, ⟨cellB, hcB, hoB, hclB⟩, hPc⟩ := hp
  intro T hT X
  rcases vx_callVX X hx (C := C) (hh := hh) (bytes := bytes) (maxL := maxL) (ret := ret) ho hl hin hse hcode hy hK (by rw [hT]; exact hcB) hoB hclB hg (hsize.trans hml.symm) (argsL := As) (rest := rest) (fun sig h => hn.trans (hlen sig h)) hstack hW (by rw [hb]; exact hdg)
    (fun vm₁ hW₁ => ⟨hf.1, hf.2, hPc (T.setVm vm₁) hT hW₁⟩) with ⟨v, vm₁, ⟨U', l2, c2, s2⟩, hW₁, X', ⟨g', mk, t, L, e1, e2, hq, h1, hL, h2, h3⟩, st⟩ | ⟨q, vm₁, ⟨U', l2, c2, s2⟩, hW₁, X', ⟨g', mk, t, L, E, ce, e1, e2, hq, hce, hcv, hcl, h1, hL, h2, h3⟩, st⟩
  · dsimp only [Pt.U, Pt.locs, Pt.cells, Pt.slots] at X' e1 e2 h1 h2 h3 st
    subst h1; subst h2; subst h3
    exact Or.inl ⟨v, (T.setVm vm₁).calling g' mk (Value.ref b :: As).toArray, t, U', L, hT, X', hL, e1, e2, hq, st⟩
  · dsimp only [Pt.U, Pt.locs, Pt.cells, Pt.slots] at X' e1 e2 h1 h2 h3 st hcl
    subst h1; subst h2; subst h3
    exact Or.inr ⟨q, (T.setVm vm₁).calling g' mk (Value.ref b :: As).toArray, t, U', L, E, ce, hT, X', hL, e1, e2, hq, hce, hcv, vx_cls hW₁ hcl, st⟩
theorem vx_runSX {hh : List (Nat × Nat × Nat × Nat)} (S : CallFix p m c cc nL s args Ts own) (hM : vx_Met l y ws rm Pc Qc XC mc ms free) (cw : vx_CSW R s args own index y bytes maxL ret hh ws rm mc ms n) (hp : PreS s H Pc As)
    (hg : g.method = m) (hn : As.length = n) (hsize : g.locals.size = nL) (hstack : g.stack = As.reverse ++ rest) (hW : 2 * g.monitorRoom + (rest.map fun v => v.category).sum ≤ 8) (hdg : decode cc g.pc = .ok (.invokestatic index, 3)) (hf : cells + mc ≤ R.cells ∧ slots + ms ≤ R.slots) :
    vx_Run p l e R s m args below meth c H locs cells slots mc ms g rest (Qc As.toArray) XC free := by
  obtain ⟨⟨hrc, hrs, hfr, hlo, hws, hcw⟩, hcode, hini, hy, hlen, hl, hstt⟩ := cw
  have hK : vx_Back l R p e below s args y 3 8 (PreOf R mc ms Pc) (PostOf Qc mc ms free) (vx_Post XC mc ms free) := vx_backW (hh := hh) (bytes := bytes) (maxL := maxL) (ret := ret) hM hp.1 hrc hrs hfr hlo hws hcw (fun a' U hW => word_at hW (Or.inl (by first | rfl | simp [Cond.onTables, Cond.keeps, Cond.steady])) hini)
  obtain ⟨hx, hb, hml, ho, -⟩ := S
  intro T hT X
  rcases vx_callSX X hx (hh := hh) (bytes := bytes) (maxL := maxL) (ret := ret) ho hl hstt hini hcode hy hK hg (hsize.trans hml.symm) (argsL := As) (rest := rest) (fun sig h => hn.trans (hlen sig h)) hstack hW (by rw [hb]; exact hdg)
    (fun vm₁ hW₁ => ⟨hf.1, hf.2, hp.2 (T.setVm vm₁) hT hW₁⟩) with ⟨v, vm₁, ⟨U', l2, c2, s2⟩, hW₁, X', ⟨g', mk, t, L, e1, e2, hq, h1, hL, h2, h3⟩, st⟩ | ⟨q, vm₁, ⟨U', l2, c2, s2⟩, hW₁, X', ⟨g', mk, t, L, E, ce, e1, e2, hq, hce, hcv, hcl, h1, hL, h2, h3⟩, st⟩
  · dsimp only [Pt.U, Pt.locs, Pt.cells, Pt.slots] at X' e1 e2 h1 h2 h3 st
    subst h1; subst h2; subst h3
    exact Or.inl ⟨v, (T.setVm vm₁).calling g' mk As.toArray, t, U', L, hT, X', hL, e1, e2, hq, st⟩
  · dsimp only [Pt.U, Pt.locs, Pt.cells, Pt.slots] at X' e1 e2 h1 h2 h3 st hcl
    subst h1; subst h2; subst h3
    exact Or.inr ⟨q, (T.setVm vm₁).calling g' mk As.toArray, t, U', L, E, ce, hT, X', hL, e1, e2, hq, hce, hcv, vx_cls hW₁ hcl, st⟩
end
end VXH
theorem vx_ofWH {l : Launch} {y : MethodName} {ws ws' : List Cond} {rm : Room} {Pc : Array Value → State → Prop} {Qc : Array Value → State → Outcome → State → Prop} {XC : String → State → State → Prop} {mc ms : Nat} {free : Addr → Prop} {cc : ByteArray} {maxL : Nat} {ret : Option FieldType} {hh : List (Nat × Nat × Nat × Nat)}
    (hy : plainName y.cls = true) (hw : ws = Cond.codeWith y cc maxL ret hh :: ws')
    (body : ∀ p e s m args below meth c s₁, BodyLoose p l y (headSpec ws rm) cc maxL ret e s m args below meth c s₁ → c.maxLocals = maxL → Pc args s →
      W p l e (headSpec ws rm).room s m args below meth c s.heap [] 0 0 (vx_MQ below Qc XC args s mc ms free) (entryFrame m args maxL)) : vx_Met l y ws rm Pc Qc XC mc ms free := by
  refine MetFree.of_bodyS (code := cc) (maxLocals := maxL) (ret := ret) hy ?_ ?_
  · intro args s m h hn
    obtain ⟨m9, meth, c, hn9, h1, h2, h3, h4, -, h5, h6, -⟩ := Cond.codeWith_spec (atoms_spec (ws := ws) h _ (by rw [hw]; exact List.mem_cons_self))
    cases hn.symm.trans hn9
    exact ⟨meth, c, h1, h2, h3, h4, h5, h6⟩
  · intro p e s m args below meth c s₁ B hml hP _
    have hh0 : s₁.heap = s.heap := by rw [B.state]; rfl
    obtain ⟨t, a1, o, b1, b2, b3⟩ := body p e s m args below meth c s₁ B hml hP s₁ hh0 (Stand.of_body B)
    exact ⟨t, o, a1, b1, b2, b3⟩
/-! ===== END ===== -/
end
section
/-! ===== BEGIN printed: names, fields, word lists, decode rows ===== -/
def RX0 : String := "HopperCourt$Log"
def TX0 : u_T := fun k => match k with
  | 0 => ("HopperCourt$Log", "froms", "[I", true)
  | 1 => ("HopperCourt$Log", "tos", "[I", true)
  | 2 => ("HopperCourt$Log", "turns", "[I", true)
  | 3 => ("HopperCourt$Log", "outs", "[I", true)
  | 4 => ("HopperCourt$Log", "placeds", "[I", true)
  | _ => ("HopperCourt$Log", "size", "I", false)
def tyX0 : Nat → FieldType := fun k => match k with
  | 0 => .array .int
  | 1 => .array .int
  | 2 => .array .int
  | 3 => .array .int
  | 4 => .array .int
  | _ => .int
abbrev wsX00 : List Cond := u_ws RX0 TX0 6
theorem nmX0 : ∀ a, a < 6 → ∀ b, b < 6 → a ≠ b → (TX0 a).2.1 ≠ (TX0 b).2.1 := by decide +kernel
theorem tyX0_ok : ∀ k, k < 6 → parseFieldDescriptor (TX0 k).2.2.1 = some (tyX0 k) := by decide +kernel
abbrev cX0_init : ByteArray := prog_2_method_1_code
def yX0_init : MethodName := ⟨RX0, "<init>", "()V"⟩
abbrev cX0_size : ByteArray := prog_2_method_2_code
def yX0_size : MethodName := ⟨RX0, "size", "()I"⟩
abbrev cX0_clear : ByteArray := prog_2_method_3_code
def yX0_clear : MethodName := ⟨RX0, "clear", "()V"⟩
abbrev cX0_add : ByteArray := prog_2_method_4_code
def yX0_add : MethodName := ⟨RX0, "add", "(IILHopperCourt$Seats;)V"⟩
abbrev cX0_takeBack : ByteArray := prog_2_method_5_code
def yX0_takeBack : MethodName := ⟨RX0, "takeBack", "(LHopperCourt$Marbles;LHopperCourt$Seats;)V"⟩
def RX1 : String := "HopperCourt$Marbles"
def TX1 : u_T := fun k => match k with
  | 0 => ("HopperCourt$Marbles", "star", "LHopperCourt$Star;", true)
  | _ => ("HopperCourt$Marbles", "owners", "[I", true)
def tyX1 : Nat → FieldType := fun k => match k with
  | 0 => .object "HopperCourt$Star"
  | _ => .array .int
abbrev wsX10 : List Cond := u_ws RX1 TX1 2
theorem nmX1 : ∀ a, a < 2 → ∀ b, b < 2 → a ≠ b → (TX1 a).2.1 ≠ (TX1 b).2.1 := by decide +kernel
theorem tyX1_ok : ∀ k, k < 2 → parseFieldDescriptor (TX1 k).2.2.1 = some (tyX1 k) := by decide +kernel
abbrev cX1_init : ByteArray := prog_3_method_1_code
def yX1_init : MethodName := ⟨RX1, "<init>", "(LHopperCourt$Star;)V"⟩
abbrev cX1_setUp : ByteArray := prog_3_method_2_code
def yX1_setUp : MethodName := ⟨RX1, "setUp", "(I)V"⟩
abbrev cX1_owner : ByteArray := prog_3_method_3_code
def yX1_owner : MethodName := ⟨RX1, "owner", "(I)I"⟩
abbrev cX1_isEmpty : ByteArray := prog_3_method_4_code
def yX1_isEmpty : MethodName := ⟨RX1, "isEmpty", "(I)Z"⟩
abbrev cX1_carry : ByteArray := prog_3_method_5_code
def yX1_carry : MethodName := ⟨RX1, "carry", "(II)V"⟩
abbrev cX1_countInCamp : ByteArray := prog_3_method_6_code
def yX1_countInCamp : MethodName := ⟨RX1, "countInCamp", "(II)I"⟩
def RX2 : String := "HopperCourt$Pairing"
def TX2 : u_T := fun k => match k with
  | 0 => ("HopperCourt$Pairing", "star", "LHopperCourt$Star;", true)
  | 1 => ("HopperCourt$Pairing", "marbles", "LHopperCourt$Marbles;", true)
  | 2 => ("HopperCourt$Pairing", "marbleCells", "[I", true)
  | 3 => ("HopperCourt$Pairing", "goalCells", "[I", true)
  | 4 => ("HopperCourt$Pairing", "steps", "[I", true)
  | 5 => ("HopperCourt$Pairing", "firstSums", "[I", true)
  | 6 => ("HopperCourt$Pairing", "lastSums", "[I", true)
  | _ => ("HopperCourt$Pairing", "otherSums", "[I", true)
def tyX2 : Nat → FieldType := fun k => match k with
  | 0 => .object "HopperCourt$Star"
  | 1 => .object "HopperCourt$Marbles"
  | 2 => .array .int
  | 3 => .array .int
  | 4 => .array .int
  | 5 => .array .int
  | 6 => .array .int
  | _ => .array .int
abbrev wsX20 : List Cond := u_ws RX2 TX2 8
theorem nmX2 : ∀ a, a < 8 → ∀ b, b < 8 → a ≠ b → (TX2 a).2.1 ≠ (TX2 b).2.1 := by decide +kernel
theorem tyX2_ok : ∀ k, k < 8 → parseFieldDescriptor (TX2 k).2.2.1 = some (tyX2 k) := by decide +kernel
abbrev cX2_init : ByteArray := prog_4_method_1_code
def yX2_init : MethodName := ⟨RX2, "<init>", "(LHopperCourt$Star;LHopperCourt$Marbles;)V"⟩
abbrev cX2_leastSum : ByteArray := prog_4_method_2_code
def yX2_leastSum : MethodName := ⟨RX2, "leastSum", "(I)I"⟩
abbrev cX2_weighAllButOne : ByteArray := prog_4_method_3_code
def yX2_weighAllButOne : MethodName := ⟨RX2, "weighAllButOne", "(I)V"⟩
abbrev cX2_sumWith : ByteArray := prog_4_method_4_code
def yX2_sumWith : MethodName := ⟨RX2, "sumWith", "(II)I"⟩
abbrev cX2_marbleCell : ByteArray := prog_4_method_5_code
def yX2_marbleCell : MethodName := ⟨RX2, "marbleCell", "(I)I"⟩
abbrev cX2_measure : ByteArray := prog_4_method_6_code
def yX2_measure : MethodName := ⟨RX2, "measure", "(I)V"⟩
abbrev cX2_collect : ByteArray := prog_4_method_7_code
def yX2_collect : MethodName := ⟨RX2, "collect", "(I)V"⟩
abbrev cX2_sumFirst : ByteArray := prog_4_method_8_code
def yX2_sumFirst : MethodName := ⟨RX2, "sumFirst", "()V"⟩
abbrev cX2_sumLast : ByteArray := prog_4_method_9_code
def yX2_sumLast : MethodName := ⟨RX2, "sumLast", "()V"⟩
abbrev cX2_leastWith : ByteArray := prog_4_method_10_code
def yX2_leastWith : MethodName := ⟨RX2, "leastWith", "([III)I"⟩
def RX3 : String := "HopperCourt$Reach"
def TX3 : u_T := fun k => match k with
  | 0 => ("HopperCourt$Reach", "star", "LHopperCourt$Star;", true)
  | 1 => ("HopperCourt$Reach", "marbles", "LHopperCourt$Marbles;", true)
  | 2 => ("HopperCourt$Reach", "hopsToEnd", "[I", true)
  | 3 => ("HopperCourt$Reach", "level", "[I", true)
  | _ => ("HopperCourt$Reach", "queue", "[I", true)
def tyX3 : Nat → FieldType := fun k => match k with
  | 0 => .object "HopperCourt$Star"
  | 1 => .object "HopperCourt$Marbles"
  | 2 => .array .int
  | 3 => .array .int
  | _ => .array .int
abbrev wsX30 : List Cond := u_ws RX3 TX3 5
theorem nmX3 : ∀ a, a < 5 → ∀ b, b < 5 → a ≠ b → (TX3 a).2.1 ≠ (TX3 b).2.1 := by decide +kernel
theorem tyX3_ok : ∀ k, k < 5 → parseFieldDescriptor (TX3 k).2.2.1 = some (tyX3 k) := by decide +kernel
abbrev cX3_init : ByteArray := prog_5_method_1_code
def yX3_init : MethodName := ⟨RX3, "<init>", "(LHopperCourt$Star;LHopperCourt$Marbles;)V"⟩
abbrev cX3_search : ByteArray := prog_5_method_2_code
def yX3_search : MethodName := ⟨RX3, "search", "(II)V"⟩
abbrev cX3_hopsTo : ByteArray := prog_5_method_3_code
def yX3_hopsTo : MethodName := ⟨RX3, "hopsTo", "(I)I"⟩
abbrev cX3_countEnds : ByteArray := prog_5_method_4_code
def yX3_countEnds : MethodName := ⟨RX3, "countEnds", "()I"⟩
abbrev cX3_end : ByteArray := prog_5_method_5_code
def yX3_end : MethodName := ⟨RX3, "end", "(I)I"⟩
abbrev cX3_cellBehind : ByteArray := prog_5_method_6_code
def yX3_cellBehind : MethodName := ⟨RX3, "cellBehind", "(III)I"⟩
abbrev cX3_lowestNearer : ByteArray := prog_5_method_7_code
def yX3_lowestNearer : MethodName := ⟨RX3, "lowestNearer", "(II)I"⟩
abbrev cX3_spread : ByteArray := prog_5_method_8_code
def yX3_spread : MethodName := ⟨RX3, "spread", "(II)V"⟩
abbrev cX3_landing : ByteArray := prog_5_method_9_code
def yX3_landing : MethodName := ⟨RX3, "landing", "(III)I"⟩
abbrev cX3_mayEnd : ByteArray := prog_5_method_10_code
def yX3_mayEnd : MethodName := ⟨RX3, "mayEnd", "(III)Z"⟩
def RX4 : String := "HopperCourt$Seats"
def TX4 : u_T := fun k => match k with
  | 0 => ("HopperCourt$Seats", "marbles", "LHopperCourt$Marbles;", true)
  | 1 => ("HopperCourt$Seats", "madeBy", "[I", true)
  | 2 => ("HopperCourt$Seats", "places", "[I", true)
  | 3 => ("HopperCourt$Seats", "placed", "I", false)
  | 4 => ("HopperCourt$Seats", "playing", "I", false)
  | 5 => ("HopperCourt$Seats", "out", "I", false)
  | _ => ("HopperCourt$Seats", "turn", "I", false)
def tyX4 : Nat → FieldType := fun k => match k with
  | 0 => .object "HopperCourt$Marbles"
  | 1 => .array .int
  | 2 => .array .int
  | 3 => .int
  | 4 => .int
  | 5 => .int
  | _ => .int
abbrev wsX40 : List Cond := u_ws RX4 TX4 7
theorem nmX4 : ∀ a, a < 7 → ∀ b, b < 7 → a ≠ b → (TX4 a).2.1 ≠ (TX4 b).2.1 := by decide +kernel
theorem tyX4_ok : ∀ k, k < 7 → parseFieldDescriptor (TX4 k).2.2.1 = some (tyX4 k) := by decide +kernel
abbrev cX4_init : ByteArray := prog_6_method_1_code
def yX4_init : MethodName := ⟨RX4, "<init>", "(LHopperCourt$Marbles;)V"⟩
abbrev cX4_setUp : ByteArray := prog_6_method_2_code
def yX4_setUp : MethodName := ⟨RX4, "setUp", "(I)V"⟩
abbrev cX4_onTurn : ByteArray := prog_6_method_3_code
def yX4_onTurn : MethodName := ⟨RX4, "onTurn", "()I"⟩
abbrev cX4_outSet : ByteArray := prog_6_method_4_code
def yX4_outSet : MethodName := ⟨RX4, "outSet", "()I"⟩
abbrev cX4_placedCount : ByteArray := prog_6_method_5_code
def yX4_placedCount : MethodName := ⟨RX4, "placedCount", "()I"⟩
abbrev cX4_plays : ByteArray := prog_6_method_6_code
def yX4_plays : MethodName := ⟨RX4, "plays", "(I)Z"⟩
abbrev cX4_hasDroppedOut : ByteArray := prog_6_method_7_code
def yX4_hasDroppedOut : MethodName := ⟨RX4, "hasDroppedOut", "(I)Z"⟩
abbrev cX4_playerAtPlace : ByteArray := prog_6_method_8_code
def yX4_playerAtPlace : MethodName := ⟨RX4, "playerAtPlace", "(I)I"⟩
abbrev cX4_countMove : ByteArray := prog_6_method_9_code
def yX4_countMove : MethodName := ⟨RX4, "countMove", "()V"⟩
abbrev cX4_placeFinishers : ByteArray := prog_6_method_10_code
def yX4_placeFinishers : MethodName := ⟨RX4, "placeFinishers", "(I)V"⟩
abbrev cX4_goOn : ByteArray := prog_6_method_11_code
def yX4_goOn : MethodName := ⟨RX4, "goOn", "(I)V"⟩
abbrev cX4_restore : ByteArray := prog_6_method_12_code
def yX4_restore : MethodName := ⟨RX4, "restore", "(III)V"⟩
abbrev cX4_isStillIn : ByteArray := prog_6_method_13_code
def yX4_isStillIn : MethodName := ⟨RX4, "isStillIn", "(I)Z"⟩
abbrev cX4_isPlaced : ByteArray := prog_6_method_14_code
def yX4_isPlaced : MethodName := ⟨RX4, "isPlaced", "(I)Z"⟩
abbrev cX4_fillsGoal : ByteArray := prog_6_method_15_code
def yX4_fillsGoal : MethodName := ⟨RX4, "fillsGoal", "(II)Z"⟩
abbrev cX4_isTooLate : ByteArray := prog_6_method_16_code
def yX4_isTooLate : MethodName := ⟨RX4, "isTooLate", "(II)Z"⟩
def RX5 : String := "HopperCourt$Star"
def TX5 : u_T := fun k => match k with
  | 0 => ("HopperCourt$Star", "rows", "[I", true)
  | 1 => ("HopperCourt$Star", "columns", "[I", true)
  | 2 => ("HopperCourt$Star", "camps", "[I", true)
  | _ => ("HopperCourt$Star", "nexts", "[I", true)
def tyX5 : Nat → FieldType := fun k => match k with
  | 0 => .array .int
  | 1 => .array .int
  | 2 => .array .int
  | _ => .array .int
abbrev wsX50 : List Cond := u_ws RX5 TX5 4
theorem nmX5 : ∀ a, a < 4 → ∀ b, b < 4 → a ≠ b → (TX5 a).2.1 ≠ (TX5 b).2.1 := by decide +kernel
theorem tyX5_ok : ∀ k, k < 4 → parseFieldDescriptor (TX5 k).2.2.1 = some (tyX5 k) := by decide +kernel
abbrev cX5_init : ByteArray := prog_7_method_1_code
def yX5_init : MethodName := ⟨RX5, "<init>", "()V"⟩
abbrev cX5_cellIn : ByteArray := prog_7_method_2_code
def yX5_cellIn : MethodName := ⟨RX5, "cellIn", "(II)I"⟩
abbrev cX5_campAmong : ByteArray := prog_7_method_3_code
def yX5_campAmong : MethodName := ⟨RX5, "campAmong", "(II)I"⟩
abbrev cX5_camp : ByteArray := prog_7_method_4_code
def yX5_camp : MethodName := ⟨RX5, "camp", "(I)I"⟩
abbrev cX5_next : ByteArray := prog_7_method_5_code
def yX5_next : MethodName := ⟨RX5, "next", "(II)I"⟩
abbrev cX5_steps : ByteArray := prog_7_method_6_code
def yX5_steps : MethodName := ⟨RX5, "steps", "(II)I"⟩
def RX6 : String := "HopperCourt"
def TX6 : u_T := fun k => match k with
  | 0 => ("HopperCourt", "star", "LHopperCourt$Star;", true)
  | 1 => ("HopperCourt", "marbles", "LHopperCourt$Marbles;", true)
  | 2 => ("HopperCourt", "reach", "LHopperCourt$Reach;", true)
  | 3 => ("HopperCourt", "pairing", "LHopperCourt$Pairing;", true)
  | 4 => ("HopperCourt", "seats", "LHopperCourt$Seats;", true)
  | 5 => ("HopperCourt", "log", "LHopperCourt$Log;", true)
  | 6 => ("HopperCourt", "fill", "I", false)
  | _ => ("HopperCourt", "patience", "I", false)
def tyX6 : Nat → FieldType := fun k => match k with
  | 0 => .object "HopperCourt$Star"
  | 1 => .object "HopperCourt$Marbles"
  | 2 => .object "HopperCourt$Reach"
  | 3 => .object "HopperCourt$Pairing"
  | 4 => .object "HopperCourt$Seats"
  | 5 => .object "HopperCourt$Log"
  | 6 => .int
  | _ => .int
abbrev wsX60 : List Cond := u_ws RX6 TX6 8
theorem nmX6 : ∀ a, a < 8 → ∀ b, b < 8 → a ≠ b → (TX6 a).2.1 ≠ (TX6 b).2.1 := by decide +kernel
theorem tyX6_ok : ∀ k, k < 8 → parseFieldDescriptor (TX6 k).2.2.1 = some (tyX6 k) := by decide +kernel
abbrev cX6_init : ByteArray := prog_1_method_1_code
def yX6_init : MethodName := ⟨RX6, "<init>", "()V"⟩
abbrev cX6_begin : ByteArray := prog_1_method_2_code
def yX6_begin : MethodName := ⟨RX6, "begin", "(I)V"⟩
abbrev cX6_setFill : ByteArray := prog_1_method_3_code
def yX6_setFill : MethodName := ⟨RX6, "setFill", "(I)I"⟩
abbrev cX6_setPatience : ByteArray := prog_1_method_4_code
def yX6_setPatience : MethodName := ⟨RX6, "setPatience", "(I)I"⟩
abbrev cX6_move : ByteArray := prog_1_method_5_code
def yX6_move : MethodName := ⟨RX6, "move", "(II)I"⟩
abbrev cX6_pass : ByteArray := prog_1_method_6_code
def yX6_pass : MethodName := ⟨RX6, "pass", "()V"⟩
abbrev cX6_undo : ByteArray := prog_1_method_7_code
def yX6_undo : MethodName := ⟨RX6, "undo", "()I"⟩
abbrev cX6_at : ByteArray := prog_1_method_8_code
def yX6_at : MethodName := ⟨RX6, "at", "(I)I"⟩
abbrev cX6_cellAt : ByteArray := prog_1_method_9_code
def yX6_cellAt : MethodName := ⟨RX6, "cellAt", "(II)I"⟩
abbrev cX6_campOf : ByteArray := prog_1_method_10_code
def yX6_campOf : MethodName := ⟨RX6, "campOf", "(I)I"⟩
abbrev cX6_distance : ByteArray := prog_1_method_11_code
def yX6_distance : MethodName := ⟨RX6, "distance", "(II)I"⟩
abbrev cX6_turn : ByteArray := prog_1_method_12_code
def yX6_turn : MethodName := ⟨RX6, "turn", "()I"⟩
abbrev cX6_made : ByteArray := prog_1_method_13_code
def yX6_made : MethodName := ⟨RX6, "made", "()I"⟩
abbrev cX6_ends : ByteArray := prog_1_method_14_code
def yX6_ends : MethodName := ⟨RX6, "ends", "(I)I"⟩
abbrev cX6_endAt : ByteArray := prog_1_method_15_code
def yX6_endAt : MethodName := ⟨RX6, "endAt", "(II)I"⟩
abbrev cX6_moves : ByteArray := prog_1_method_16_code
def yX6_moves : MethodName := ⟨RX6, "moves", "()I"⟩
abbrev cX6_chainAt : ByteArray := prog_1_method_17_code
def yX6_chainAt : MethodName := ⟨RX6, "chainAt", "(III)I"⟩
abbrev cX6_hops : ByteArray := prog_1_method_18_code
def yX6_hops : MethodName := ⟨RX6, "hops", "(II)I"⟩
abbrev cX6_finished : ByteArray := prog_1_method_19_code
def yX6_finished : MethodName := ⟨RX6, "finished", "(I)I"⟩
abbrev cX6_isOut : ByteArray := prog_1_method_20_code
def yX6_isOut : MethodName := ⟨RX6, "isOut", "(I)Z"⟩
abbrev cX6_way : ByteArray := prog_1_method_21_code
def yX6_way : MethodName := ⟨RX6, "way", "(I)I"⟩
abbrev cX6_bestFrom : ByteArray := prog_1_method_22_code
def yX6_bestFrom : MethodName := ⟨RX6, "bestFrom", "()I"⟩
abbrev cX6_bestTo : ByteArray := prog_1_method_23_code
def yX6_bestTo : MethodName := ⟨RX6, "bestTo", "()I"⟩
abbrev cX6_isCell : ByteArray := prog_1_method_24_code
def yX6_isCell : MethodName := ⟨RX6, "isCell", "(I)Z"⟩
abbrev cX6_isCamp : ByteArray := prog_1_method_25_code
def yX6_isCamp : MethodName := ⟨RX6, "isCamp", "(I)Z"⟩
abbrev cX6_goalOf : ByteArray := prog_1_method_26_code
def yX6_goalOf : MethodName := ⟨RX6, "goalOf", "(I)I"⟩
abbrev cX6_isOpen : ByteArray := prog_1_method_27_code
def yX6_isOpen : MethodName := ⟨RX6, "isOpen", "()Z"⟩
abbrev cX6_bestMove : ByteArray := prog_1_method_28_code
def yX6_bestMove : MethodName := ⟨RX6, "bestMove", "()I"⟩
def RX7 : String := "HopperCourtModel"
def TX7 : u_T := fun k => match k with
  | 0 => ("HopperCourtModel", "row", "[I", true)
  | 1 => ("HopperCourtModel", "column", "[I", true)
  | 2 => ("HopperCourtModel", "camp", "[I", true)
  | 3 => ("HopperCourtModel", "next", "[I", true)
  | 4 => ("HopperCourtModel", "far", "[I", true)
  | 5 => ("HopperCourtModel", "cells", "[I", true)
  | 6 => ("HopperCourtModel", "players", "I", false)
  | 7 => ("HopperCourtModel", "fill", "I", false)
  | 8 => ("HopperCourtModel", "patience", "I", false)
  | 9 => ("HopperCourtModel", "board", "[I", true)
  | 10 => ("HopperCourtModel", "turn", "I", false)
  | 11 => ("HopperCourtModel", "made", "I", false)
  | 12 => ("HopperCourtModel", "out", "I", false)
  | 13 => ("HopperCourtModel", "movesOf", "[I", true)
  | 14 => ("HopperCourtModel", "finishers", "I", false)
  | 15 => ("HopperCourtModel", "places", "[I", true)
  | 16 => ("HopperCourtModel", "movedFrom", "[I", true)
  | 17 => ("HopperCourtModel", "movedTo", "[I", true)
  | 18 => ("HopperCourtModel", "turnWas", "[I", true)
  | 19 => ("HopperCourtModel", "outWas", "[I", true)
  | 20 => ("HopperCourtModel", "finishersWas", "[I", true)
  | 21 => ("HopperCourtModel", "level", "[I", true)
  | 22 => ("HopperCourtModel", "queue", "[I", true)
  | 23 => ("HopperCourtModel", "isEnd", "[Z", true)
  | 24 => ("HopperCourtModel", "cheapest", "[I", true)
  | 25 => ("HopperCourtModel", "marbles", "[I", true)
  | _ => ("HopperCourtModel", "thrown", "I", false)
def tyX7 : Nat → FieldType := fun k => match k with
  | 0 => .array .int
  | 1 => .array .int
  | 2 => .array .int
  | 3 => .array .int
  | 4 => .array .int
  | 5 => .array .int
  | 6 => .int
  | 7 => .int
  | 8 => .int
  | 9 => .array .int
  | 10 => .int
  | 11 => .int
  | 12 => .int
  | 13 => .array .int
  | 14 => .int
  | 15 => .array .int
  | 16 => .array .int
  | 17 => .array .int
  | 18 => .array .int
  | 19 => .array .int
  | 20 => .array .int
  | 21 => .array .int
  | 22 => .array .int
  | 23 => .array .boolean
  | 24 => .array .int
  | 25 => .array .int
  | _ => .int
abbrev wsX70 : List Cond := u_ws RX7 TX7 27
theorem nmX7 : ∀ a, a < 27 → ∀ b, b < 27 → a ≠ b → (TX7 a).2.1 ≠ (TX7 b).2.1 := by decide +kernel
theorem tyX7_ok : ∀ k, k < 27 → parseFieldDescriptor (TX7 k).2.2.1 = some (tyX7 k) := by decide +kernel
abbrev cX7_init : ByteArray := prog_9_method_1_code
def yX7_init : MethodName := ⟨RX7, "<init>", "()V"⟩
abbrev cX7_thrown : ByteArray := prog_9_method_2_code
def yX7_thrown : MethodName := ⟨RX7, "thrown", "()I"⟩
abbrev cX7_can : ByteArray := prog_9_method_3_code
def yX7_can : MethodName := ⟨RX7, "can", "(I)Z"⟩
abbrev cX7_isIn : ByteArray := prog_9_method_4_code
def yX7_isIn : MethodName := ⟨RX7, "isIn", "(III)Z"⟩
abbrev cX7_isCell : ByteArray := prog_9_method_5_code
def yX7_isCell : MethodName := ⟨RX7, "isCell", "(I)Z"⟩
abbrev cX7_campAt : ByteArray := prog_9_method_6_code
def yX7_campAt : MethodName := ⟨RX7, "campAt", "(II)I"⟩
abbrev cX7_find : ByteArray := prog_9_method_7_code
def yX7_find : MethodName := ⟨RX7, "find", "(II)I"⟩
abbrev cX7_measures : ByteArray := prog_9_method_8_code
def yX7_measures : MethodName := ⟨RX7, "measures", "(I)V"⟩
abbrev cX7_plays : ByteArray := prog_9_method_9_code
def yX7_plays : MethodName := ⟨RX7, "plays", "(I)Z"⟩
abbrev cX7_begin : ByteArray := prog_9_method_10_code
def yX7_begin : MethodName := ⟨RX7, "begin", "(I)V"⟩
abbrev cX7_setFill : ByteArray := prog_9_method_11_code
def yX7_setFill : MethodName := ⟨RX7, "setFill", "(I)I"⟩
abbrev cX7_setPatience : ByteArray := prog_9_method_12_code
def yX7_setPatience : MethodName := ⟨RX7, "setPatience", "(I)I"⟩
abbrev cX7_hasFinished : ByteArray := prog_9_method_13_code
def yX7_hasFinished : MethodName := ⟨RX7, "hasFinished", "(I)Z"⟩
abbrev cX7_ownIn : ByteArray := prog_9_method_14_code
def yX7_ownIn : MethodName := ⟨RX7, "ownIn", "(II)I"⟩
abbrev cX7_isFull : ByteArray := prog_9_method_15_code
def yX7_isFull : MethodName := ⟨RX7, "isFull", "(I)Z"⟩
abbrev cX7_finishes : ByteArray := prog_9_method_16_code
def yX7_finishes : MethodName := ⟨RX7, "finishes", "()V"⟩
abbrev cX7_turns : ByteArray := prog_9_method_17_code
def yX7_turns : MethodName := ⟨RX7, "turns", "()V"⟩
abbrev cX7_notes : ByteArray := prog_9_method_18_code
def yX7_notes : MethodName := ⟨RX7, "notes", "(II)V"⟩
abbrev cX7_move : ByteArray := prog_9_method_19_code
def yX7_move : MethodName := ⟨RX7, "move", "(II)I"⟩
abbrev cX7_pass : ByteArray := prog_9_method_20_code
def yX7_pass : MethodName := ⟨RX7, "pass", "()V"⟩
abbrev cX7_undo : ByteArray := prog_9_method_21_code
def yX7_undo : MethodName := ⟨RX7, "undo", "()I"⟩
abbrev cX7_at : ByteArray := prog_9_method_22_code
def yX7_at : MethodName := ⟨RX7, "at", "(I)I"⟩
abbrev cX7_cellAt : ByteArray := prog_9_method_23_code
def yX7_cellAt : MethodName := ⟨RX7, "cellAt", "(II)I"⟩
abbrev cX7_campOf : ByteArray := prog_9_method_24_code
def yX7_campOf : MethodName := ⟨RX7, "campOf", "(I)I"⟩
abbrev cX7_areCells : ByteArray := prog_9_method_25_code
def yX7_areCells : MethodName := ⟨RX7, "areCells", "(II)Z"⟩
abbrev cX7_distance : ByteArray := prog_9_method_26_code
def yX7_distance : MethodName := ⟨RX7, "distance", "(II)I"⟩
abbrev cX7_behind : ByteArray := prog_9_method_27_code
def yX7_behind : MethodName := ⟨RX7, "behind", "(III)I"⟩
abbrev cX7_hopsFrom : ByteArray := prog_9_method_28_code
def yX7_hopsFrom : MethodName := ⟨RX7, "hopsFrom", "(II)V"⟩
abbrev cX7_isNext : ByteArray := prog_9_method_29_code
def yX7_isNext : MethodName := ⟨RX7, "isNext", "(II)Z"⟩
abbrev cX7_mayEnd : ByteArray := prog_9_method_30_code
def yX7_mayEnd : MethodName := ⟨RX7, "mayEnd", "(II)Z"⟩
abbrev cX7_endsOf : ByteArray := prog_9_method_31_code
def yX7_endsOf : MethodName := ⟨RX7, "endsOf", "(I)I"⟩
abbrev cX7_hopsOf : ByteArray := prog_9_method_32_code
def yX7_hopsOf : MethodName := ⟨RX7, "hopsOf", "(II)I"⟩
abbrev cX7_allMoves : ByteArray := prog_9_method_33_code
def yX7_allMoves : MethodName := ⟨RX7, "allMoves", "()I"⟩
abbrev cX7_turn : ByteArray := prog_9_method_34_code
def yX7_turn : MethodName := ⟨RX7, "turn", "()I"⟩
abbrev cX7_made : ByteArray := prog_9_method_35_code
def yX7_made : MethodName := ⟨RX7, "made", "()I"⟩
abbrev cX7_ends : ByteArray := prog_9_method_36_code
def yX7_ends : MethodName := ⟨RX7, "ends", "(I)I"⟩
abbrev cX7_endAt : ByteArray := prog_9_method_37_code
def yX7_endAt : MethodName := ⟨RX7, "endAt", "(II)I"⟩
abbrev cX7_moves : ByteArray := prog_9_method_38_code
def yX7_moves : MethodName := ⟨RX7, "moves", "()I"⟩
abbrev cX7_chainAt : ByteArray := prog_9_method_39_code
def yX7_chainAt : MethodName := ⟨RX7, "chainAt", "(III)I"⟩
abbrev cX7_hops : ByteArray := prog_9_method_40_code
def yX7_hops : MethodName := ⟨RX7, "hops", "(II)I"⟩
abbrev cX7_finished : ByteArray := prog_9_method_41_code
def yX7_finished : MethodName := ⟨RX7, "finished", "(I)I"⟩
abbrev cX7_isOut : ByteArray := prog_9_method_42_code
def yX7_isOut : MethodName := ⟨RX7, "isOut", "(I)Z"⟩
abbrev cX7_wayOf : ByteArray := prog_9_method_43_code
def yX7_wayOf : MethodName := ⟨RX7, "wayOf", "(I)I"⟩
abbrev cX7_way : ByteArray := prog_9_method_44_code
def yX7_way : MethodName := ⟨RX7, "way", "(I)I"⟩
abbrev cX7_best : ByteArray := prog_9_method_45_code
def yX7_best : MethodName := ⟨RX7, "best", "()I"⟩
abbrev cX7_bestFrom : ByteArray := prog_9_method_46_code
def yX7_bestFrom : MethodName := ⟨RX7, "bestFrom", "()I"⟩
abbrev cX7_bestTo : ByteArray := prog_9_method_47_code
def yX7_bestTo : MethodName := ⟨RX7, "bestTo", "()I"⟩
def RJ6 : String := "java/lang/Integer"
def TJ6 : u_T := fun k => match k with
  | _ => ("", "", "", false)
def tyJ6 : Nat → FieldType := fun k => match k with
  | _ => .int
abbrev wsJ60 : List Cond := u_ws RJ6 TJ6 0
theorem nmJ6 : ∀ a, a < 0 → ∀ b, b < 0 → a ≠ b → (TJ6 a).2.1 ≠ (TJ6 b).2.1 := by decide +kernel
theorem tyJ6_ok : ∀ k, k < 0 → parseFieldDescriptor (TJ6 k).2.2.1 = some (tyJ6 k) := by decide +kernel
abbrev cJ6_bitCount_0f7a4 : ByteArray := prog_14_method_49_code
def yJ6_bitCount_0f7a4 : MethodName := ⟨RJ6, "bitCount", "(I)I"⟩
def RJ9 : String := "java/lang/Math"
def TJ9 : u_T := fun k => match k with
  | _ => ("", "", "", false)
def tyJ9 : Nat → FieldType := fun k => match k with
  | _ => .int
abbrev wsJ90 : List Cond := u_ws RJ9 TJ9 0
theorem nmJ9 : ∀ a, a < 0 → ∀ b, b < 0 → a ≠ b → (TJ9 a).2.1 ≠ (TJ9 b).2.1 := by decide +kernel
theorem tyJ9_ok : ∀ k, k < 0 → parseFieldDescriptor (TJ9 k).2.2.1 = some (tyJ9 k) := by decide +kernel
abbrev cJ9_abs_0f7a4 : ByteArray := prog_15_method_59_code
def yJ9_abs_0f7a4 : MethodName := ⟨RJ9, "abs", "(I)I"⟩
abbrev cJ9_max_7cf53 : ByteArray := prog_15_method_65_code
def yJ9_max_7cf53 : MethodName := ⟨RJ9, "max", "(II)I"⟩
abbrev cJ9_min_7cf53 : ByteArray := prog_15_method_69_code
def yJ9_min_7cf53 : MethodName := ⟨RJ9, "min", "(II)I"⟩
def RJ0 : String := "java/lang/String"
def TJ0 : u_T := fun k => match k with
  | _ => ("", "", "", false)
def tyJ0 : Nat → FieldType := fun k => match k with
  | _ => .int
abbrev wsJ00 : List Cond := u_ws RJ0 TJ0 0
theorem nmJ0 : ∀ a, a < 0 → ∀ b, b < 0 → a ≠ b → (TJ0 a).2.1 ≠ (TJ0 b).2.1 := by decide +kernel
theorem tyJ0_ok : ∀ k, k < 0 → parseFieldDescriptor (TJ0 k).2.2.1 = some (tyJ0 k) := by decide +kernel
def RL : String := "HopperCourtLaw"
abbrev cL_begin : ByteArray := method_3_code
def yL_begin : MethodName := ⟨RL, "begin", "(LHopperCourt;I)I"⟩
abbrev cL_setFill : ByteArray := method_4_code
def yL_setFill : MethodName := ⟨RL, "setFill", "(LHopperCourt;I[J)I"⟩
abbrev cL_setPatience : ByteArray := method_5_code
def yL_setPatience : MethodName := ⟨RL, "setPatience", "(LHopperCourt;I[J)I"⟩
abbrev cL_move : ByteArray := method_6_code
def yL_move : MethodName := ⟨RL, "move", "(LHopperCourt;II[J)I"⟩
abbrev cL_pass : ByteArray := method_7_code
def yL_pass : MethodName := ⟨RL, "pass", "(LHopperCourt;)I"⟩
abbrev cL_undo : ByteArray := method_8_code
def yL_undo : MethodName := ⟨RL, "undo", "(LHopperCourt;[J)I"⟩
abbrev cL_at : ByteArray := method_9_code
def yL_at : MethodName := ⟨RL, "at", "(LHopperCourt;I[J)I"⟩
abbrev cL_campOf : ByteArray := method_10_code
def yL_campOf : MethodName := ⟨RL, "campOf", "(LHopperCourt;I[J)I"⟩
abbrev cL_distance : ByteArray := method_11_code
def yL_distance : MethodName := ⟨RL, "distance", "(LHopperCourt;II[J)I"⟩
abbrev cL_ends : ByteArray := method_12_code
def yL_ends : MethodName := ⟨RL, "ends", "(LHopperCourt;I[J)I"⟩
abbrev cL_endAt : ByteArray := method_13_code
def yL_endAt : MethodName := ⟨RL, "endAt", "(LHopperCourt;II[J)I"⟩
abbrev cL_chainAt : ByteArray := method_14_code
def yL_chainAt : MethodName := ⟨RL, "chainAt", "(LHopperCourt;III[J)I"⟩
abbrev cL_hops : ByteArray := method_15_code
def yL_hops : MethodName := ⟨RL, "hops", "(LHopperCourt;II[J)I"⟩
abbrev cL_finished : ByteArray := method_16_code
def yL_finished : MethodName := ⟨RL, "finished", "(LHopperCourt;I[J)I"⟩
abbrev cL_isOut : ByteArray := method_17_code
def yL_isOut : MethodName := ⟨RL, "isOut", "(LHopperCourt;I[J)I"⟩
abbrev cL_way : ByteArray := method_18_code
def yL_way : MethodName := ⟨RL, "way", "(LHopperCourt;I[J)I"⟩
abbrev cL_law : ByteArray := code
def yL_law : MethodName := ⟨RL, "law", "([I)Z"⟩
def wsX0_init : List Cond := .code yX0_init cX0_init 1 none :: ([.methodLink RX0 3 objectInit, .instanceMethod objectInit, .code objectInit ⟨#[0xb1]⟩ 1 none, .arrayClass .int, .fieldLink RX0 9 "HopperCourt$Log" "froms" "[I", .fieldLink RX0 15 "HopperCourt$Log" "tos" "[I", .fieldLink RX0 18 "HopperCourt$Log" "turns" "[I", .fieldLink RX0 21 "HopperCourt$Log" "outs" "[I", .fieldLink RX0 24 "HopperCourt$Log" "placeds" "[I"] ++ wsX00)
def wsX0_size : List Cond := .code yX0_size cX0_size 1 (some .int) :: ([.fieldLink RX0 27 "HopperCourt$Log" "size" "I"] ++ wsX00)
def wsX0_clear : List Cond := .code yX0_clear cX0_clear 1 none :: ([.fieldLink RX0 27 "HopperCourt$Log" "size" "I"] ++ wsX00)
def wsX4_onTurn : List Cond := .code yX4_onTurn cX4_onTurn 1 (some .int) :: ([.fieldLink RX4 22 "HopperCourt$Seats" "turn" "I"] ++ wsX40)
def wsX4_outSet : List Cond := .code yX4_outSet cX4_outSet 1 (some .int) :: ([.fieldLink RX4 29 "HopperCourt$Seats" "out" "I"] ++ wsX40)
def wsX4_placedCount : List Cond := .code yX4_placedCount cX4_placedCount 1 (some .int) :: ([.fieldLink RX4 32 "HopperCourt$Seats" "placed" "I"] ++ wsX40)
def wsX0_add : List Cond := .code yX0_add cX0_add 4 none :: ([.fieldLink RX0 27 "HopperCourt$Log" "size" "I", .fieldLink RX0 9 "HopperCourt$Log" "froms" "[I", .fieldLink RX0 15 "HopperCourt$Log" "tos" "[I", .fieldLink RX0 18 "HopperCourt$Log" "turns" "[I", .fieldLink RX0 21 "HopperCourt$Log" "outs" "[I", .fieldLink RX0 24 "HopperCourt$Log" "placeds" "[I", .methodLink RX0 31 yX4_onTurn, .instanceMethod yX4_onTurn, .selects RX4 yX4_onTurn yX4_onTurn, .initialized RX4, .code yX4_onTurn cX4_onTurn 1 (some .int), .fieldLink RX4 22 "HopperCourt$Seats" "turn" "I", .methodLink RX0 37 yX4_outSet, .instanceMethod yX4_outSet, .selects RX4 yX4_outSet yX4_outSet, .code yX4_outSet cX4_outSet 1 (some .int), .fieldLink RX4 29 "HopperCourt$Seats" "out" "I", .methodLink RX0 40 yX4_placedCount, .instanceMethod yX4_placedCount, .selects RX4 yX4_placedCount yX4_placedCount, .code yX4_placedCount cX4_placedCount 1 (some .int), .fieldLink RX4 32 "HopperCourt$Seats" "placed" "I"] ++ wsX00 ++ wsX40)
def wsX6_isCell : List Cond := .code yX6_isCell cX6_isCell 1 (some .boolean) :: ([])
def wsX1_carry : List Cond := .code yX1_carry cX1_carry 3 none :: ([.fieldLink RX1 9 "HopperCourt$Marbles" "owners" "[I", .static yX6_isCell, .initialized RX6, .code yX6_isCell cX6_isCell 1 (some .boolean)] ++ wsX10)
def wsX6_isCamp : List Cond := .code yX6_isCamp cX6_isCamp 1 (some .boolean) :: ([])
def wsX4_restore : List Cond := .code yX4_restore cX4_restore 4 none :: ([.fieldLink RX4 22 "HopperCourt$Seats" "turn" "I", .fieldLink RX4 29 "HopperCourt$Seats" "out" "I", .fieldLink RX4 32 "HopperCourt$Seats" "placed" "I", .fieldLink RX4 9 "HopperCourt$Seats" "madeBy" "[I", .static yX6_isCamp, .initialized RX6, .code yX6_isCamp cX6_isCamp 1 (some .boolean)] ++ wsX40)
def wsX0_takeBack_r1 : List Cond := [Cond.fieldLink RX0 27 "HopperCourt$Log" "size" "I", Cond.fieldLink RX0 15 "HopperCourt$Log" "tos" "[I", Cond.fieldLink RX0 9 "HopperCourt$Log" "froms" "[I", Cond.fieldLink RX0 18 "HopperCourt$Log" "turns" "[I", Cond.fieldLink RX0 21 "HopperCourt$Log" "outs" "[I", Cond.fieldLink RX0 24 "HopperCourt$Log" "placeds" "[I", Cond.methodLink RX0 43 yX1_carry, Cond.instanceMethod yX1_carry, Cond.selects RX1 yX1_carry yX1_carry, Cond.initialized RX1, Cond.code yX1_carry cX1_carry 3 none, Cond.fieldLink RX1 9 "HopperCourt$Marbles" "owners" "[I", Cond.static yX6_isCell, Cond.initialized RX6, Cond.code yX6_isCell cX6_isCell 1 (some .boolean), Cond.methodLink RX0 49 yX4_restore, Cond.instanceMethod yX4_restore, Cond.selects RX4 yX4_restore yX4_restore, Cond.initialized RX4, Cond.code yX4_restore cX4_restore 4 none, Cond.fieldLink RX4 22 "HopperCourt$Seats" "turn" "I", Cond.fieldLink RX4 29 "HopperCourt$Seats" "out" "I", Cond.fieldLink RX4 32 "HopperCourt$Seats" "placed" "I", Cond.fieldLink RX4 9 "HopperCourt$Seats" "madeBy" "[I"]
def wsX0_takeBack_r2 : List Cond := [Cond.static yX6_isCamp, Cond.code yX6_isCamp cX6_isCamp 1 (some .boolean)]
def wsX0_takeBack : List Cond := .code yX0_takeBack cX0_takeBack 3 none :: ((wsX0_takeBack_r1 ++ wsX0_takeBack_r2) ++ wsX00 ++ wsX10 ++ wsX40)
def wsX5_camp : List Cond := .code yX5_camp cX5_camp 2 (some .int) :: ([.fieldLink RX5 18 "HopperCourt$Star" "camps" "[I", .static yX6_isCell, .initialized RX6, .code yX6_isCell cX6_isCell 1 (some .boolean)] ++ wsX50)
def wsX1_setUp : List Cond := .code yX1_setUp cX1_setUp 4 none :: ([.fieldLink RX1 15 "HopperCourt$Marbles" "star" "LHopperCourt$Star;", .fieldLink RX1 9 "HopperCourt$Marbles" "owners" "[I", .methodLink RX1 23 yX5_camp, .instanceMethod yX5_camp, .selects RX5 yX5_camp yX5_camp, .initialized RX5, .code yX5_camp cX5_camp 2 (some .int), .fieldLink RX5 18 "HopperCourt$Star" "camps" "[I", .static yX6_isCell, .initialized RX6, .code yX6_isCell cX6_isCell 1 (some .boolean)] ++ wsX10 ++ wsX50)
def wsX1_init : List Cond := .code yX1_init cX1_init 2 none :: ([.methodLink RX1 3 objectInit, .instanceMethod objectInit, .code objectInit ⟨#[0xb1]⟩ 1 none, .arrayClass .int, .fieldLink RX1 9 "HopperCourt$Marbles" "owners" "[I", .fieldLink RX1 15 "HopperCourt$Marbles" "star" "LHopperCourt$Star;", .methodLink RX1 19 yX1_setUp, .instanceMethod yX1_setUp, .selects RX1 yX1_setUp yX1_setUp, .initialized RX1, .code yX1_setUp cX1_setUp 4 none, .methodLink RX1 23 yX5_camp, .instanceMethod yX5_camp, .selects RX5 yX5_camp yX5_camp, .initialized RX5, .code yX5_camp cX5_camp 2 (some .int), .fieldLink RX5 18 "HopperCourt$Star" "camps" "[I", .static yX6_isCell, .initialized RX6, .code yX6_isCell cX6_isCell 1 (some .boolean)] ++ wsX10 ++ wsX50)
def wsX1_owner : List Cond := .code yX1_owner cX1_owner 2 (some .int) :: ([.fieldLink RX1 9 "HopperCourt$Marbles" "owners" "[I", .static yX6_isCell, .initialized RX6, .code yX6_isCell cX6_isCell 1 (some .boolean)] ++ wsX10)
def wsX1_isEmpty : List Cond := .code yX1_isEmpty cX1_isEmpty 2 (some .boolean) :: ([.fieldLink RX1 9 "HopperCourt$Marbles" "owners" "[I", .static yX6_isCell, .initialized RX6, .code yX6_isCell cX6_isCell 1 (some .boolean)] ++ wsX10)
def wsX1_countInCamp : List Cond := .code yX1_countInCamp cX1_countInCamp 5 (some .int) :: ([.fieldLink RX1 15 "HopperCourt$Marbles" "star" "LHopperCourt$Star;", .fieldLink RX1 9 "HopperCourt$Marbles" "owners" "[I", .methodLink RX1 23 yX5_camp, .instanceMethod yX5_camp, .selects RX5 yX5_camp yX5_camp, .initialized RX5, .code yX5_camp cX5_camp 2 (some .int), .fieldLink RX5 18 "HopperCourt$Star" "camps" "[I", .static yX6_isCell, .initialized RX6, .code yX6_isCell cX6_isCell 1 (some .boolean)] ++ wsX10 ++ wsX50)
def wsX2_init : List Cond := .code yX2_init cX2_init 3 none :: ([.methodLink RX2 3 objectInit, .instanceMethod objectInit, .code objectInit ⟨#[0xb1]⟩ 1 none, .arrayClass .int, .fieldLink RX2 9 "HopperCourt$Pairing" "marbleCells" "[I", .fieldLink RX2 15 "HopperCourt$Pairing" "goalCells" "[I", .fieldLink RX2 18 "HopperCourt$Pairing" "steps" "[I", .fieldLink RX2 21 "HopperCourt$Pairing" "firstSums" "[I", .fieldLink RX2 24 "HopperCourt$Pairing" "lastSums" "[I", .fieldLink RX2 27 "HopperCourt$Pairing" "otherSums" "[I", .fieldLink RX2 30 "HopperCourt$Pairing" "star" "LHopperCourt$Star;", .fieldLink RX2 34 "HopperCourt$Pairing" "marbles" "LHopperCourt$Marbles;"] ++ wsX20)
def wsX6_goalOf : List Cond := .code yX6_goalOf cX6_goalOf 1 (some .int) :: ([])
def wsX2_collect : List Cond := .code yX2_collect cX2_collect 6 none :: ([.fieldLink RX2 34 "HopperCourt$Pairing" "marbles" "LHopperCourt$Marbles;", .fieldLink RX2 9 "HopperCourt$Pairing" "marbleCells" "[I", .fieldLink RX2 30 "HopperCourt$Pairing" "star" "LHopperCourt$Star;", .fieldLink RX2 15 "HopperCourt$Pairing" "goalCells" "[I", .static yX6_goalOf, .initialized RX6, .code yX6_goalOf cX6_goalOf 1 (some .int), .methodLink RX2 71 yX1_owner, .instanceMethod yX1_owner, .selects RX1 yX1_owner yX1_owner, .initialized RX1, .code yX1_owner cX1_owner 2 (some .int), .fieldLink RX1 9 "HopperCourt$Marbles" "owners" "[I", .static yX6_isCell, .code yX6_isCell cX6_isCell 1 (some .boolean), .methodLink RX2 76 yX5_camp, .instanceMethod yX5_camp, .selects RX5 yX5_camp yX5_camp, .initialized RX5, .code yX5_camp cX5_camp 2 (some .int), .fieldLink RX5 18 "HopperCourt$Star" "camps" "[I"] ++ wsX20 ++ wsX10 ++ wsX50)
def wsX5_steps : List Cond := .code yX5_steps cX5_steps 5 (some .int) :: ([.fieldLink RX5 9 "HopperCourt$Star" "rows" "[I", .methodLink RX5 47 Lib.Math.abs.name, .static Lib.Math.abs.name, .initialized "java/lang/Math", .code Lib.Math.abs.name Lib.Math.abs.code 1 (some .int), .fieldLink RX5 15 "HopperCourt$Star" "columns" "[I", .methodLink RX5 53 Lib.Math.max.name, .static Lib.Math.max.name, .code Lib.Math.max.name Lib.Math.max.code 2 (some .int), .static yX6_isCell, .initialized RX6, .code yX6_isCell cX6_isCell 1 (some .boolean)] ++ wsX50)
def wsX2_measure_r1 : List Cond := [Cond.fieldLink RX2 18 "HopperCourt$Pairing" "steps" "[I", Cond.fieldLink RX2 30 "HopperCourt$Pairing" "star" "LHopperCourt$Star;", Cond.fieldLink RX2 9 "HopperCourt$Pairing" "marbleCells" "[I", Cond.fieldLink RX2 15 "HopperCourt$Pairing" "goalCells" "[I", Cond.methodLink RX2 65 yX2_collect, Cond.instanceMethod yX2_collect, Cond.selects RX2 yX2_collect yX2_collect, Cond.initialized RX2, Cond.code yX2_collect cX2_collect 6 none, Cond.fieldLink RX2 34 "HopperCourt$Pairing" "marbles" "LHopperCourt$Marbles;", Cond.static yX6_goalOf, Cond.initialized RX6, Cond.code yX6_goalOf cX6_goalOf 1 (some .int), Cond.methodLink RX2 71 yX1_owner, Cond.instanceMethod yX1_owner, Cond.selects RX1 yX1_owner yX1_owner, Cond.initialized RX1, Cond.code yX1_owner cX1_owner 2 (some .int), Cond.fieldLink RX1 9 "HopperCourt$Marbles" "owners" "[I", Cond.static yX6_isCell, Cond.code yX6_isCell cX6_isCell 1 (some .boolean), Cond.methodLink RX2 76 yX5_camp, Cond.instanceMethod yX5_camp, Cond.selects RX5 yX5_camp yX5_camp]
def wsX2_measure_r2 : List Cond := [Cond.initialized RX5, Cond.code yX5_camp cX5_camp 2 (some .int), Cond.fieldLink RX5 18 "HopperCourt$Star" "camps" "[I", Cond.methodLink RX2 61 yX5_steps, Cond.instanceMethod yX5_steps, Cond.selects RX5 yX5_steps yX5_steps, Cond.code yX5_steps cX5_steps 5 (some .int), Cond.fieldLink RX5 9 "HopperCourt$Star" "rows" "[I", Cond.methodLink RX5 47 Lib.Math.abs.name, Cond.static Lib.Math.abs.name, Cond.initialized "java/lang/Math", Cond.code Lib.Math.abs.name Lib.Math.abs.code 1 (some .int), Cond.fieldLink RX5 15 "HopperCourt$Star" "columns" "[I", Cond.methodLink RX5 53 Lib.Math.max.name, Cond.static Lib.Math.max.name, Cond.code Lib.Math.max.name Lib.Math.max.code 2 (some .int)]
def wsX2_measure : List Cond := .code yX2_measure cX2_measure 4 none :: ((wsX2_measure_r1 ++ wsX2_measure_r2) ++ wsX20 ++ wsX10 ++ wsX50)
def wsJ6_bitCount_0f7a4 : List Cond := .code yJ6_bitCount_0f7a4 cJ6_bitCount_0f7a4 1 (some .int) :: ([.constant RJ6 265 (1431655765), .constant RJ6 266 (858993459), .constant RJ6 267 (252645135)])
def wsX2_leastWith : List Cond := .code yX2_leastWith cX2_leastWith 7 (some .int) :: ([.constant RX2 50 (2147483647), .fieldLink RX2 18 "HopperCourt$Pairing" "steps" "[I", .methodLink RX2 55 Lib.Math.min.name, .static Lib.Math.min.name, .initialized "java/lang/Math", .code Lib.Math.min.name Lib.Math.min.code 2 (some .int)] ++ wsX20)
def wsX2_sumFirst : List Cond := .code yX2_sumFirst cX2_sumFirst 2 none :: ([.fieldLink RX2 21 "HopperCourt$Pairing" "firstSums" "[I", .methodLink RX2 51 yJ6_bitCount_0f7a4, .static yJ6_bitCount_0f7a4, .initialized RJ6, .code yJ6_bitCount_0f7a4 cJ6_bitCount_0f7a4 1 (some .int), .constant RJ6 265 (1431655765), .constant RJ6 266 (858993459), .constant RJ6 267 (252645135), .methodLink RX2 79 yX2_leastWith, .instanceMethod yX2_leastWith, .selects RX2 yX2_leastWith yX2_leastWith, .initialized RX2, .code yX2_leastWith cX2_leastWith 7 (some .int), .constant RX2 50 (2147483647), .fieldLink RX2 18 "HopperCourt$Pairing" "steps" "[I", .methodLink RX2 55 Lib.Math.min.name, .static Lib.Math.min.name, .initialized "java/lang/Math", .code Lib.Math.min.name Lib.Math.min.code 2 (some .int)] ++ wsX20)
def wsX2_leastSum_r1 : List Cond := [Cond.fieldLink RX2 21 "HopperCourt$Pairing" "firstSums" "[I", Cond.methodLink RX2 38 yX2_measure, Cond.instanceMethod yX2_measure, Cond.selects RX2 yX2_measure yX2_measure, Cond.initialized RX2, Cond.code yX2_measure cX2_measure 4 none, Cond.fieldLink RX2 18 "HopperCourt$Pairing" "steps" "[I", Cond.fieldLink RX2 30 "HopperCourt$Pairing" "star" "LHopperCourt$Star;", Cond.fieldLink RX2 9 "HopperCourt$Pairing" "marbleCells" "[I", Cond.fieldLink RX2 15 "HopperCourt$Pairing" "goalCells" "[I", Cond.methodLink RX2 65 yX2_collect, Cond.instanceMethod yX2_collect, Cond.selects RX2 yX2_collect yX2_collect, Cond.code yX2_collect cX2_collect 6 none, Cond.fieldLink RX2 34 "HopperCourt$Pairing" "marbles" "LHopperCourt$Marbles;", Cond.static yX6_goalOf, Cond.initialized RX6, Cond.code yX6_goalOf cX6_goalOf 1 (some .int), Cond.methodLink RX2 71 yX1_owner, Cond.instanceMethod yX1_owner, Cond.selects RX1 yX1_owner yX1_owner, Cond.initialized RX1, Cond.code yX1_owner cX1_owner 2 (some .int), Cond.fieldLink RX1 9 "HopperCourt$Marbles" "owners" "[I"]
def wsX2_leastSum_r2 : List Cond := [Cond.static yX6_isCell, Cond.code yX6_isCell cX6_isCell 1 (some .boolean), Cond.methodLink RX2 76 yX5_camp, Cond.instanceMethod yX5_camp, Cond.selects RX5 yX5_camp yX5_camp, Cond.initialized RX5, Cond.code yX5_camp cX5_camp 2 (some .int), Cond.fieldLink RX5 18 "HopperCourt$Star" "camps" "[I", Cond.methodLink RX2 61 yX5_steps, Cond.instanceMethod yX5_steps, Cond.selects RX5 yX5_steps yX5_steps, Cond.code yX5_steps cX5_steps 5 (some .int), Cond.fieldLink RX5 9 "HopperCourt$Star" "rows" "[I", Cond.methodLink RX5 47 Lib.Math.abs.name, Cond.static Lib.Math.abs.name, Cond.initialized "java/lang/Math", Cond.code Lib.Math.abs.name Lib.Math.abs.code 1 (some .int), Cond.fieldLink RX5 15 "HopperCourt$Star" "columns" "[I", Cond.methodLink RX5 53 Lib.Math.max.name, Cond.static Lib.Math.max.name, Cond.code Lib.Math.max.name Lib.Math.max.code 2 (some .int), Cond.methodLink RX2 42 yX2_sumFirst, Cond.instanceMethod yX2_sumFirst, Cond.selects RX2 yX2_sumFirst yX2_sumFirst]
def wsX2_leastSum_r3 : List Cond := [Cond.code yX2_sumFirst cX2_sumFirst 2 none, Cond.methodLink RX2 51 yJ6_bitCount_0f7a4, Cond.static yJ6_bitCount_0f7a4, Cond.initialized RJ6, Cond.code yJ6_bitCount_0f7a4 cJ6_bitCount_0f7a4 1 (some .int), Cond.constant RJ6 265 (1431655765), Cond.constant RJ6 266 (858993459), Cond.constant RJ6 267 (252645135), Cond.methodLink RX2 79 yX2_leastWith, Cond.instanceMethod yX2_leastWith, Cond.selects RX2 yX2_leastWith yX2_leastWith, Cond.code yX2_leastWith cX2_leastWith 7 (some .int), Cond.constant RX2 50 (2147483647), Cond.methodLink RX2 55 Lib.Math.min.name, Cond.static Lib.Math.min.name, Cond.code Lib.Math.min.name Lib.Math.min.code 2 (some .int)]
def wsX2_leastSum : List Cond := .code yX2_leastSum cX2_leastSum 2 (some .int) :: ((wsX2_leastSum_r1 ++ (wsX2_leastSum_r2 ++ wsX2_leastSum_r3)) ++ wsX20 ++ wsX10 ++ wsX50)
def wsX2_sumLast : List Cond := .code yX2_sumLast cX2_sumLast 2 none :: ([.fieldLink RX2 24 "HopperCourt$Pairing" "lastSums" "[I", .methodLink RX2 51 yJ6_bitCount_0f7a4, .static yJ6_bitCount_0f7a4, .initialized RJ6, .code yJ6_bitCount_0f7a4 cJ6_bitCount_0f7a4 1 (some .int), .constant RJ6 265 (1431655765), .constant RJ6 266 (858993459), .constant RJ6 267 (252645135), .methodLink RX2 79 yX2_leastWith, .instanceMethod yX2_leastWith, .selects RX2 yX2_leastWith yX2_leastWith, .initialized RX2, .code yX2_leastWith cX2_leastWith 7 (some .int), .constant RX2 50 (2147483647), .fieldLink RX2 18 "HopperCourt$Pairing" "steps" "[I", .methodLink RX2 55 Lib.Math.min.name, .static Lib.Math.min.name, .initialized "java/lang/Math", .code Lib.Math.min.name Lib.Math.min.code 2 (some .int)] ++ wsX20)
def wsX2_weighAllButOne_r1 : List Cond := [Cond.fieldLink RX2 27 "HopperCourt$Pairing" "otherSums" "[I", Cond.constant RX2 50 (2147483647), Cond.fieldLink RX2 21 "HopperCourt$Pairing" "firstSums" "[I", Cond.fieldLink RX2 24 "HopperCourt$Pairing" "lastSums" "[I", Cond.methodLink RX2 55 Lib.Math.min.name, Cond.static Lib.Math.min.name, Cond.initialized "java/lang/Math", Cond.code Lib.Math.min.name Lib.Math.min.code 2 (some .int), Cond.methodLink RX2 38 yX2_measure, Cond.instanceMethod yX2_measure, Cond.selects RX2 yX2_measure yX2_measure, Cond.initialized RX2, Cond.code yX2_measure cX2_measure 4 none, Cond.fieldLink RX2 18 "HopperCourt$Pairing" "steps" "[I", Cond.fieldLink RX2 30 "HopperCourt$Pairing" "star" "LHopperCourt$Star;", Cond.fieldLink RX2 9 "HopperCourt$Pairing" "marbleCells" "[I", Cond.fieldLink RX2 15 "HopperCourt$Pairing" "goalCells" "[I", Cond.methodLink RX2 65 yX2_collect, Cond.instanceMethod yX2_collect, Cond.selects RX2 yX2_collect yX2_collect, Cond.code yX2_collect cX2_collect 6 none, Cond.fieldLink RX2 34 "HopperCourt$Pairing" "marbles" "LHopperCourt$Marbles;", Cond.static yX6_goalOf, Cond.initialized RX6]
def wsX2_weighAllButOne_r2 : List Cond := [Cond.code yX6_goalOf cX6_goalOf 1 (some .int), Cond.methodLink RX2 71 yX1_owner, Cond.instanceMethod yX1_owner, Cond.selects RX1 yX1_owner yX1_owner, Cond.initialized RX1, Cond.code yX1_owner cX1_owner 2 (some .int), Cond.fieldLink RX1 9 "HopperCourt$Marbles" "owners" "[I", Cond.static yX6_isCell, Cond.code yX6_isCell cX6_isCell 1 (some .boolean), Cond.methodLink RX2 76 yX5_camp, Cond.instanceMethod yX5_camp, Cond.selects RX5 yX5_camp yX5_camp, Cond.initialized RX5, Cond.code yX5_camp cX5_camp 2 (some .int), Cond.fieldLink RX5 18 "HopperCourt$Star" "camps" "[I", Cond.methodLink RX2 61 yX5_steps, Cond.instanceMethod yX5_steps, Cond.selects RX5 yX5_steps yX5_steps, Cond.code yX5_steps cX5_steps 5 (some .int), Cond.fieldLink RX5 9 "HopperCourt$Star" "rows" "[I", Cond.methodLink RX5 47 Lib.Math.abs.name, Cond.static Lib.Math.abs.name, Cond.code Lib.Math.abs.name Lib.Math.abs.code 1 (some .int), Cond.fieldLink RX5 15 "HopperCourt$Star" "columns" "[I"]
def wsX2_weighAllButOne_r3 : List Cond := [Cond.methodLink RX5 53 Lib.Math.max.name, Cond.static Lib.Math.max.name, Cond.code Lib.Math.max.name Lib.Math.max.code 2 (some .int), Cond.methodLink RX2 42 yX2_sumFirst, Cond.instanceMethod yX2_sumFirst, Cond.selects RX2 yX2_sumFirst yX2_sumFirst, Cond.code yX2_sumFirst cX2_sumFirst 2 none, Cond.methodLink RX2 51 yJ6_bitCount_0f7a4, Cond.static yJ6_bitCount_0f7a4, Cond.initialized RJ6, Cond.code yJ6_bitCount_0f7a4 cJ6_bitCount_0f7a4 1 (some .int), Cond.constant RJ6 265 (1431655765), Cond.constant RJ6 266 (858993459), Cond.constant RJ6 267 (252645135), Cond.methodLink RX2 79 yX2_leastWith, Cond.instanceMethod yX2_leastWith, Cond.selects RX2 yX2_leastWith yX2_leastWith, Cond.code yX2_leastWith cX2_leastWith 7 (some .int), Cond.methodLink RX2 45 yX2_sumLast, Cond.instanceMethod yX2_sumLast, Cond.selects RX2 yX2_sumLast yX2_sumLast, Cond.code yX2_sumLast cX2_sumLast 2 none]
def wsX2_weighAllButOne : List Cond := .code yX2_weighAllButOne cX2_weighAllButOne 7 none :: ((wsX2_weighAllButOne_r1 ++ (wsX2_weighAllButOne_r2 ++ wsX2_weighAllButOne_r3)) ++ wsX20 ++ wsX10 ++ wsX50)
def wsX2_sumWith : List Cond := .code yX2_sumWith cX2_sumWith 6 (some .int) :: ([.constant RX2 50 (2147483647), .fieldLink RX2 27 "HopperCourt$Pairing" "otherSums" "[I", .fieldLink RX2 30 "HopperCourt$Pairing" "star" "LHopperCourt$Star;", .fieldLink RX2 15 "HopperCourt$Pairing" "goalCells" "[I", .methodLink RX2 55 Lib.Math.min.name, .static Lib.Math.min.name, .initialized "java/lang/Math", .code Lib.Math.min.name Lib.Math.min.code 2 (some .int), .methodLink RX2 61 yX5_steps, .instanceMethod yX5_steps, .selects RX5 yX5_steps yX5_steps, .initialized RX5, .code yX5_steps cX5_steps 5 (some .int), .fieldLink RX5 9 "HopperCourt$Star" "rows" "[I", .methodLink RX5 47 Lib.Math.abs.name, .static Lib.Math.abs.name, .code Lib.Math.abs.name Lib.Math.abs.code 1 (some .int), .fieldLink RX5 15 "HopperCourt$Star" "columns" "[I", .methodLink RX5 53 Lib.Math.max.name, .static Lib.Math.max.name, .code Lib.Math.max.name Lib.Math.max.code 2 (some .int), .static yX6_isCell, .initialized RX6, .code yX6_isCell cX6_isCell 1 (some .boolean)] ++ wsX20 ++ wsX50)
def wsX2_marbleCell : List Cond := .code yX2_marbleCell cX2_marbleCell 2 (some .int) :: ([.fieldLink RX2 9 "HopperCourt$Pairing" "marbleCells" "[I"] ++ wsX20)
def wsX3_init : List Cond := .code yX3_init cX3_init 3 none :: ([.methodLink RX3 3 objectInit, .instanceMethod objectInit, .code objectInit ⟨#[0xb1]⟩ 1 none, .arrayClass .int, .fieldLink RX3 9 "HopperCourt$Reach" "hopsToEnd" "[I", .fieldLink RX3 15 "HopperCourt$Reach" "level" "[I", .fieldLink RX3 18 "HopperCourt$Reach" "queue" "[I", .fieldLink RX3 21 "HopperCourt$Reach" "star" "LHopperCourt$Star;", .fieldLink RX3 25 "HopperCourt$Reach" "marbles" "LHopperCourt$Marbles;"] ++ wsX30)
def wsX5_next : List Cond := .code yX5_next cX5_next 3 (some .int) :: ([.fieldLink RX5 21 "HopperCourt$Star" "nexts" "[I", .static yX6_isCell, .initialized RX6, .code yX6_isCell cX6_isCell 1 (some .boolean)] ++ wsX50)
def wsX3_landing : List Cond := .code yX3_landing cX3_landing 6 (some .int) :: ([.fieldLink RX3 21 "HopperCourt$Reach" "star" "LHopperCourt$Star;", .fieldLink RX3 25 "HopperCourt$Reach" "marbles" "LHopperCourt$Marbles;", .methodLink RX3 45 yX5_next, .instanceMethod yX5_next, .selects RX5 yX5_next yX5_next, .initialized RX5, .code yX5_next cX5_next 3 (some .int), .fieldLink RX5 21 "HopperCourt$Star" "nexts" "[I", .static yX6_isCell, .initialized RX6, .code yX6_isCell cX6_isCell 1 (some .boolean), .methodLink RX3 49 yX1_isEmpty, .instanceMethod yX1_isEmpty, .selects RX1 yX1_isEmpty yX1_isEmpty, .initialized RX1, .code yX1_isEmpty cX1_isEmpty 2 (some .boolean), .fieldLink RX1 9 "HopperCourt$Marbles" "owners" "[I"] ++ wsX30 ++ wsX50 ++ wsX10)
def wsX3_spread : List Cond := .code yX3_spread cX3_spread 8 none :: ([.fieldLink RX3 15 "HopperCourt$Reach" "level" "[I", .fieldLink RX3 18 "HopperCourt$Reach" "queue" "[I", .static yX6_isCell, .initialized RX6, .code yX6_isCell cX6_isCell 1 (some .boolean), .methodLink RX3 59 yX3_landing, .instanceMethod yX3_landing, .selects RX3 yX3_landing yX3_landing, .initialized RX3, .code yX3_landing cX3_landing 6 (some .int), .fieldLink RX3 21 "HopperCourt$Reach" "star" "LHopperCourt$Star;", .fieldLink RX3 25 "HopperCourt$Reach" "marbles" "LHopperCourt$Marbles;", .methodLink RX3 45 yX5_next, .instanceMethod yX5_next, .selects RX5 yX5_next yX5_next, .initialized RX5, .code yX5_next cX5_next 3 (some .int), .fieldLink RX5 21 "HopperCourt$Star" "nexts" "[I", .methodLink RX3 49 yX1_isEmpty, .instanceMethod yX1_isEmpty, .selects RX1 yX1_isEmpty yX1_isEmpty, .initialized RX1, .code yX1_isEmpty cX1_isEmpty 2 (some .boolean), .fieldLink RX1 9 "HopperCourt$Marbles" "owners" "[I"] ++ wsX30 ++ wsX50 ++ wsX10)
def wsX3_mayEnd : List Cond := .code yX3_mayEnd cX3_mayEnd 6 (some .boolean) :: ([.fieldLink RX3 21 "HopperCourt$Reach" "star" "LHopperCourt$Star;", .static yX6_goalOf, .initialized RX6, .code yX6_goalOf cX6_goalOf 1 (some .int), .methodLink RX3 66 yX5_camp, .instanceMethod yX5_camp, .selects RX5 yX5_camp yX5_camp, .initialized RX5, .code yX5_camp cX5_camp 2 (some .int), .fieldLink RX5 18 "HopperCourt$Star" "camps" "[I", .static yX6_isCell, .code yX6_isCell cX6_isCell 1 (some .boolean)] ++ wsX30 ++ wsX50)
def wsX3_search_r1 : List Cond := [Cond.fieldLink RX3 25 "HopperCourt$Reach" "marbles" "LHopperCourt$Marbles;", Cond.fieldLink RX3 9 "HopperCourt$Reach" "hopsToEnd" "[I", Cond.fieldLink RX3 15 "HopperCourt$Reach" "level" "[I", Cond.fieldLink RX3 21 "HopperCourt$Reach" "star" "LHopperCourt$Star;", Cond.methodLink RX3 29 yX1_owner, Cond.instanceMethod yX1_owner, Cond.selects RX1 yX1_owner yX1_owner, Cond.initialized RX1, Cond.code yX1_owner cX1_owner 2 (some .int), Cond.fieldLink RX1 9 "HopperCourt$Marbles" "owners" "[I", Cond.static yX6_isCell, Cond.initialized RX6, Cond.code yX6_isCell cX6_isCell 1 (some .boolean), Cond.methodLink RX3 35 yX3_spread, Cond.instanceMethod yX3_spread, Cond.selects RX3 yX3_spread yX3_spread, Cond.initialized RX3, Cond.code yX3_spread cX3_spread 8 none, Cond.fieldLink RX3 18 "HopperCourt$Reach" "queue" "[I", Cond.methodLink RX3 59 yX3_landing, Cond.instanceMethod yX3_landing, Cond.selects RX3 yX3_landing yX3_landing, Cond.code yX3_landing cX3_landing 6 (some .int), Cond.methodLink RX3 45 yX5_next]
def wsX3_search_r2 : List Cond := [Cond.instanceMethod yX5_next, Cond.selects RX5 yX5_next yX5_next, Cond.initialized RX5, Cond.code yX5_next cX5_next 3 (some .int), Cond.fieldLink RX5 21 "HopperCourt$Star" "nexts" "[I", Cond.methodLink RX3 49 yX1_isEmpty, Cond.instanceMethod yX1_isEmpty, Cond.selects RX1 yX1_isEmpty yX1_isEmpty, Cond.code yX1_isEmpty cX1_isEmpty 2 (some .boolean), Cond.methodLink RX3 39 yX3_mayEnd, Cond.instanceMethod yX3_mayEnd, Cond.selects RX3 yX3_mayEnd yX3_mayEnd, Cond.code yX3_mayEnd cX3_mayEnd 6 (some .boolean), Cond.static yX6_goalOf, Cond.code yX6_goalOf cX6_goalOf 1 (some .int), Cond.methodLink RX3 66 yX5_camp, Cond.instanceMethod yX5_camp, Cond.selects RX5 yX5_camp yX5_camp, Cond.code yX5_camp cX5_camp 2 (some .int), Cond.fieldLink RX5 18 "HopperCourt$Star" "camps" "[I"]
def wsX3_search : List Cond := .code yX3_search cX3_search 5 none :: ((wsX3_search_r1 ++ wsX3_search_r2) ++ wsX30 ++ wsX10 ++ wsX50)
def wsX3_hopsTo : List Cond := .code yX3_hopsTo cX3_hopsTo 2 (some .int) :: ([.fieldLink RX3 9 "HopperCourt$Reach" "hopsToEnd" "[I", .static yX6_isCell, .initialized RX6, .code yX6_isCell cX6_isCell 1 (some .boolean)] ++ wsX30)
def wsX3_countEnds : List Cond := .code yX3_countEnds cX3_countEnds 3 (some .int) :: ([.fieldLink RX3 9 "HopperCourt$Reach" "hopsToEnd" "[I"] ++ wsX30)
def wsX3_end : List Cond := .code yX3_end cX3_end 4 (some .int) :: ([.fieldLink RX3 9 "HopperCourt$Reach" "hopsToEnd" "[I"] ++ wsX30)
def wsX3_lowestNearer : List Cond := .code yX3_lowestNearer cX3_lowestNearer 7 (some .int) :: ([.fieldLink RX3 15 "HopperCourt$Reach" "level" "[I", .methodLink RX3 59 yX3_landing, .instanceMethod yX3_landing, .selects RX3 yX3_landing yX3_landing, .initialized RX3, .code yX3_landing cX3_landing 6 (some .int), .fieldLink RX3 21 "HopperCourt$Reach" "star" "LHopperCourt$Star;", .fieldLink RX3 25 "HopperCourt$Reach" "marbles" "LHopperCourt$Marbles;", .methodLink RX3 45 yX5_next, .instanceMethod yX5_next, .selects RX5 yX5_next yX5_next, .initialized RX5, .code yX5_next cX5_next 3 (some .int), .fieldLink RX5 21 "HopperCourt$Star" "nexts" "[I", .static yX6_isCell, .initialized RX6, .code yX6_isCell cX6_isCell 1 (some .boolean), .methodLink RX3 49 yX1_isEmpty, .instanceMethod yX1_isEmpty, .selects RX1 yX1_isEmpty yX1_isEmpty, .initialized RX1, .code yX1_isEmpty cX1_isEmpty 2 (some .boolean), .fieldLink RX1 9 "HopperCourt$Marbles" "owners" "[I"] ++ wsX30 ++ wsX50 ++ wsX10)
def wsX3_cellBehind_r1 : List Cond := [Cond.methodLink RX3 35 yX3_spread, Cond.instanceMethod yX3_spread, Cond.selects RX3 yX3_spread yX3_spread, Cond.initialized RX3, Cond.code yX3_spread cX3_spread 8 none, Cond.fieldLink RX3 15 "HopperCourt$Reach" "level" "[I", Cond.fieldLink RX3 18 "HopperCourt$Reach" "queue" "[I", Cond.static yX6_isCell, Cond.initialized RX6, Cond.code yX6_isCell cX6_isCell 1 (some .boolean), Cond.methodLink RX3 59 yX3_landing, Cond.instanceMethod yX3_landing, Cond.selects RX3 yX3_landing yX3_landing, Cond.code yX3_landing cX3_landing 6 (some .int), Cond.fieldLink RX3 21 "HopperCourt$Reach" "star" "LHopperCourt$Star;", Cond.fieldLink RX3 25 "HopperCourt$Reach" "marbles" "LHopperCourt$Marbles;", Cond.methodLink RX3 45 yX5_next, Cond.instanceMethod yX5_next, Cond.selects RX5 yX5_next yX5_next, Cond.initialized RX5, Cond.code yX5_next cX5_next 3 (some .int), Cond.fieldLink RX5 21 "HopperCourt$Star" "nexts" "[I", Cond.methodLink RX3 49 yX1_isEmpty, Cond.instanceMethod yX1_isEmpty]
def wsX3_cellBehind_r2 : List Cond := [Cond.selects RX1 yX1_isEmpty yX1_isEmpty, Cond.initialized RX1, Cond.code yX1_isEmpty cX1_isEmpty 2 (some .boolean), Cond.fieldLink RX1 9 "HopperCourt$Marbles" "owners" "[I", Cond.methodLink RX3 56 yX3_lowestNearer, Cond.instanceMethod yX3_lowestNearer, Cond.selects RX3 yX3_lowestNearer yX3_lowestNearer, Cond.code yX3_lowestNearer cX3_lowestNearer 7 (some .int)]
def wsX3_cellBehind : List Cond := .code yX3_cellBehind cX3_cellBehind 6 (some .int) :: ((wsX3_cellBehind_r1 ++ wsX3_cellBehind_r2) ++ wsX30 ++ wsX50 ++ wsX10)
def wsX4_init : List Cond := .code yX4_init cX4_init 2 none :: ([.methodLink RX4 3 objectInit, .instanceMethod objectInit, .code objectInit ⟨#[0xb1]⟩ 1 none, .arrayClass .int, .fieldLink RX4 9 "HopperCourt$Seats" "madeBy" "[I", .fieldLink RX4 15 "HopperCourt$Seats" "places" "[I", .fieldLink RX4 18 "HopperCourt$Seats" "marbles" "LHopperCourt$Marbles;", .fieldLink RX4 22 "HopperCourt$Seats" "turn" "I"] ++ wsX40)
def wsX4_plays : List Cond := .code yX4_plays cX4_plays 2 (some .boolean) :: ([.fieldLink RX4 26 "HopperCourt$Seats" "playing" "I", .static yX6_isCamp, .initialized RX6, .code yX6_isCamp cX6_isCamp 1 (some .boolean)] ++ wsX40)
def wsX4_setUp : List Cond := .code yX4_setUp cX4_setUp 3 none :: ([.fieldLink RX4 26 "HopperCourt$Seats" "playing" "I", .fieldLink RX4 29 "HopperCourt$Seats" "out" "I", .fieldLink RX4 32 "HopperCourt$Seats" "placed" "I", .fieldLink RX4 22 "HopperCourt$Seats" "turn" "I", .fieldLink RX4 9 "HopperCourt$Seats" "madeBy" "[I", .methodLink RX4 35 yX4_plays, .instanceMethod yX4_plays, .selects RX4 yX4_plays yX4_plays, .initialized RX4, .code yX4_plays cX4_plays 2 (some .boolean), .static yX6_isCamp, .initialized RX6, .code yX6_isCamp cX6_isCamp 1 (some .boolean)] ++ wsX40)
def wsX4_hasDroppedOut : List Cond := .code yX4_hasDroppedOut cX4_hasDroppedOut 2 (some .boolean) :: ([.fieldLink RX4 29 "HopperCourt$Seats" "out" "I", .static yX6_isCamp, .initialized RX6, .code yX6_isCamp cX6_isCamp 1 (some .boolean)] ++ wsX40)
def wsX4_playerAtPlace : List Cond := .code yX4_playerAtPlace cX4_playerAtPlace 2 (some .int) :: ([.fieldLink RX4 32 "HopperCourt$Seats" "placed" "I", .fieldLink RX4 15 "HopperCourt$Seats" "places" "[I"] ++ wsX40)
def wsX4_countMove : List Cond := .code yX4_countMove cX4_countMove 1 none :: ([.fieldLink RX4 22 "HopperCourt$Seats" "turn" "I", .fieldLink RX4 9 "HopperCourt$Seats" "madeBy" "[I", .static yX6_isCamp, .initialized RX6, .code yX6_isCamp cX6_isCamp 1 (some .boolean)] ++ wsX40)
def wsX4_isPlaced : List Cond := .code yX4_isPlaced cX4_isPlaced 3 (some .boolean) :: ([.fieldLink RX4 32 "HopperCourt$Seats" "placed" "I", .fieldLink RX4 15 "HopperCourt$Seats" "places" "[I"] ++ wsX40)
def wsX4_isStillIn : List Cond := .code yX4_isStillIn cX4_isStillIn 2 (some .boolean) :: ([.methodLink RX4 35 yX4_plays, .instanceMethod yX4_plays, .selects RX4 yX4_plays yX4_plays, .initialized RX4, .code yX4_plays cX4_plays 2 (some .boolean), .fieldLink RX4 26 "HopperCourt$Seats" "playing" "I", .static yX6_isCamp, .initialized RX6, .code yX6_isCamp cX6_isCamp 1 (some .boolean), .methodLink RX4 52 yX4_hasDroppedOut, .instanceMethod yX4_hasDroppedOut, .selects RX4 yX4_hasDroppedOut yX4_hasDroppedOut, .code yX4_hasDroppedOut cX4_hasDroppedOut 2 (some .boolean), .fieldLink RX4 29 "HopperCourt$Seats" "out" "I", .methodLink RX4 55 yX4_isPlaced, .instanceMethod yX4_isPlaced, .selects RX4 yX4_isPlaced yX4_isPlaced, .code yX4_isPlaced cX4_isPlaced 3 (some .boolean), .fieldLink RX4 32 "HopperCourt$Seats" "placed" "I", .fieldLink RX4 15 "HopperCourt$Seats" "places" "[I"] ++ wsX40)
def wsX4_fillsGoal : List Cond := .code yX4_fillsGoal cX4_fillsGoal 4 (some .boolean) :: ([.fieldLink RX4 18 "HopperCourt$Seats" "marbles" "LHopperCourt$Marbles;", .static yX6_goalOf, .initialized RX6, .code yX6_goalOf cX6_goalOf 1 (some .int), .methodLink RX4 62 yX1_countInCamp, .instanceMethod yX1_countInCamp, .selects RX1 yX1_countInCamp yX1_countInCamp, .initialized RX1, .code yX1_countInCamp cX1_countInCamp 5 (some .int), .fieldLink RX1 15 "HopperCourt$Marbles" "star" "LHopperCourt$Star;", .fieldLink RX1 9 "HopperCourt$Marbles" "owners" "[I", .methodLink RX1 23 yX5_camp, .instanceMethod yX5_camp, .selects RX5 yX5_camp yX5_camp, .initialized RX5, .code yX5_camp cX5_camp 2 (some .int), .fieldLink RX5 18 "HopperCourt$Star" "camps" "[I", .static yX6_isCell, .code yX6_isCell cX6_isCell 1 (some .boolean)] ++ wsX40 ++ wsX10 ++ wsX50)
def wsX4_placeFinishers_r1 : List Cond := [Cond.fieldLink RX4 32 "HopperCourt$Seats" "placed" "I", Cond.fieldLink RX4 15 "HopperCourt$Seats" "places" "[I", Cond.methodLink RX4 42 yX4_isStillIn, Cond.instanceMethod yX4_isStillIn, Cond.selects RX4 yX4_isStillIn yX4_isStillIn, Cond.initialized RX4, Cond.code yX4_isStillIn cX4_isStillIn 2 (some .boolean), Cond.methodLink RX4 35 yX4_plays, Cond.instanceMethod yX4_plays, Cond.selects RX4 yX4_plays yX4_plays, Cond.code yX4_plays cX4_plays 2 (some .boolean), Cond.fieldLink RX4 26 "HopperCourt$Seats" "playing" "I", Cond.static yX6_isCamp, Cond.initialized RX6, Cond.code yX6_isCamp cX6_isCamp 1 (some .boolean), Cond.methodLink RX4 52 yX4_hasDroppedOut, Cond.instanceMethod yX4_hasDroppedOut, Cond.selects RX4 yX4_hasDroppedOut yX4_hasDroppedOut, Cond.code yX4_hasDroppedOut cX4_hasDroppedOut 2 (some .boolean), Cond.fieldLink RX4 29 "HopperCourt$Seats" "out" "I", Cond.methodLink RX4 55 yX4_isPlaced, Cond.instanceMethod yX4_isPlaced, Cond.selects RX4 yX4_isPlaced yX4_isPlaced, Cond.code yX4_isPlaced cX4_isPlaced 3 (some .boolean)]
def wsX4_placeFinishers_r2 : List Cond := [Cond.methodLink RX4 45 yX4_fillsGoal, Cond.instanceMethod yX4_fillsGoal, Cond.selects RX4 yX4_fillsGoal yX4_fillsGoal, Cond.code yX4_fillsGoal cX4_fillsGoal 4 (some .boolean), Cond.fieldLink RX4 18 "HopperCourt$Seats" "marbles" "LHopperCourt$Marbles;", Cond.static yX6_goalOf, Cond.code yX6_goalOf cX6_goalOf 1 (some .int), Cond.methodLink RX4 62 yX1_countInCamp, Cond.instanceMethod yX1_countInCamp, Cond.selects RX1 yX1_countInCamp yX1_countInCamp, Cond.initialized RX1, Cond.code yX1_countInCamp cX1_countInCamp 5 (some .int), Cond.fieldLink RX1 15 "HopperCourt$Marbles" "star" "LHopperCourt$Star;", Cond.fieldLink RX1 9 "HopperCourt$Marbles" "owners" "[I", Cond.methodLink RX1 23 yX5_camp, Cond.instanceMethod yX5_camp, Cond.selects RX5 yX5_camp yX5_camp, Cond.initialized RX5, Cond.code yX5_camp cX5_camp 2 (some .int), Cond.fieldLink RX5 18 "HopperCourt$Star" "camps" "[I", Cond.static yX6_isCell, Cond.code yX6_isCell cX6_isCell 1 (some .boolean)]
def wsX4_placeFinishers : List Cond := .code yX4_placeFinishers cX4_placeFinishers 3 none :: ((wsX4_placeFinishers_r1 ++ wsX4_placeFinishers_r2) ++ wsX40 ++ wsX10 ++ wsX50)
def wsX4_isTooLate : List Cond := .code yX4_isTooLate cX4_isTooLate 3 (some .boolean) :: ([.fieldLink RX4 9 "HopperCourt$Seats" "madeBy" "[I", .fieldLink RX4 18 "HopperCourt$Seats" "marbles" "LHopperCourt$Marbles;", .static yX6_isCamp, .initialized RX6, .code yX6_isCamp cX6_isCamp 1 (some .boolean), .methodLink RX4 62 yX1_countInCamp, .instanceMethod yX1_countInCamp, .selects RX1 yX1_countInCamp yX1_countInCamp, .initialized RX1, .code yX1_countInCamp cX1_countInCamp 5 (some .int), .fieldLink RX1 15 "HopperCourt$Marbles" "star" "LHopperCourt$Star;", .fieldLink RX1 9 "HopperCourt$Marbles" "owners" "[I", .methodLink RX1 23 yX5_camp, .instanceMethod yX5_camp, .selects RX5 yX5_camp yX5_camp, .initialized RX5, .code yX5_camp cX5_camp 2 (some .int), .fieldLink RX5 18 "HopperCourt$Star" "camps" "[I", .static yX6_isCell, .code yX6_isCell cX6_isCell 1 (some .boolean)] ++ wsX40 ++ wsX10 ++ wsX50)
def wsX4_goOn_r1 : List Cond := [Cond.fieldLink RX4 22 "HopperCourt$Seats" "turn" "I", Cond.fieldLink RX4 29 "HopperCourt$Seats" "out" "I", Cond.methodLink RX4 42 yX4_isStillIn, Cond.instanceMethod yX4_isStillIn, Cond.selects RX4 yX4_isStillIn yX4_isStillIn, Cond.initialized RX4, Cond.code yX4_isStillIn cX4_isStillIn 2 (some .boolean), Cond.methodLink RX4 35 yX4_plays, Cond.instanceMethod yX4_plays, Cond.selects RX4 yX4_plays yX4_plays, Cond.code yX4_plays cX4_plays 2 (some .boolean), Cond.fieldLink RX4 26 "HopperCourt$Seats" "playing" "I", Cond.static yX6_isCamp, Cond.initialized RX6, Cond.code yX6_isCamp cX6_isCamp 1 (some .boolean), Cond.methodLink RX4 52 yX4_hasDroppedOut, Cond.instanceMethod yX4_hasDroppedOut, Cond.selects RX4 yX4_hasDroppedOut yX4_hasDroppedOut, Cond.code yX4_hasDroppedOut cX4_hasDroppedOut 2 (some .boolean), Cond.methodLink RX4 55 yX4_isPlaced, Cond.instanceMethod yX4_isPlaced, Cond.selects RX4 yX4_isPlaced yX4_isPlaced, Cond.code yX4_isPlaced cX4_isPlaced 3 (some .boolean), Cond.fieldLink RX4 32 "HopperCourt$Seats" "placed" "I"]
def wsX4_goOn_r2 : List Cond := [Cond.fieldLink RX4 15 "HopperCourt$Seats" "places" "[I", Cond.methodLink RX4 49 yX4_isTooLate, Cond.instanceMethod yX4_isTooLate, Cond.selects RX4 yX4_isTooLate yX4_isTooLate, Cond.code yX4_isTooLate cX4_isTooLate 3 (some .boolean), Cond.fieldLink RX4 9 "HopperCourt$Seats" "madeBy" "[I", Cond.fieldLink RX4 18 "HopperCourt$Seats" "marbles" "LHopperCourt$Marbles;", Cond.methodLink RX4 62 yX1_countInCamp, Cond.instanceMethod yX1_countInCamp, Cond.selects RX1 yX1_countInCamp yX1_countInCamp, Cond.initialized RX1, Cond.code yX1_countInCamp cX1_countInCamp 5 (some .int), Cond.fieldLink RX1 15 "HopperCourt$Marbles" "star" "LHopperCourt$Star;", Cond.fieldLink RX1 9 "HopperCourt$Marbles" "owners" "[I", Cond.methodLink RX1 23 yX5_camp, Cond.instanceMethod yX5_camp, Cond.selects RX5 yX5_camp yX5_camp, Cond.initialized RX5, Cond.code yX5_camp cX5_camp 2 (some .int), Cond.fieldLink RX5 18 "HopperCourt$Star" "camps" "[I", Cond.static yX6_isCell, Cond.code yX6_isCell cX6_isCell 1 (some .boolean)]
def wsX4_goOn : List Cond := .code yX4_goOn cX4_goOn 5 none :: ((wsX4_goOn_r1 ++ wsX4_goOn_r2) ++ wsX40 ++ wsX10 ++ wsX50)
def wsX5_campAmong : List Cond := .code yX5_campAmong cX5_campAmong 2 (some .int) :: ([])
def wsX5_cellIn : List Cond := .code yX5_cellIn cX5_cellIn 4 (some .int) :: ([.fieldLink RX5 27 "HopperCourt$Star" "FIRST_COLUMN" "[I", .fieldLink RX5 24 "HopperCourt$Star" "FIRST_CELL" "[I"])
def wsX5_init : List Cond := .code yX5_init cX5_init 5 none :: ([.methodLink RX5 3 objectInit, .instanceMethod objectInit, .code objectInit ⟨#[0xb1]⟩ 1 none, .arrayClass .int, .fieldLink RX5 9 "HopperCourt$Star" "rows" "[I", .fieldLink RX5 15 "HopperCourt$Star" "columns" "[I", .fieldLink RX5 18 "HopperCourt$Star" "camps" "[I", .fieldLink RX5 21 "HopperCourt$Star" "nexts" "[I", .fieldLink RX5 24 "HopperCourt$Star" "FIRST_CELL" "[I", .fieldLink RX5 27 "HopperCourt$Star" "FIRST_COLUMN" "[I", .fieldLink RX5 34 "HopperCourt$Star" "ROW_STEP" "[I", .fieldLink RX5 37 "HopperCourt$Star" "COLUMN_STEP" "[I", .methodLink RX5 30 yX5_campAmong, .static yX5_campAmong, .initialized RX5, .code yX5_campAmong cX5_campAmong 2 (some .int), .methodLink RX5 40 yX5_cellIn, .static yX5_cellIn, .code yX5_cellIn cX5_cellIn 4 (some .int)] ++ wsX50)
def wsX6_init_r1 : List Cond := [Cond.methodLink RX6 1 objectInit, Cond.instanceMethod objectInit, Cond.code objectInit ⟨#[0xb1]⟩ 1 none, Cond.classLink RX6 7 RX5, Cond.instantiable RX5 4, Cond.initialized RX5, Cond.fieldLink RX6 10 "HopperCourt" "star" "LHopperCourt$Star;", Cond.classLink RX6 16 RX1, Cond.instantiable RX1 2, Cond.initialized RX1, Cond.fieldLink RX6 21 "HopperCourt" "marbles" "LHopperCourt$Marbles;", Cond.classLink RX6 25 RX3, Cond.instantiable RX3 5, Cond.initialized RX3, Cond.fieldLink RX6 30 "HopperCourt" "reach" "LHopperCourt$Reach;", Cond.classLink RX6 34 RX2, Cond.instantiable RX2 8, Cond.initialized RX2, Cond.fieldLink RX6 37 "HopperCourt" "pairing" "LHopperCourt$Pairing;", Cond.classLink RX6 41 RX4, Cond.instantiable RX4 7, Cond.initialized RX4, Cond.fieldLink RX6 46 "HopperCourt" "seats" "LHopperCourt$Seats;", Cond.classLink RX6 50 RX0]
def wsX6_init_r2 : List Cond := [Cond.instantiable RX0 6, Cond.initialized RX0, Cond.fieldLink RX6 53 "HopperCourt" "log" "LHopperCourt$Log;", Cond.fieldLink RX6 57 "HopperCourt" "fill" "I", Cond.fieldLink RX6 61 "HopperCourt" "patience" "I", Cond.methodLink RX6 9 yX5_init, Cond.instanceMethod yX5_init, Cond.code yX5_init cX5_init 5 none, Cond.methodLink RX5 3 objectInit, Cond.arrayClass .int, Cond.fieldLink RX5 9 "HopperCourt$Star" "rows" "[I", Cond.fieldLink RX5 15 "HopperCourt$Star" "columns" "[I", Cond.fieldLink RX5 18 "HopperCourt$Star" "camps" "[I", Cond.fieldLink RX5 21 "HopperCourt$Star" "nexts" "[I", Cond.fieldLink RX5 24 "HopperCourt$Star" "FIRST_CELL" "[I", Cond.fieldLink RX5 27 "HopperCourt$Star" "FIRST_COLUMN" "[I", Cond.fieldLink RX5 34 "HopperCourt$Star" "ROW_STEP" "[I", Cond.fieldLink RX5 37 "HopperCourt$Star" "COLUMN_STEP" "[I", Cond.methodLink RX5 30 yX5_campAmong, Cond.static yX5_campAmong, Cond.code yX5_campAmong cX5_campAmong 2 (some .int), Cond.methodLink RX5 40 yX5_cellIn, Cond.static yX5_cellIn, Cond.code yX5_cellIn cX5_cellIn 4 (some .int)]
def wsX6_init_r3 : List Cond := [Cond.methodLink RX6 18 yX1_init, Cond.instanceMethod yX1_init, Cond.code yX1_init cX1_init 2 none, Cond.methodLink RX1 3 objectInit, Cond.fieldLink RX1 9 "HopperCourt$Marbles" "owners" "[I", Cond.fieldLink RX1 15 "HopperCourt$Marbles" "star" "LHopperCourt$Star;", Cond.methodLink RX1 19 yX1_setUp, Cond.instanceMethod yX1_setUp, Cond.selects RX1 yX1_setUp yX1_setUp, Cond.code yX1_setUp cX1_setUp 4 none, Cond.methodLink RX1 23 yX5_camp, Cond.instanceMethod yX5_camp, Cond.selects RX5 yX5_camp yX5_camp, Cond.code yX5_camp cX5_camp 2 (some .int), Cond.static yX6_isCell, Cond.initialized RX6, Cond.code yX6_isCell cX6_isCell 1 (some .boolean), Cond.methodLink RX6 27 yX3_init, Cond.instanceMethod yX3_init, Cond.code yX3_init cX3_init 3 none, Cond.methodLink RX3 3 objectInit, Cond.fieldLink RX3 9 "HopperCourt$Reach" "hopsToEnd" "[I", Cond.fieldLink RX3 15 "HopperCourt$Reach" "level" "[I", Cond.fieldLink RX3 18 "HopperCourt$Reach" "queue" "[I"]
def wsX6_init_r4 : List Cond := [Cond.fieldLink RX3 21 "HopperCourt$Reach" "star" "LHopperCourt$Star;", Cond.fieldLink RX3 25 "HopperCourt$Reach" "marbles" "LHopperCourt$Marbles;", Cond.methodLink RX6 36 yX2_init, Cond.instanceMethod yX2_init, Cond.code yX2_init cX2_init 3 none, Cond.methodLink RX2 3 objectInit, Cond.fieldLink RX2 9 "HopperCourt$Pairing" "marbleCells" "[I", Cond.fieldLink RX2 15 "HopperCourt$Pairing" "goalCells" "[I", Cond.fieldLink RX2 18 "HopperCourt$Pairing" "steps" "[I", Cond.fieldLink RX2 21 "HopperCourt$Pairing" "firstSums" "[I", Cond.fieldLink RX2 24 "HopperCourt$Pairing" "lastSums" "[I", Cond.fieldLink RX2 27 "HopperCourt$Pairing" "otherSums" "[I", Cond.fieldLink RX2 30 "HopperCourt$Pairing" "star" "LHopperCourt$Star;", Cond.fieldLink RX2 34 "HopperCourt$Pairing" "marbles" "LHopperCourt$Marbles;", Cond.methodLink RX6 43 yX4_init, Cond.instanceMethod yX4_init, Cond.code yX4_init cX4_init 2 none, Cond.methodLink RX4 3 objectInit, Cond.fieldLink RX4 9 "HopperCourt$Seats" "madeBy" "[I", Cond.fieldLink RX4 15 "HopperCourt$Seats" "places" "[I", Cond.fieldLink RX4 18 "HopperCourt$Seats" "marbles" "LHopperCourt$Marbles;", Cond.fieldLink RX4 22 "HopperCourt$Seats" "turn" "I", Cond.instanceMethod yX0_init, Cond.code yX0_init cX0_init 1 none]
def wsX6_init_r5 : List Cond := [Cond.methodLink RX0 3 objectInit, Cond.fieldLink RX0 9 "HopperCourt$Log" "froms" "[I", Cond.fieldLink RX0 15 "HopperCourt$Log" "tos" "[I", Cond.fieldLink RX0 18 "HopperCourt$Log" "turns" "[I", Cond.fieldLink RX0 21 "HopperCourt$Log" "outs" "[I", Cond.fieldLink RX0 24 "HopperCourt$Log" "placeds" "[I"]
def wsX6_init : List Cond := .code yX6_init cX6_init 1 none :: ((wsX6_init_r1 ++ (wsX6_init_r2 ++ (wsX6_init_r3 ++ (wsX6_init_r4 ++ wsX6_init_r5)))) ++ wsX50 ++ wsX60 ++ wsX10 ++ wsX30 ++ wsX20 ++ wsX40 ++ wsX00)
def wsX6_begin_r1 : List Cond := [Cond.classLink RX6 70 "java/lang/IllegalArgumentException", Cond.initialized "java/lang/IllegalArgumentException", Cond.fieldLink RX6 21 "HopperCourt" "marbles" "LHopperCourt$Marbles;", Cond.fieldLink RX6 46 "HopperCourt" "seats" "LHopperCourt$Seats;", Cond.fieldLink RX6 53 "HopperCourt" "log" "LHopperCourt$Log;", Cond.methodLink RX6 64 yJ6_bitCount_0f7a4, Cond.static yJ6_bitCount_0f7a4, Cond.initialized RJ6, Cond.code yJ6_bitCount_0f7a4 cJ6_bitCount_0f7a4 1 (some .int), Cond.constant RJ6 265 (1431655765), Cond.constant RJ6 266 (858993459), Cond.constant RJ6 267 (252645135), Cond.methodLink RX6 77 yX1_setUp, Cond.instanceMethod yX1_setUp, Cond.selects RX1 yX1_setUp yX1_setUp, Cond.initialized RX1, Cond.code yX1_setUp cX1_setUp 4 none, Cond.fieldLink RX1 15 "HopperCourt$Marbles" "star" "LHopperCourt$Star;", Cond.fieldLink RX1 9 "HopperCourt$Marbles" "owners" "[I", Cond.methodLink RX1 23 yX5_camp, Cond.instanceMethod yX5_camp, Cond.selects RX5 yX5_camp yX5_camp, Cond.initialized RX5, Cond.code yX5_camp cX5_camp 2 (some .int)]
def wsX6_begin_r2 : List Cond := [Cond.fieldLink RX5 18 "HopperCourt$Star" "camps" "[I", Cond.static yX6_isCell, Cond.initialized RX6, Cond.code yX6_isCell cX6_isCell 1 (some .boolean), Cond.methodLink RX6 81 yX4_setUp, Cond.instanceMethod yX4_setUp, Cond.selects RX4 yX4_setUp yX4_setUp, Cond.initialized RX4, Cond.code yX4_setUp cX4_setUp 3 none, Cond.fieldLink RX4 26 "HopperCourt$Seats" "playing" "I", Cond.fieldLink RX4 29 "HopperCourt$Seats" "out" "I", Cond.fieldLink RX4 32 "HopperCourt$Seats" "placed" "I", Cond.fieldLink RX4 22 "HopperCourt$Seats" "turn" "I", Cond.fieldLink RX4 9 "HopperCourt$Seats" "madeBy" "[I", Cond.methodLink RX4 35 yX4_plays, Cond.instanceMethod yX4_plays, Cond.selects RX4 yX4_plays yX4_plays, Cond.code yX4_plays cX4_plays 2 (some .boolean), Cond.static yX6_isCamp, Cond.code yX6_isCamp cX6_isCamp 1 (some .boolean), Cond.methodLink RX6 82 yX0_clear, Cond.instanceMethod yX0_clear, Cond.selects RX0 yX0_clear yX0_clear, Cond.initialized RX0]
def wsX6_begin_r3 : List Cond := [Cond.code yX0_clear cX0_clear 1 none, Cond.fieldLink RX0 27 "HopperCourt$Log" "size" "I"]
def wsX6_begin : List Cond := .code yX6_begin cX6_begin 2 none :: ((wsX6_begin_r1 ++ (wsX6_begin_r2 ++ wsX6_begin_r3)) ++ wsX60 ++ wsX10 ++ wsX50 ++ wsX40 ++ wsX00 ++ (vx_atS RX6 74 "java/lang/IllegalArgumentException" ["java/lang/RuntimeException", "java/lang/Exception"]).filter goodWord)
def wsX6_setFill : List Cond := .code yX6_setFill cX6_setFill 3 (some .int) :: ([.classLink RX6 70 "java/lang/IllegalArgumentException", .initialized "java/lang/IllegalArgumentException", .fieldLink RX6 57 "HopperCourt" "fill" "I"] ++ wsX60 ++ (vx_atS RX6 74 "java/lang/IllegalArgumentException" ["java/lang/RuntimeException", "java/lang/Exception"]).filter goodWord)
def wsX6_setPatience : List Cond := .code yX6_setPatience cX6_setPatience 3 (some .int) :: ([.classLink RX6 70 "java/lang/IllegalArgumentException", .initialized "java/lang/IllegalArgumentException", .fieldLink RX6 61 "HopperCourt" "patience" "I"] ++ wsX60 ++ (vx_atS RX6 74 "java/lang/IllegalArgumentException" ["java/lang/RuntimeException", "java/lang/Exception"]).filter goodWord)
def wsX6_isOpen : List Cond := .code yX6_isOpen cX6_isOpen 1 (some .boolean) :: ([.fieldLink RX6 46 "HopperCourt" "seats" "LHopperCourt$Seats;", .fieldLink RX6 53 "HopperCourt" "log" "LHopperCourt$Log;", .methodLink RX6 107 yX4_onTurn, .instanceMethod yX4_onTurn, .selects RX4 yX4_onTurn yX4_onTurn, .initialized RX4, .code yX4_onTurn cX4_onTurn 1 (some .int), .fieldLink RX4 22 "HopperCourt$Seats" "turn" "I", .methodLink RX6 141 yX0_size, .instanceMethod yX0_size, .selects RX0 yX0_size yX0_size, .initialized RX0, .code yX0_size cX0_size 1 (some .int), .fieldLink RX0 27 "HopperCourt$Log" "size" "I"] ++ wsX60 ++ wsX40 ++ wsX00)
def wsX6_move_r1 : List Cond := [Cond.classLink RX6 93 "java/lang/IndexOutOfBoundsException", Cond.initialized "java/lang/IndexOutOfBoundsException", Cond.classLink RX6 102 "java/lang/IllegalStateException", Cond.initialized "java/lang/IllegalStateException", Cond.classLink RX6 70 "java/lang/IllegalArgumentException", Cond.initialized "java/lang/IllegalArgumentException", Cond.fieldLink RX6 30 "HopperCourt" "reach" "LHopperCourt$Reach;", Cond.fieldLink RX6 46 "HopperCourt" "seats" "LHopperCourt$Seats;", Cond.fieldLink RX6 53 "HopperCourt" "log" "LHopperCourt$Log;", Cond.fieldLink RX6 21 "HopperCourt" "marbles" "LHopperCourt$Marbles;", Cond.fieldLink RX6 57 "HopperCourt" "fill" "I", Cond.fieldLink RX6 61 "HopperCourt" "patience" "I", Cond.methodLink RX6 89 yX6_isCell, Cond.static yX6_isCell, Cond.initialized RX6, Cond.code yX6_isCell cX6_isCell 1 (some .boolean), Cond.methodLink RX6 98 yX6_isOpen, Cond.instanceMethod yX6_isOpen, Cond.selects RX6 yX6_isOpen yX6_isOpen, Cond.code yX6_isOpen cX6_isOpen 1 (some .boolean), Cond.methodLink RX6 107 yX4_onTurn, Cond.instanceMethod yX4_onTurn, Cond.selects RX4 yX4_onTurn yX4_onTurn, Cond.initialized RX4]
def wsX6_move_r2 : List Cond := [Cond.code yX4_onTurn cX4_onTurn 1 (some .int), Cond.fieldLink RX4 22 "HopperCourt$Seats" "turn" "I", Cond.methodLink RX6 141 yX0_size, Cond.instanceMethod yX0_size, Cond.selects RX0 yX0_size yX0_size, Cond.initialized RX0, Cond.code yX0_size cX0_size 1 (some .int), Cond.fieldLink RX0 27 "HopperCourt$Log" "size" "I", Cond.methodLink RX6 111 yX3_search, Cond.instanceMethod yX3_search, Cond.selects RX3 yX3_search yX3_search, Cond.initialized RX3, Cond.code yX3_search cX3_search 5 none, Cond.fieldLink RX3 25 "HopperCourt$Reach" "marbles" "LHopperCourt$Marbles;", Cond.fieldLink RX3 9 "HopperCourt$Reach" "hopsToEnd" "[I", Cond.fieldLink RX3 15 "HopperCourt$Reach" "level" "[I", Cond.fieldLink RX3 21 "HopperCourt$Reach" "star" "LHopperCourt$Star;", Cond.methodLink RX3 29 yX1_owner, Cond.instanceMethod yX1_owner, Cond.selects RX1 yX1_owner yX1_owner, Cond.initialized RX1, Cond.code yX1_owner cX1_owner 2 (some .int), Cond.fieldLink RX1 9 "HopperCourt$Marbles" "owners" "[I", Cond.methodLink RX3 35 yX3_spread]
def wsX6_move_r3 : List Cond := [Cond.instanceMethod yX3_spread, Cond.selects RX3 yX3_spread yX3_spread, Cond.code yX3_spread cX3_spread 8 none, Cond.fieldLink RX3 18 "HopperCourt$Reach" "queue" "[I", Cond.methodLink RX3 59 yX3_landing, Cond.instanceMethod yX3_landing, Cond.selects RX3 yX3_landing yX3_landing, Cond.code yX3_landing cX3_landing 6 (some .int), Cond.methodLink RX3 45 yX5_next, Cond.instanceMethod yX5_next, Cond.selects RX5 yX5_next yX5_next, Cond.initialized RX5, Cond.code yX5_next cX5_next 3 (some .int), Cond.fieldLink RX5 21 "HopperCourt$Star" "nexts" "[I", Cond.methodLink RX3 49 yX1_isEmpty, Cond.instanceMethod yX1_isEmpty, Cond.selects RX1 yX1_isEmpty yX1_isEmpty, Cond.code yX1_isEmpty cX1_isEmpty 2 (some .boolean), Cond.methodLink RX3 39 yX3_mayEnd, Cond.instanceMethod yX3_mayEnd, Cond.selects RX3 yX3_mayEnd yX3_mayEnd, Cond.code yX3_mayEnd cX3_mayEnd 6 (some .boolean), Cond.static yX6_goalOf, Cond.code yX6_goalOf cX6_goalOf 1 (some .int)]
def wsX6_move_r4 : List Cond := [Cond.methodLink RX3 66 yX5_camp, Cond.instanceMethod yX5_camp, Cond.selects RX5 yX5_camp yX5_camp, Cond.code yX5_camp cX5_camp 2 (some .int), Cond.fieldLink RX5 18 "HopperCourt$Star" "camps" "[I", Cond.methodLink RX6 115 yX3_hopsTo, Cond.instanceMethod yX3_hopsTo, Cond.selects RX3 yX3_hopsTo yX3_hopsTo, Cond.code yX3_hopsTo cX3_hopsTo 2 (some .int), Cond.methodLink RX6 120 yX0_add, Cond.instanceMethod yX0_add, Cond.selects RX0 yX0_add yX0_add, Cond.code yX0_add cX0_add 4 none, Cond.fieldLink RX0 9 "HopperCourt$Log" "froms" "[I", Cond.fieldLink RX0 15 "HopperCourt$Log" "tos" "[I", Cond.fieldLink RX0 18 "HopperCourt$Log" "turns" "[I", Cond.fieldLink RX0 21 "HopperCourt$Log" "outs" "[I", Cond.fieldLink RX0 24 "HopperCourt$Log" "placeds" "[I", Cond.methodLink RX0 31 yX4_onTurn, Cond.methodLink RX0 37 yX4_outSet, Cond.instanceMethod yX4_outSet, Cond.selects RX4 yX4_outSet yX4_outSet, Cond.code yX4_outSet cX4_outSet 1 (some .int), Cond.fieldLink RX4 29 "HopperCourt$Seats" "out" "I"]
def wsX6_move_r5 : List Cond := [Cond.methodLink RX0 40 yX4_placedCount, Cond.instanceMethod yX4_placedCount, Cond.selects RX4 yX4_placedCount yX4_placedCount, Cond.code yX4_placedCount cX4_placedCount 1 (some .int), Cond.fieldLink RX4 32 "HopperCourt$Seats" "placed" "I", Cond.methodLink RX6 124 yX1_carry, Cond.instanceMethod yX1_carry, Cond.selects RX1 yX1_carry yX1_carry, Cond.code yX1_carry cX1_carry 3 none, Cond.methodLink RX6 127 yX4_countMove, Cond.instanceMethod yX4_countMove, Cond.selects RX4 yX4_countMove yX4_countMove, Cond.code yX4_countMove cX4_countMove 1 none, Cond.fieldLink RX4 9 "HopperCourt$Seats" "madeBy" "[I", Cond.static yX6_isCamp, Cond.code yX6_isCamp cX6_isCamp 1 (some .boolean), Cond.methodLink RX6 130 yX4_placeFinishers, Cond.instanceMethod yX4_placeFinishers, Cond.selects RX4 yX4_placeFinishers yX4_placeFinishers, Cond.code yX4_placeFinishers cX4_placeFinishers 3 none, Cond.fieldLink RX4 15 "HopperCourt$Seats" "places" "[I", Cond.methodLink RX4 42 yX4_isStillIn, Cond.instanceMethod yX4_isStillIn, Cond.selects RX4 yX4_isStillIn yX4_isStillIn]
def wsX6_move_r6 : List Cond := [Cond.code yX4_isStillIn cX4_isStillIn 2 (some .boolean), Cond.methodLink RX4 35 yX4_plays, Cond.instanceMethod yX4_plays, Cond.selects RX4 yX4_plays yX4_plays, Cond.code yX4_plays cX4_plays 2 (some .boolean), Cond.fieldLink RX4 26 "HopperCourt$Seats" "playing" "I", Cond.methodLink RX4 52 yX4_hasDroppedOut, Cond.instanceMethod yX4_hasDroppedOut, Cond.selects RX4 yX4_hasDroppedOut yX4_hasDroppedOut, Cond.code yX4_hasDroppedOut cX4_hasDroppedOut 2 (some .boolean), Cond.methodLink RX4 55 yX4_isPlaced, Cond.instanceMethod yX4_isPlaced, Cond.selects RX4 yX4_isPlaced yX4_isPlaced, Cond.code yX4_isPlaced cX4_isPlaced 3 (some .boolean), Cond.methodLink RX4 45 yX4_fillsGoal, Cond.instanceMethod yX4_fillsGoal, Cond.selects RX4 yX4_fillsGoal yX4_fillsGoal, Cond.code yX4_fillsGoal cX4_fillsGoal 4 (some .boolean), Cond.fieldLink RX4 18 "HopperCourt$Seats" "marbles" "LHopperCourt$Marbles;", Cond.methodLink RX4 62 yX1_countInCamp, Cond.instanceMethod yX1_countInCamp, Cond.selects RX1 yX1_countInCamp yX1_countInCamp, Cond.code yX1_countInCamp cX1_countInCamp 5 (some .int), Cond.fieldLink RX1 15 "HopperCourt$Marbles" "star" "LHopperCourt$Star;"]
def wsX6_move_r7 : List Cond := [Cond.methodLink RX1 23 yX5_camp, Cond.methodLink RX6 133 yX4_goOn, Cond.instanceMethod yX4_goOn, Cond.selects RX4 yX4_goOn yX4_goOn, Cond.code yX4_goOn cX4_goOn 5 none, Cond.methodLink RX4 49 yX4_isTooLate, Cond.instanceMethod yX4_isTooLate, Cond.selects RX4 yX4_isTooLate yX4_isTooLate, Cond.code yX4_isTooLate cX4_isTooLate 3 (some .boolean)]
def wsX6_move : List Cond := .code yX6_move cX6_move 4 (some .int) :: ((wsX6_move_r1 ++ (wsX6_move_r2 ++ (wsX6_move_r3 ++ (wsX6_move_r4 ++ (wsX6_move_r5 ++ (wsX6_move_r6 ++ wsX6_move_r7)))))) ++ wsX60 ++ wsX40 ++ wsX00 ++ wsX30 ++ wsX10 ++ wsX50 ++ (vx_atS RX6 97 "java/lang/IndexOutOfBoundsException" ["java/lang/RuntimeException", "java/lang/Exception"]).filter goodWord ++ (vx_atS RX6 106 "java/lang/IllegalStateException" ["java/lang/RuntimeException", "java/lang/Exception"]).filter goodWord ++ (vx_atS RX6 74 "java/lang/IllegalArgumentException" ["java/lang/RuntimeException", "java/lang/Exception"]).filter goodWord)
def wsX6_moves_r1 : List Cond := [Cond.fieldLink RX6 46 "HopperCourt" "seats" "LHopperCourt$Seats;", Cond.fieldLink RX6 21 "HopperCourt" "marbles" "LHopperCourt$Marbles;", Cond.fieldLink RX6 30 "HopperCourt" "reach" "LHopperCourt$Reach;", Cond.methodLink RX6 107 yX4_onTurn, Cond.instanceMethod yX4_onTurn, Cond.selects RX4 yX4_onTurn yX4_onTurn, Cond.initialized RX4, Cond.code yX4_onTurn cX4_onTurn 1 (some .int), Cond.fieldLink RX4 22 "HopperCourt$Seats" "turn" "I", Cond.methodLink RX6 150 yX1_owner, Cond.instanceMethod yX1_owner, Cond.selects RX1 yX1_owner yX1_owner, Cond.initialized RX1, Cond.code yX1_owner cX1_owner 2 (some .int), Cond.fieldLink RX1 9 "HopperCourt$Marbles" "owners" "[I", Cond.static yX6_isCell, Cond.initialized RX6, Cond.code yX6_isCell cX6_isCell 1 (some .boolean), Cond.methodLink RX6 111 yX3_search, Cond.instanceMethod yX3_search, Cond.selects RX3 yX3_search yX3_search, Cond.initialized RX3, Cond.code yX3_search cX3_search 5 none, Cond.fieldLink RX3 25 "HopperCourt$Reach" "marbles" "LHopperCourt$Marbles;"]
def wsX6_moves_r2 : List Cond := [Cond.fieldLink RX3 9 "HopperCourt$Reach" "hopsToEnd" "[I", Cond.fieldLink RX3 15 "HopperCourt$Reach" "level" "[I", Cond.fieldLink RX3 21 "HopperCourt$Reach" "star" "LHopperCourt$Star;", Cond.methodLink RX3 29 yX1_owner, Cond.methodLink RX3 35 yX3_spread, Cond.instanceMethod yX3_spread, Cond.selects RX3 yX3_spread yX3_spread, Cond.code yX3_spread cX3_spread 8 none, Cond.fieldLink RX3 18 "HopperCourt$Reach" "queue" "[I", Cond.methodLink RX3 59 yX3_landing, Cond.instanceMethod yX3_landing, Cond.selects RX3 yX3_landing yX3_landing, Cond.code yX3_landing cX3_landing 6 (some .int), Cond.methodLink RX3 45 yX5_next, Cond.instanceMethod yX5_next, Cond.selects RX5 yX5_next yX5_next, Cond.initialized RX5, Cond.code yX5_next cX5_next 3 (some .int), Cond.fieldLink RX5 21 "HopperCourt$Star" "nexts" "[I", Cond.methodLink RX3 49 yX1_isEmpty, Cond.instanceMethod yX1_isEmpty, Cond.selects RX1 yX1_isEmpty yX1_isEmpty, Cond.code yX1_isEmpty cX1_isEmpty 2 (some .boolean), Cond.methodLink RX3 39 yX3_mayEnd]
def wsX6_moves_r3 : List Cond := [Cond.instanceMethod yX3_mayEnd, Cond.selects RX3 yX3_mayEnd yX3_mayEnd, Cond.code yX3_mayEnd cX3_mayEnd 6 (some .boolean), Cond.static yX6_goalOf, Cond.code yX6_goalOf cX6_goalOf 1 (some .int), Cond.methodLink RX3 66 yX5_camp, Cond.instanceMethod yX5_camp, Cond.selects RX5 yX5_camp yX5_camp, Cond.code yX5_camp cX5_camp 2 (some .int), Cond.fieldLink RX5 18 "HopperCourt$Star" "camps" "[I", Cond.methodLink RX6 163 yX3_countEnds, Cond.instanceMethod yX3_countEnds, Cond.selects RX3 yX3_countEnds yX3_countEnds, Cond.code yX3_countEnds cX3_countEnds 3 (some .int)]
def wsX6_moves : List Cond := .code yX6_moves cX6_moves 4 (some .int) :: ((wsX6_moves_r1 ++ (wsX6_moves_r2 ++ wsX6_moves_r3)) ++ wsX60 ++ wsX40 ++ wsX10 ++ wsX30 ++ wsX50)
def wsX6_pass_r1 : List Cond := [Cond.classLink RX6 102 "java/lang/IllegalStateException", Cond.initialized "java/lang/IllegalStateException", Cond.fieldLink RX6 53 "HopperCourt" "log" "LHopperCourt$Log;", Cond.fieldLink RX6 46 "HopperCourt" "seats" "LHopperCourt$Seats;", Cond.fieldLink RX6 61 "HopperCourt" "patience" "I", Cond.methodLink RX6 98 yX6_isOpen, Cond.instanceMethod yX6_isOpen, Cond.selects RX6 yX6_isOpen yX6_isOpen, Cond.initialized RX6, Cond.code yX6_isOpen cX6_isOpen 1 (some .boolean), Cond.methodLink RX6 107 yX4_onTurn, Cond.instanceMethod yX4_onTurn, Cond.selects RX4 yX4_onTurn yX4_onTurn, Cond.initialized RX4, Cond.code yX4_onTurn cX4_onTurn 1 (some .int), Cond.fieldLink RX4 22 "HopperCourt$Seats" "turn" "I", Cond.methodLink RX6 141 yX0_size, Cond.instanceMethod yX0_size, Cond.selects RX0 yX0_size yX0_size, Cond.initialized RX0, Cond.code yX0_size cX0_size 1 (some .int), Cond.fieldLink RX0 27 "HopperCourt$Log" "size" "I", Cond.methodLink RX6 136 yX6_moves, Cond.instanceMethod yX6_moves]
def wsX6_pass_r2 : List Cond := [Cond.selects RX6 yX6_moves yX6_moves, Cond.code yX6_moves cX6_moves 4 (some .int), Cond.fieldLink RX6 21 "HopperCourt" "marbles" "LHopperCourt$Marbles;", Cond.fieldLink RX6 30 "HopperCourt" "reach" "LHopperCourt$Reach;", Cond.methodLink RX6 150 yX1_owner, Cond.instanceMethod yX1_owner, Cond.selects RX1 yX1_owner yX1_owner, Cond.initialized RX1, Cond.code yX1_owner cX1_owner 2 (some .int), Cond.fieldLink RX1 9 "HopperCourt$Marbles" "owners" "[I", Cond.static yX6_isCell, Cond.code yX6_isCell cX6_isCell 1 (some .boolean), Cond.methodLink RX6 111 yX3_search, Cond.instanceMethod yX3_search, Cond.selects RX3 yX3_search yX3_search, Cond.initialized RX3, Cond.code yX3_search cX3_search 5 none, Cond.fieldLink RX3 25 "HopperCourt$Reach" "marbles" "LHopperCourt$Marbles;", Cond.fieldLink RX3 9 "HopperCourt$Reach" "hopsToEnd" "[I", Cond.fieldLink RX3 15 "HopperCourt$Reach" "level" "[I", Cond.fieldLink RX3 21 "HopperCourt$Reach" "star" "LHopperCourt$Star;", Cond.methodLink RX3 29 yX1_owner, Cond.methodLink RX3 35 yX3_spread, Cond.instanceMethod yX3_spread]
def wsX6_pass_r3 : List Cond := [Cond.selects RX3 yX3_spread yX3_spread, Cond.code yX3_spread cX3_spread 8 none, Cond.fieldLink RX3 18 "HopperCourt$Reach" "queue" "[I", Cond.methodLink RX3 59 yX3_landing, Cond.instanceMethod yX3_landing, Cond.selects RX3 yX3_landing yX3_landing, Cond.code yX3_landing cX3_landing 6 (some .int), Cond.methodLink RX3 45 yX5_next, Cond.instanceMethod yX5_next, Cond.selects RX5 yX5_next yX5_next, Cond.initialized RX5, Cond.code yX5_next cX5_next 3 (some .int), Cond.fieldLink RX5 21 "HopperCourt$Star" "nexts" "[I", Cond.methodLink RX3 49 yX1_isEmpty, Cond.instanceMethod yX1_isEmpty, Cond.selects RX1 yX1_isEmpty yX1_isEmpty, Cond.code yX1_isEmpty cX1_isEmpty 2 (some .boolean), Cond.methodLink RX3 39 yX3_mayEnd, Cond.instanceMethod yX3_mayEnd, Cond.selects RX3 yX3_mayEnd yX3_mayEnd, Cond.code yX3_mayEnd cX3_mayEnd 6 (some .boolean), Cond.static yX6_goalOf, Cond.code yX6_goalOf cX6_goalOf 1 (some .int), Cond.methodLink RX3 66 yX5_camp]
def wsX6_pass_r4 : List Cond := [Cond.instanceMethod yX5_camp, Cond.selects RX5 yX5_camp yX5_camp, Cond.code yX5_camp cX5_camp 2 (some .int), Cond.fieldLink RX5 18 "HopperCourt$Star" "camps" "[I", Cond.methodLink RX6 163 yX3_countEnds, Cond.instanceMethod yX3_countEnds, Cond.selects RX3 yX3_countEnds yX3_countEnds, Cond.code yX3_countEnds cX3_countEnds 3 (some .int), Cond.methodLink RX6 120 yX0_add, Cond.instanceMethod yX0_add, Cond.selects RX0 yX0_add yX0_add, Cond.code yX0_add cX0_add 4 none, Cond.fieldLink RX0 9 "HopperCourt$Log" "froms" "[I", Cond.fieldLink RX0 15 "HopperCourt$Log" "tos" "[I", Cond.fieldLink RX0 18 "HopperCourt$Log" "turns" "[I", Cond.fieldLink RX0 21 "HopperCourt$Log" "outs" "[I", Cond.fieldLink RX0 24 "HopperCourt$Log" "placeds" "[I", Cond.methodLink RX0 31 yX4_onTurn, Cond.methodLink RX0 37 yX4_outSet, Cond.instanceMethod yX4_outSet, Cond.selects RX4 yX4_outSet yX4_outSet, Cond.code yX4_outSet cX4_outSet 1 (some .int), Cond.fieldLink RX4 29 "HopperCourt$Seats" "out" "I", Cond.methodLink RX0 40 yX4_placedCount]
def wsX6_pass_r5 : List Cond := [Cond.instanceMethod yX4_placedCount, Cond.selects RX4 yX4_placedCount yX4_placedCount, Cond.code yX4_placedCount cX4_placedCount 1 (some .int), Cond.fieldLink RX4 32 "HopperCourt$Seats" "placed" "I", Cond.methodLink RX6 127 yX4_countMove, Cond.instanceMethod yX4_countMove, Cond.selects RX4 yX4_countMove yX4_countMove, Cond.code yX4_countMove cX4_countMove 1 none, Cond.fieldLink RX4 9 "HopperCourt$Seats" "madeBy" "[I", Cond.static yX6_isCamp, Cond.code yX6_isCamp cX6_isCamp 1 (some .boolean), Cond.methodLink RX6 133 yX4_goOn, Cond.instanceMethod yX4_goOn, Cond.selects RX4 yX4_goOn yX4_goOn, Cond.code yX4_goOn cX4_goOn 5 none, Cond.methodLink RX4 42 yX4_isStillIn, Cond.instanceMethod yX4_isStillIn, Cond.selects RX4 yX4_isStillIn yX4_isStillIn, Cond.code yX4_isStillIn cX4_isStillIn 2 (some .boolean), Cond.methodLink RX4 35 yX4_plays, Cond.instanceMethod yX4_plays, Cond.selects RX4 yX4_plays yX4_plays, Cond.code yX4_plays cX4_plays 2 (some .boolean), Cond.fieldLink RX4 26 "HopperCourt$Seats" "playing" "I"]
def wsX6_pass_r6 : List Cond := [Cond.methodLink RX4 52 yX4_hasDroppedOut, Cond.instanceMethod yX4_hasDroppedOut, Cond.selects RX4 yX4_hasDroppedOut yX4_hasDroppedOut, Cond.code yX4_hasDroppedOut cX4_hasDroppedOut 2 (some .boolean), Cond.methodLink RX4 55 yX4_isPlaced, Cond.instanceMethod yX4_isPlaced, Cond.selects RX4 yX4_isPlaced yX4_isPlaced, Cond.code yX4_isPlaced cX4_isPlaced 3 (some .boolean), Cond.fieldLink RX4 15 "HopperCourt$Seats" "places" "[I", Cond.methodLink RX4 49 yX4_isTooLate, Cond.instanceMethod yX4_isTooLate, Cond.selects RX4 yX4_isTooLate yX4_isTooLate, Cond.code yX4_isTooLate cX4_isTooLate 3 (some .boolean), Cond.fieldLink RX4 18 "HopperCourt$Seats" "marbles" "LHopperCourt$Marbles;", Cond.methodLink RX4 62 yX1_countInCamp, Cond.instanceMethod yX1_countInCamp, Cond.selects RX1 yX1_countInCamp yX1_countInCamp, Cond.code yX1_countInCamp cX1_countInCamp 5 (some .int), Cond.fieldLink RX1 15 "HopperCourt$Marbles" "star" "LHopperCourt$Star;", Cond.methodLink RX1 23 yX5_camp]
def wsX6_pass : List Cond := .code yX6_pass cX6_pass 1 none :: ((wsX6_pass_r1 ++ (wsX6_pass_r2 ++ (wsX6_pass_r3 ++ (wsX6_pass_r4 ++ (wsX6_pass_r5 ++ wsX6_pass_r6))))) ++ wsX60 ++ wsX40 ++ wsX00 ++ wsX10 ++ wsX30 ++ wsX50 ++ (vx_atS RX6 106 "java/lang/IllegalStateException" ["java/lang/RuntimeException", "java/lang/Exception"]).filter goodWord)
def wsX6_undo_r1 : List Cond := [Cond.classLink RX6 102 "java/lang/IllegalStateException", Cond.initialized "java/lang/IllegalStateException", Cond.fieldLink RX6 53 "HopperCourt" "log" "LHopperCourt$Log;", Cond.fieldLink RX6 21 "HopperCourt" "marbles" "LHopperCourt$Marbles;", Cond.fieldLink RX6 46 "HopperCourt" "seats" "LHopperCourt$Seats;", Cond.methodLink RX6 141 yX0_size, Cond.instanceMethod yX0_size, Cond.selects RX0 yX0_size yX0_size, Cond.initialized RX0, Cond.code yX0_size cX0_size 1 (some .int), Cond.fieldLink RX0 27 "HopperCourt$Log" "size" "I", Cond.methodLink RX6 146 yX0_takeBack, Cond.instanceMethod yX0_takeBack, Cond.selects RX0 yX0_takeBack yX0_takeBack, Cond.code yX0_takeBack cX0_takeBack 3 none, Cond.fieldLink RX0 15 "HopperCourt$Log" "tos" "[I", Cond.fieldLink RX0 9 "HopperCourt$Log" "froms" "[I", Cond.fieldLink RX0 18 "HopperCourt$Log" "turns" "[I", Cond.fieldLink RX0 21 "HopperCourt$Log" "outs" "[I", Cond.fieldLink RX0 24 "HopperCourt$Log" "placeds" "[I", Cond.methodLink RX0 43 yX1_carry, Cond.instanceMethod yX1_carry, Cond.selects RX1 yX1_carry yX1_carry, Cond.initialized RX1]
def wsX6_undo_r2 : List Cond := [Cond.code yX1_carry cX1_carry 3 none, Cond.fieldLink RX1 9 "HopperCourt$Marbles" "owners" "[I", Cond.static yX6_isCell, Cond.initialized RX6, Cond.code yX6_isCell cX6_isCell 1 (some .boolean), Cond.methodLink RX0 49 yX4_restore, Cond.instanceMethod yX4_restore, Cond.selects RX4 yX4_restore yX4_restore, Cond.initialized RX4, Cond.code yX4_restore cX4_restore 4 none, Cond.fieldLink RX4 22 "HopperCourt$Seats" "turn" "I", Cond.fieldLink RX4 29 "HopperCourt$Seats" "out" "I", Cond.fieldLink RX4 32 "HopperCourt$Seats" "placed" "I", Cond.fieldLink RX4 9 "HopperCourt$Seats" "madeBy" "[I", Cond.static yX6_isCamp, Cond.code yX6_isCamp cX6_isCamp 1 (some .boolean)]
def wsX6_undo : List Cond := .code yX6_undo cX6_undo 1 (some .int) :: ((wsX6_undo_r1 ++ wsX6_undo_r2) ++ wsX60 ++ wsX00 ++ wsX10 ++ wsX40 ++ (vx_atS RX6 106 "java/lang/IllegalStateException" ["java/lang/RuntimeException", "java/lang/Exception"]).filter goodWord)
def wsX6_at : List Cond := .code yX6_at cX6_at 2 (some .int) :: ([.classLink RX6 93 "java/lang/IndexOutOfBoundsException", .initialized "java/lang/IndexOutOfBoundsException", .fieldLink RX6 21 "HopperCourt" "marbles" "LHopperCourt$Marbles;", .methodLink RX6 89 yX6_isCell, .static yX6_isCell, .initialized RX6, .code yX6_isCell cX6_isCell 1 (some .boolean), .methodLink RX6 150 yX1_owner, .instanceMethod yX1_owner, .selects RX1 yX1_owner yX1_owner, .initialized RX1, .code yX1_owner cX1_owner 2 (some .int), .fieldLink RX1 9 "HopperCourt$Marbles" "owners" "[I"] ++ wsX60 ++ wsX10 ++ (vx_atS RX6 97 "java/lang/IndexOutOfBoundsException" ["java/lang/RuntimeException", "java/lang/Exception"]).filter goodWord)
def wsX6_cellAt : List Cond := .code yX6_cellAt cX6_cellAt 3 (some .int) :: ([.methodLink RX6 153 yX5_cellIn, .static yX5_cellIn, .initialized RX5, .code yX5_cellIn cX5_cellIn 4 (some .int), .fieldLink RX5 27 "HopperCourt$Star" "FIRST_COLUMN" "[I", .fieldLink RX5 24 "HopperCourt$Star" "FIRST_CELL" "[I"])
def wsX6_campOf : List Cond := .code yX6_campOf cX6_campOf 2 (some .int) :: ([.classLink RX6 93 "java/lang/IndexOutOfBoundsException", .initialized "java/lang/IndexOutOfBoundsException", .fieldLink RX6 10 "HopperCourt" "star" "LHopperCourt$Star;", .methodLink RX6 89 yX6_isCell, .static yX6_isCell, .initialized RX6, .code yX6_isCell cX6_isCell 1 (some .boolean), .methodLink RX6 157 yX5_camp, .instanceMethod yX5_camp, .selects RX5 yX5_camp yX5_camp, .initialized RX5, .code yX5_camp cX5_camp 2 (some .int), .fieldLink RX5 18 "HopperCourt$Star" "camps" "[I"] ++ wsX60 ++ wsX50 ++ (vx_atS RX6 97 "java/lang/IndexOutOfBoundsException" ["java/lang/RuntimeException", "java/lang/Exception"]).filter goodWord)
def wsX6_distance : List Cond := .code yX6_distance cX6_distance 3 (some .int) :: ([.classLink RX6 93 "java/lang/IndexOutOfBoundsException", .initialized "java/lang/IndexOutOfBoundsException", .fieldLink RX6 10 "HopperCourt" "star" "LHopperCourt$Star;", .methodLink RX6 89 yX6_isCell, .static yX6_isCell, .initialized RX6, .code yX6_isCell cX6_isCell 1 (some .boolean), .methodLink RX6 160 yX5_steps, .instanceMethod yX5_steps, .selects RX5 yX5_steps yX5_steps, .initialized RX5, .code yX5_steps cX5_steps 5 (some .int), .fieldLink RX5 9 "HopperCourt$Star" "rows" "[I", .methodLink RX5 47 Lib.Math.abs.name, .static Lib.Math.abs.name, .initialized "java/lang/Math", .code Lib.Math.abs.name Lib.Math.abs.code 1 (some .int), .fieldLink RX5 15 "HopperCourt$Star" "columns" "[I", .methodLink RX5 53 Lib.Math.max.name, .static Lib.Math.max.name, .code Lib.Math.max.name Lib.Math.max.code 2 (some .int)] ++ wsX60 ++ wsX50 ++ (vx_atS RX6 97 "java/lang/IndexOutOfBoundsException" ["java/lang/RuntimeException", "java/lang/Exception"]).filter goodWord)
def wsX6_turn : List Cond := .code yX6_turn cX6_turn 1 (some .int) :: ([.fieldLink RX6 46 "HopperCourt" "seats" "LHopperCourt$Seats;", .methodLink RX6 107 yX4_onTurn, .instanceMethod yX4_onTurn, .selects RX4 yX4_onTurn yX4_onTurn, .initialized RX4, .code yX4_onTurn cX4_onTurn 1 (some .int), .fieldLink RX4 22 "HopperCourt$Seats" "turn" "I"] ++ wsX60 ++ wsX40)
def wsX6_made : List Cond := .code yX6_made cX6_made 1 (some .int) :: ([.fieldLink RX6 53 "HopperCourt" "log" "LHopperCourt$Log;", .methodLink RX6 141 yX0_size, .instanceMethod yX0_size, .selects RX0 yX0_size yX0_size, .initialized RX0, .code yX0_size cX0_size 1 (some .int), .fieldLink RX0 27 "HopperCourt$Log" "size" "I"] ++ wsX60 ++ wsX00)
def wsX6_ends_r1 : List Cond := [Cond.classLink RX6 93 "java/lang/IndexOutOfBoundsException", Cond.initialized "java/lang/IndexOutOfBoundsException", Cond.fieldLink RX6 30 "HopperCourt" "reach" "LHopperCourt$Reach;", Cond.fieldLink RX6 46 "HopperCourt" "seats" "LHopperCourt$Seats;", Cond.methodLink RX6 89 yX6_isCell, Cond.static yX6_isCell, Cond.initialized RX6, Cond.code yX6_isCell cX6_isCell 1 (some .boolean), Cond.methodLink RX6 107 yX4_onTurn, Cond.instanceMethod yX4_onTurn, Cond.selects RX4 yX4_onTurn yX4_onTurn, Cond.initialized RX4, Cond.code yX4_onTurn cX4_onTurn 1 (some .int), Cond.fieldLink RX4 22 "HopperCourt$Seats" "turn" "I", Cond.methodLink RX6 111 yX3_search, Cond.instanceMethod yX3_search, Cond.selects RX3 yX3_search yX3_search, Cond.initialized RX3, Cond.code yX3_search cX3_search 5 none, Cond.fieldLink RX3 25 "HopperCourt$Reach" "marbles" "LHopperCourt$Marbles;", Cond.fieldLink RX3 9 "HopperCourt$Reach" "hopsToEnd" "[I", Cond.fieldLink RX3 15 "HopperCourt$Reach" "level" "[I", Cond.fieldLink RX3 21 "HopperCourt$Reach" "star" "LHopperCourt$Star;", Cond.methodLink RX3 29 yX1_owner]
def wsX6_ends_r2 : List Cond := [Cond.instanceMethod yX1_owner, Cond.selects RX1 yX1_owner yX1_owner, Cond.initialized RX1, Cond.code yX1_owner cX1_owner 2 (some .int), Cond.fieldLink RX1 9 "HopperCourt$Marbles" "owners" "[I", Cond.methodLink RX3 35 yX3_spread, Cond.instanceMethod yX3_spread, Cond.selects RX3 yX3_spread yX3_spread, Cond.code yX3_spread cX3_spread 8 none, Cond.fieldLink RX3 18 "HopperCourt$Reach" "queue" "[I", Cond.methodLink RX3 59 yX3_landing, Cond.instanceMethod yX3_landing, Cond.selects RX3 yX3_landing yX3_landing, Cond.code yX3_landing cX3_landing 6 (some .int), Cond.methodLink RX3 45 yX5_next, Cond.instanceMethod yX5_next, Cond.selects RX5 yX5_next yX5_next, Cond.initialized RX5, Cond.code yX5_next cX5_next 3 (some .int), Cond.fieldLink RX5 21 "HopperCourt$Star" "nexts" "[I", Cond.methodLink RX3 49 yX1_isEmpty, Cond.instanceMethod yX1_isEmpty, Cond.selects RX1 yX1_isEmpty yX1_isEmpty, Cond.code yX1_isEmpty cX1_isEmpty 2 (some .boolean)]
def wsX6_ends_r3 : List Cond := [Cond.methodLink RX3 39 yX3_mayEnd, Cond.instanceMethod yX3_mayEnd, Cond.selects RX3 yX3_mayEnd yX3_mayEnd, Cond.code yX3_mayEnd cX3_mayEnd 6 (some .boolean), Cond.static yX6_goalOf, Cond.code yX6_goalOf cX6_goalOf 1 (some .int), Cond.methodLink RX3 66 yX5_camp, Cond.instanceMethod yX5_camp, Cond.selects RX5 yX5_camp yX5_camp, Cond.code yX5_camp cX5_camp 2 (some .int), Cond.fieldLink RX5 18 "HopperCourt$Star" "camps" "[I", Cond.methodLink RX6 163 yX3_countEnds, Cond.instanceMethod yX3_countEnds, Cond.selects RX3 yX3_countEnds yX3_countEnds, Cond.code yX3_countEnds cX3_countEnds 3 (some .int)]
def wsX6_ends : List Cond := .code yX6_ends cX6_ends 2 (some .int) :: ((wsX6_ends_r1 ++ (wsX6_ends_r2 ++ wsX6_ends_r3)) ++ wsX60 ++ wsX40 ++ wsX30 ++ wsX10 ++ wsX50 ++ (vx_atS RX6 97 "java/lang/IndexOutOfBoundsException" ["java/lang/RuntimeException", "java/lang/Exception"]).filter goodWord)
def wsX6_endAt_r1 : List Cond := [Cond.classLink RX6 93 "java/lang/IndexOutOfBoundsException", Cond.initialized "java/lang/IndexOutOfBoundsException", Cond.fieldLink RX6 30 "HopperCourt" "reach" "LHopperCourt$Reach;", Cond.fieldLink RX6 46 "HopperCourt" "seats" "LHopperCourt$Seats;", Cond.methodLink RX6 89 yX6_isCell, Cond.static yX6_isCell, Cond.initialized RX6, Cond.code yX6_isCell cX6_isCell 1 (some .boolean), Cond.methodLink RX6 107 yX4_onTurn, Cond.instanceMethod yX4_onTurn, Cond.selects RX4 yX4_onTurn yX4_onTurn, Cond.initialized RX4, Cond.code yX4_onTurn cX4_onTurn 1 (some .int), Cond.fieldLink RX4 22 "HopperCourt$Seats" "turn" "I", Cond.methodLink RX6 111 yX3_search, Cond.instanceMethod yX3_search, Cond.selects RX3 yX3_search yX3_search, Cond.initialized RX3, Cond.code yX3_search cX3_search 5 none, Cond.fieldLink RX3 25 "HopperCourt$Reach" "marbles" "LHopperCourt$Marbles;", Cond.fieldLink RX3 9 "HopperCourt$Reach" "hopsToEnd" "[I", Cond.fieldLink RX3 15 "HopperCourt$Reach" "level" "[I", Cond.fieldLink RX3 21 "HopperCourt$Reach" "star" "LHopperCourt$Star;", Cond.methodLink RX3 29 yX1_owner]
def wsX6_endAt_r2 : List Cond := [Cond.instanceMethod yX1_owner, Cond.selects RX1 yX1_owner yX1_owner, Cond.initialized RX1, Cond.code yX1_owner cX1_owner 2 (some .int), Cond.fieldLink RX1 9 "HopperCourt$Marbles" "owners" "[I", Cond.methodLink RX3 35 yX3_spread, Cond.instanceMethod yX3_spread, Cond.selects RX3 yX3_spread yX3_spread, Cond.code yX3_spread cX3_spread 8 none, Cond.fieldLink RX3 18 "HopperCourt$Reach" "queue" "[I", Cond.methodLink RX3 59 yX3_landing, Cond.instanceMethod yX3_landing, Cond.selects RX3 yX3_landing yX3_landing, Cond.code yX3_landing cX3_landing 6 (some .int), Cond.methodLink RX3 45 yX5_next, Cond.instanceMethod yX5_next, Cond.selects RX5 yX5_next yX5_next, Cond.initialized RX5, Cond.code yX5_next cX5_next 3 (some .int), Cond.fieldLink RX5 21 "HopperCourt$Star" "nexts" "[I", Cond.methodLink RX3 49 yX1_isEmpty, Cond.instanceMethod yX1_isEmpty, Cond.selects RX1 yX1_isEmpty yX1_isEmpty, Cond.code yX1_isEmpty cX1_isEmpty 2 (some .boolean)]
def wsX6_endAt_r3 : List Cond := [Cond.methodLink RX3 39 yX3_mayEnd, Cond.instanceMethod yX3_mayEnd, Cond.selects RX3 yX3_mayEnd yX3_mayEnd, Cond.code yX3_mayEnd cX3_mayEnd 6 (some .boolean), Cond.static yX6_goalOf, Cond.code yX6_goalOf cX6_goalOf 1 (some .int), Cond.methodLink RX3 66 yX5_camp, Cond.instanceMethod yX5_camp, Cond.selects RX5 yX5_camp yX5_camp, Cond.code yX5_camp cX5_camp 2 (some .int), Cond.fieldLink RX5 18 "HopperCourt$Star" "camps" "[I", Cond.methodLink RX6 166 yX3_end, Cond.instanceMethod yX3_end, Cond.selects RX3 yX3_end yX3_end, Cond.code yX3_end cX3_end 4 (some .int)]
def wsX6_endAt : List Cond := .code yX6_endAt cX6_endAt 4 (some .int) :: ((wsX6_endAt_r1 ++ (wsX6_endAt_r2 ++ wsX6_endAt_r3)) ++ wsX60 ++ wsX40 ++ wsX30 ++ wsX10 ++ wsX50 ++ (vx_atS RX6 97 "java/lang/IndexOutOfBoundsException" ["java/lang/RuntimeException", "java/lang/Exception"]).filter goodWord)
def wsX6_chainAt_r1 : List Cond := [Cond.classLink RX6 93 "java/lang/IndexOutOfBoundsException", Cond.initialized "java/lang/IndexOutOfBoundsException", Cond.fieldLink RX6 30 "HopperCourt" "reach" "LHopperCourt$Reach;", Cond.fieldLink RX6 46 "HopperCourt" "seats" "LHopperCourt$Seats;", Cond.methodLink RX6 89 yX6_isCell, Cond.static yX6_isCell, Cond.initialized RX6, Cond.code yX6_isCell cX6_isCell 1 (some .boolean), Cond.methodLink RX6 107 yX4_onTurn, Cond.instanceMethod yX4_onTurn, Cond.selects RX4 yX4_onTurn yX4_onTurn, Cond.initialized RX4, Cond.code yX4_onTurn cX4_onTurn 1 (some .int), Cond.fieldLink RX4 22 "HopperCourt$Seats" "turn" "I", Cond.methodLink RX6 111 yX3_search, Cond.instanceMethod yX3_search, Cond.selects RX3 yX3_search yX3_search, Cond.initialized RX3, Cond.code yX3_search cX3_search 5 none, Cond.fieldLink RX3 25 "HopperCourt$Reach" "marbles" "LHopperCourt$Marbles;", Cond.fieldLink RX3 9 "HopperCourt$Reach" "hopsToEnd" "[I", Cond.fieldLink RX3 15 "HopperCourt$Reach" "level" "[I", Cond.fieldLink RX3 21 "HopperCourt$Reach" "star" "LHopperCourt$Star;", Cond.methodLink RX3 29 yX1_owner]
def wsX6_chainAt_r2 : List Cond := [Cond.instanceMethod yX1_owner, Cond.selects RX1 yX1_owner yX1_owner, Cond.initialized RX1, Cond.code yX1_owner cX1_owner 2 (some .int), Cond.fieldLink RX1 9 "HopperCourt$Marbles" "owners" "[I", Cond.methodLink RX3 35 yX3_spread, Cond.instanceMethod yX3_spread, Cond.selects RX3 yX3_spread yX3_spread, Cond.code yX3_spread cX3_spread 8 none, Cond.fieldLink RX3 18 "HopperCourt$Reach" "queue" "[I", Cond.methodLink RX3 59 yX3_landing, Cond.instanceMethod yX3_landing, Cond.selects RX3 yX3_landing yX3_landing, Cond.code yX3_landing cX3_landing 6 (some .int), Cond.methodLink RX3 45 yX5_next, Cond.instanceMethod yX5_next, Cond.selects RX5 yX5_next yX5_next, Cond.initialized RX5, Cond.code yX5_next cX5_next 3 (some .int), Cond.fieldLink RX5 21 "HopperCourt$Star" "nexts" "[I", Cond.methodLink RX3 49 yX1_isEmpty, Cond.instanceMethod yX1_isEmpty, Cond.selects RX1 yX1_isEmpty yX1_isEmpty, Cond.code yX1_isEmpty cX1_isEmpty 2 (some .boolean)]
def wsX6_chainAt_r3 : List Cond := [Cond.methodLink RX3 39 yX3_mayEnd, Cond.instanceMethod yX3_mayEnd, Cond.selects RX3 yX3_mayEnd yX3_mayEnd, Cond.code yX3_mayEnd cX3_mayEnd 6 (some .boolean), Cond.static yX6_goalOf, Cond.code yX6_goalOf cX6_goalOf 1 (some .int), Cond.methodLink RX3 66 yX5_camp, Cond.instanceMethod yX5_camp, Cond.selects RX5 yX5_camp yX5_camp, Cond.code yX5_camp cX5_camp 2 (some .int), Cond.fieldLink RX5 18 "HopperCourt$Star" "camps" "[I", Cond.methodLink RX6 115 yX3_hopsTo, Cond.instanceMethod yX3_hopsTo, Cond.selects RX3 yX3_hopsTo yX3_hopsTo, Cond.code yX3_hopsTo cX3_hopsTo 2 (some .int), Cond.methodLink RX6 173 yX3_cellBehind, Cond.instanceMethod yX3_cellBehind, Cond.selects RX3 yX3_cellBehind yX3_cellBehind, Cond.code yX3_cellBehind cX3_cellBehind 6 (some .int), Cond.methodLink RX3 56 yX3_lowestNearer, Cond.instanceMethod yX3_lowestNearer, Cond.selects RX3 yX3_lowestNearer yX3_lowestNearer, Cond.code yX3_lowestNearer cX3_lowestNearer 7 (some .int)]
def wsX6_chainAt : List Cond := .code yX6_chainAt cX6_chainAt 4 (some .int) :: ((wsX6_chainAt_r1 ++ (wsX6_chainAt_r2 ++ wsX6_chainAt_r3)) ++ wsX60 ++ wsX40 ++ wsX30 ++ wsX10 ++ wsX50 ++ (vx_atS RX6 97 "java/lang/IndexOutOfBoundsException" ["java/lang/RuntimeException", "java/lang/Exception"]).filter goodWord)
def wsX6_hops_r1 : List Cond := [Cond.classLink RX6 93 "java/lang/IndexOutOfBoundsException", Cond.initialized "java/lang/IndexOutOfBoundsException", Cond.fieldLink RX6 30 "HopperCourt" "reach" "LHopperCourt$Reach;", Cond.fieldLink RX6 46 "HopperCourt" "seats" "LHopperCourt$Seats;", Cond.methodLink RX6 89 yX6_isCell, Cond.static yX6_isCell, Cond.initialized RX6, Cond.code yX6_isCell cX6_isCell 1 (some .boolean), Cond.methodLink RX6 107 yX4_onTurn, Cond.instanceMethod yX4_onTurn, Cond.selects RX4 yX4_onTurn yX4_onTurn, Cond.initialized RX4, Cond.code yX4_onTurn cX4_onTurn 1 (some .int), Cond.fieldLink RX4 22 "HopperCourt$Seats" "turn" "I", Cond.methodLink RX6 111 yX3_search, Cond.instanceMethod yX3_search, Cond.selects RX3 yX3_search yX3_search, Cond.initialized RX3, Cond.code yX3_search cX3_search 5 none, Cond.fieldLink RX3 25 "HopperCourt$Reach" "marbles" "LHopperCourt$Marbles;", Cond.fieldLink RX3 9 "HopperCourt$Reach" "hopsToEnd" "[I", Cond.fieldLink RX3 15 "HopperCourt$Reach" "level" "[I", Cond.fieldLink RX3 21 "HopperCourt$Reach" "star" "LHopperCourt$Star;", Cond.methodLink RX3 29 yX1_owner]
def wsX6_hops_r2 : List Cond := [Cond.instanceMethod yX1_owner, Cond.selects RX1 yX1_owner yX1_owner, Cond.initialized RX1, Cond.code yX1_owner cX1_owner 2 (some .int), Cond.fieldLink RX1 9 "HopperCourt$Marbles" "owners" "[I", Cond.methodLink RX3 35 yX3_spread, Cond.instanceMethod yX3_spread, Cond.selects RX3 yX3_spread yX3_spread, Cond.code yX3_spread cX3_spread 8 none, Cond.fieldLink RX3 18 "HopperCourt$Reach" "queue" "[I", Cond.methodLink RX3 59 yX3_landing, Cond.instanceMethod yX3_landing, Cond.selects RX3 yX3_landing yX3_landing, Cond.code yX3_landing cX3_landing 6 (some .int), Cond.methodLink RX3 45 yX5_next, Cond.instanceMethod yX5_next, Cond.selects RX5 yX5_next yX5_next, Cond.initialized RX5, Cond.code yX5_next cX5_next 3 (some .int), Cond.fieldLink RX5 21 "HopperCourt$Star" "nexts" "[I", Cond.methodLink RX3 49 yX1_isEmpty, Cond.instanceMethod yX1_isEmpty, Cond.selects RX1 yX1_isEmpty yX1_isEmpty, Cond.code yX1_isEmpty cX1_isEmpty 2 (some .boolean)]
def wsX6_hops_r3 : List Cond := [Cond.methodLink RX3 39 yX3_mayEnd, Cond.instanceMethod yX3_mayEnd, Cond.selects RX3 yX3_mayEnd yX3_mayEnd, Cond.code yX3_mayEnd cX3_mayEnd 6 (some .boolean), Cond.static yX6_goalOf, Cond.code yX6_goalOf cX6_goalOf 1 (some .int), Cond.methodLink RX3 66 yX5_camp, Cond.instanceMethod yX5_camp, Cond.selects RX5 yX5_camp yX5_camp, Cond.code yX5_camp cX5_camp 2 (some .int), Cond.fieldLink RX5 18 "HopperCourt$Star" "camps" "[I", Cond.methodLink RX6 115 yX3_hopsTo, Cond.instanceMethod yX3_hopsTo, Cond.selects RX3 yX3_hopsTo yX3_hopsTo, Cond.code yX3_hopsTo cX3_hopsTo 2 (some .int)]
def wsX6_hops : List Cond := .code yX6_hops cX6_hops 3 (some .int) :: ((wsX6_hops_r1 ++ (wsX6_hops_r2 ++ wsX6_hops_r3)) ++ wsX60 ++ wsX40 ++ wsX30 ++ wsX10 ++ wsX50 ++ (vx_atS RX6 97 "java/lang/IndexOutOfBoundsException" ["java/lang/RuntimeException", "java/lang/Exception"]).filter goodWord)
def wsX6_finished : List Cond := .code yX6_finished cX6_finished 2 (some .int) :: ([.classLink RX6 93 "java/lang/IndexOutOfBoundsException", .initialized "java/lang/IndexOutOfBoundsException", .fieldLink RX6 46 "HopperCourt" "seats" "LHopperCourt$Seats;", .methodLink RX6 177 yX6_isCamp, .static yX6_isCamp, .initialized RX6, .code yX6_isCamp cX6_isCamp 1 (some .boolean), .methodLink RX6 182 yX4_playerAtPlace, .instanceMethod yX4_playerAtPlace, .selects RX4 yX4_playerAtPlace yX4_playerAtPlace, .initialized RX4, .code yX4_playerAtPlace cX4_playerAtPlace 2 (some .int), .fieldLink RX4 32 "HopperCourt$Seats" "placed" "I", .fieldLink RX4 15 "HopperCourt$Seats" "places" "[I"] ++ wsX60 ++ wsX40 ++ (vx_atS RX6 97 "java/lang/IndexOutOfBoundsException" ["java/lang/RuntimeException", "java/lang/Exception"]).filter goodWord)
def wsX6_isOut : List Cond := .code yX6_isOut cX6_isOut 2 (some .boolean) :: ([.classLink RX6 93 "java/lang/IndexOutOfBoundsException", .initialized "java/lang/IndexOutOfBoundsException", .fieldLink RX6 46 "HopperCourt" "seats" "LHopperCourt$Seats;", .methodLink RX6 177 yX6_isCamp, .static yX6_isCamp, .initialized RX6, .code yX6_isCamp cX6_isCamp 1 (some .boolean), .methodLink RX6 187 yX4_hasDroppedOut, .instanceMethod yX4_hasDroppedOut, .selects RX4 yX4_hasDroppedOut yX4_hasDroppedOut, .initialized RX4, .code yX4_hasDroppedOut cX4_hasDroppedOut 2 (some .boolean), .fieldLink RX4 29 "HopperCourt$Seats" "out" "I"] ++ wsX60 ++ wsX40 ++ (vx_atS RX6 97 "java/lang/IndexOutOfBoundsException" ["java/lang/RuntimeException", "java/lang/Exception"]).filter goodWord)
def wsX6_way_r1 : List Cond := [Cond.classLink RX6 93 "java/lang/IndexOutOfBoundsException", Cond.initialized "java/lang/IndexOutOfBoundsException", Cond.fieldLink RX6 46 "HopperCourt" "seats" "LHopperCourt$Seats;", Cond.fieldLink RX6 37 "HopperCourt" "pairing" "LHopperCourt$Pairing;", Cond.methodLink RX6 177 yX6_isCamp, Cond.static yX6_isCamp, Cond.initialized RX6, Cond.code yX6_isCamp cX6_isCamp 1 (some .boolean), Cond.methodLink RX6 190 yX4_plays, Cond.instanceMethod yX4_plays, Cond.selects RX4 yX4_plays yX4_plays, Cond.initialized RX4, Cond.code yX4_plays cX4_plays 2 (some .boolean), Cond.fieldLink RX4 26 "HopperCourt$Seats" "playing" "I", Cond.methodLink RX6 193 yX2_leastSum, Cond.instanceMethod yX2_leastSum, Cond.selects RX2 yX2_leastSum yX2_leastSum, Cond.initialized RX2, Cond.code yX2_leastSum cX2_leastSum 2 (some .int), Cond.fieldLink RX2 21 "HopperCourt$Pairing" "firstSums" "[I", Cond.methodLink RX2 38 yX2_measure, Cond.instanceMethod yX2_measure, Cond.selects RX2 yX2_measure yX2_measure, Cond.code yX2_measure cX2_measure 4 none]
def wsX6_way_r2 : List Cond := [Cond.fieldLink RX2 18 "HopperCourt$Pairing" "steps" "[I", Cond.fieldLink RX2 30 "HopperCourt$Pairing" "star" "LHopperCourt$Star;", Cond.fieldLink RX2 9 "HopperCourt$Pairing" "marbleCells" "[I", Cond.fieldLink RX2 15 "HopperCourt$Pairing" "goalCells" "[I", Cond.methodLink RX2 65 yX2_collect, Cond.instanceMethod yX2_collect, Cond.selects RX2 yX2_collect yX2_collect, Cond.code yX2_collect cX2_collect 6 none, Cond.fieldLink RX2 34 "HopperCourt$Pairing" "marbles" "LHopperCourt$Marbles;", Cond.static yX6_goalOf, Cond.code yX6_goalOf cX6_goalOf 1 (some .int), Cond.methodLink RX2 71 yX1_owner, Cond.instanceMethod yX1_owner, Cond.selects RX1 yX1_owner yX1_owner, Cond.initialized RX1, Cond.code yX1_owner cX1_owner 2 (some .int), Cond.fieldLink RX1 9 "HopperCourt$Marbles" "owners" "[I", Cond.static yX6_isCell, Cond.code yX6_isCell cX6_isCell 1 (some .boolean), Cond.methodLink RX2 76 yX5_camp, Cond.instanceMethod yX5_camp, Cond.selects RX5 yX5_camp yX5_camp, Cond.initialized RX5, Cond.code yX5_camp cX5_camp 2 (some .int)]
def wsX6_way_r3 : List Cond := [Cond.fieldLink RX5 18 "HopperCourt$Star" "camps" "[I", Cond.methodLink RX2 61 yX5_steps, Cond.instanceMethod yX5_steps, Cond.selects RX5 yX5_steps yX5_steps, Cond.code yX5_steps cX5_steps 5 (some .int), Cond.fieldLink RX5 9 "HopperCourt$Star" "rows" "[I", Cond.methodLink RX5 47 Lib.Math.abs.name, Cond.static Lib.Math.abs.name, Cond.initialized "java/lang/Math", Cond.code Lib.Math.abs.name Lib.Math.abs.code 1 (some .int), Cond.fieldLink RX5 15 "HopperCourt$Star" "columns" "[I", Cond.methodLink RX5 53 Lib.Math.max.name, Cond.static Lib.Math.max.name, Cond.code Lib.Math.max.name Lib.Math.max.code 2 (some .int), Cond.methodLink RX2 42 yX2_sumFirst, Cond.instanceMethod yX2_sumFirst, Cond.selects RX2 yX2_sumFirst yX2_sumFirst, Cond.code yX2_sumFirst cX2_sumFirst 2 none, Cond.methodLink RX2 51 yJ6_bitCount_0f7a4, Cond.static yJ6_bitCount_0f7a4, Cond.initialized RJ6, Cond.code yJ6_bitCount_0f7a4 cJ6_bitCount_0f7a4 1 (some .int), Cond.constant RJ6 265 (1431655765), Cond.constant RJ6 266 (858993459)]
def wsX6_way_r4 : List Cond := [Cond.constant RJ6 267 (252645135), Cond.methodLink RX2 79 yX2_leastWith, Cond.instanceMethod yX2_leastWith, Cond.selects RX2 yX2_leastWith yX2_leastWith, Cond.code yX2_leastWith cX2_leastWith 7 (some .int), Cond.constant RX2 50 (2147483647), Cond.methodLink RX2 55 Lib.Math.min.name, Cond.static Lib.Math.min.name, Cond.code Lib.Math.min.name Lib.Math.min.code 2 (some .int)]
def wsX6_way : List Cond := .code yX6_way cX6_way 2 (some .int) :: ((wsX6_way_r1 ++ (wsX6_way_r2 ++ (wsX6_way_r3 ++ wsX6_way_r4))) ++ wsX60 ++ wsX40 ++ wsX20 ++ wsX10 ++ wsX50 ++ (vx_atS RX6 97 "java/lang/IndexOutOfBoundsException" ["java/lang/RuntimeException", "java/lang/Exception"]).filter goodWord)
def wsX6_bestMove_r1 : List Cond := [Cond.fieldLink RX6 46 "HopperCourt" "seats" "LHopperCourt$Seats;", Cond.fieldLink RX6 37 "HopperCourt" "pairing" "LHopperCourt$Pairing;", Cond.constant RX6 202 (2147483647), Cond.fieldLink RX6 30 "HopperCourt" "reach" "LHopperCourt$Reach;", Cond.methodLink RX6 107 yX4_onTurn, Cond.instanceMethod yX4_onTurn, Cond.selects RX4 yX4_onTurn yX4_onTurn, Cond.initialized RX4, Cond.code yX4_onTurn cX4_onTurn 1 (some .int), Cond.fieldLink RX4 22 "HopperCourt$Seats" "turn" "I", Cond.methodLink RX6 199 yX2_weighAllButOne, Cond.instanceMethod yX2_weighAllButOne, Cond.selects RX2 yX2_weighAllButOne yX2_weighAllButOne, Cond.initialized RX2, Cond.code yX2_weighAllButOne cX2_weighAllButOne 7 none, Cond.fieldLink RX2 27 "HopperCourt$Pairing" "otherSums" "[I", Cond.constant RX2 50 (2147483647), Cond.fieldLink RX2 21 "HopperCourt$Pairing" "firstSums" "[I", Cond.fieldLink RX2 24 "HopperCourt$Pairing" "lastSums" "[I", Cond.methodLink RX2 55 Lib.Math.min.name, Cond.static Lib.Math.min.name, Cond.initialized "java/lang/Math", Cond.code Lib.Math.min.name Lib.Math.min.code 2 (some .int), Cond.methodLink RX2 38 yX2_measure]
def wsX6_bestMove_r2 : List Cond := [Cond.instanceMethod yX2_measure, Cond.selects RX2 yX2_measure yX2_measure, Cond.code yX2_measure cX2_measure 4 none, Cond.fieldLink RX2 18 "HopperCourt$Pairing" "steps" "[I", Cond.fieldLink RX2 30 "HopperCourt$Pairing" "star" "LHopperCourt$Star;", Cond.fieldLink RX2 9 "HopperCourt$Pairing" "marbleCells" "[I", Cond.fieldLink RX2 15 "HopperCourt$Pairing" "goalCells" "[I", Cond.methodLink RX2 65 yX2_collect, Cond.instanceMethod yX2_collect, Cond.selects RX2 yX2_collect yX2_collect, Cond.code yX2_collect cX2_collect 6 none, Cond.fieldLink RX2 34 "HopperCourt$Pairing" "marbles" "LHopperCourt$Marbles;", Cond.static yX6_goalOf, Cond.initialized RX6, Cond.code yX6_goalOf cX6_goalOf 1 (some .int), Cond.methodLink RX2 71 yX1_owner, Cond.instanceMethod yX1_owner, Cond.selects RX1 yX1_owner yX1_owner, Cond.initialized RX1, Cond.code yX1_owner cX1_owner 2 (some .int), Cond.fieldLink RX1 9 "HopperCourt$Marbles" "owners" "[I", Cond.static yX6_isCell, Cond.code yX6_isCell cX6_isCell 1 (some .boolean), Cond.methodLink RX2 76 yX5_camp]
def wsX6_bestMove_r3 : List Cond := [Cond.instanceMethod yX5_camp, Cond.selects RX5 yX5_camp yX5_camp, Cond.initialized RX5, Cond.code yX5_camp cX5_camp 2 (some .int), Cond.fieldLink RX5 18 "HopperCourt$Star" "camps" "[I", Cond.methodLink RX2 61 yX5_steps, Cond.instanceMethod yX5_steps, Cond.selects RX5 yX5_steps yX5_steps, Cond.code yX5_steps cX5_steps 5 (some .int), Cond.fieldLink RX5 9 "HopperCourt$Star" "rows" "[I", Cond.methodLink RX5 47 Lib.Math.abs.name, Cond.static Lib.Math.abs.name, Cond.code Lib.Math.abs.name Lib.Math.abs.code 1 (some .int), Cond.fieldLink RX5 15 "HopperCourt$Star" "columns" "[I", Cond.methodLink RX5 53 Lib.Math.max.name, Cond.static Lib.Math.max.name, Cond.code Lib.Math.max.name Lib.Math.max.code 2 (some .int), Cond.methodLink RX2 42 yX2_sumFirst, Cond.instanceMethod yX2_sumFirst, Cond.selects RX2 yX2_sumFirst yX2_sumFirst, Cond.code yX2_sumFirst cX2_sumFirst 2 none, Cond.methodLink RX2 51 yJ6_bitCount_0f7a4, Cond.static yJ6_bitCount_0f7a4, Cond.initialized RJ6]
def wsX6_bestMove_r4 : List Cond := [Cond.code yJ6_bitCount_0f7a4 cJ6_bitCount_0f7a4 1 (some .int), Cond.constant RJ6 265 (1431655765), Cond.constant RJ6 266 (858993459), Cond.constant RJ6 267 (252645135), Cond.methodLink RX2 79 yX2_leastWith, Cond.instanceMethod yX2_leastWith, Cond.selects RX2 yX2_leastWith yX2_leastWith, Cond.code yX2_leastWith cX2_leastWith 7 (some .int), Cond.methodLink RX2 45 yX2_sumLast, Cond.instanceMethod yX2_sumLast, Cond.selects RX2 yX2_sumLast yX2_sumLast, Cond.code yX2_sumLast cX2_sumLast 2 none, Cond.methodLink RX6 203 yX2_marbleCell, Cond.instanceMethod yX2_marbleCell, Cond.selects RX2 yX2_marbleCell yX2_marbleCell, Cond.code yX2_marbleCell cX2_marbleCell 2 (some .int), Cond.methodLink RX6 111 yX3_search, Cond.instanceMethod yX3_search, Cond.selects RX3 yX3_search yX3_search, Cond.initialized RX3, Cond.code yX3_search cX3_search 5 none, Cond.fieldLink RX3 25 "HopperCourt$Reach" "marbles" "LHopperCourt$Marbles;", Cond.fieldLink RX3 9 "HopperCourt$Reach" "hopsToEnd" "[I", Cond.fieldLink RX3 15 "HopperCourt$Reach" "level" "[I"]
def wsX6_bestMove_r5 : List Cond := [Cond.fieldLink RX3 21 "HopperCourt$Reach" "star" "LHopperCourt$Star;", Cond.methodLink RX3 29 yX1_owner, Cond.methodLink RX3 35 yX3_spread, Cond.instanceMethod yX3_spread, Cond.selects RX3 yX3_spread yX3_spread, Cond.code yX3_spread cX3_spread 8 none, Cond.fieldLink RX3 18 "HopperCourt$Reach" "queue" "[I", Cond.methodLink RX3 59 yX3_landing, Cond.instanceMethod yX3_landing, Cond.selects RX3 yX3_landing yX3_landing, Cond.code yX3_landing cX3_landing 6 (some .int), Cond.methodLink RX3 45 yX5_next, Cond.instanceMethod yX5_next, Cond.selects RX5 yX5_next yX5_next, Cond.code yX5_next cX5_next 3 (some .int), Cond.fieldLink RX5 21 "HopperCourt$Star" "nexts" "[I", Cond.methodLink RX3 49 yX1_isEmpty, Cond.instanceMethod yX1_isEmpty, Cond.selects RX1 yX1_isEmpty yX1_isEmpty, Cond.code yX1_isEmpty cX1_isEmpty 2 (some .boolean), Cond.methodLink RX3 39 yX3_mayEnd, Cond.instanceMethod yX3_mayEnd, Cond.selects RX3 yX3_mayEnd yX3_mayEnd, Cond.code yX3_mayEnd cX3_mayEnd 6 (some .boolean)]
def wsX6_bestMove_r6 : List Cond := [Cond.methodLink RX3 66 yX5_camp, Cond.methodLink RX6 115 yX3_hopsTo, Cond.instanceMethod yX3_hopsTo, Cond.selects RX3 yX3_hopsTo yX3_hopsTo, Cond.code yX3_hopsTo cX3_hopsTo 2 (some .int), Cond.methodLink RX6 206 yX2_sumWith, Cond.instanceMethod yX2_sumWith, Cond.selects RX2 yX2_sumWith yX2_sumWith, Cond.code yX2_sumWith cX2_sumWith 6 (some .int)]
def wsX6_bestMove : List Cond := .code yX6_bestMove cX6_bestMove 8 (some .int) :: ((wsX6_bestMove_r1 ++ (wsX6_bestMove_r2 ++ (wsX6_bestMove_r3 ++ (wsX6_bestMove_r4 ++ (wsX6_bestMove_r5 ++ wsX6_bestMove_r6))))) ++ wsX60 ++ wsX40 ++ wsX20 ++ wsX10 ++ wsX50 ++ wsX30)
def wsX6_bestFrom_r1 : List Cond := [Cond.methodLink RX6 196 yX6_bestMove, Cond.instanceMethod yX6_bestMove, Cond.selects RX6 yX6_bestMove yX6_bestMove, Cond.initialized RX6, Cond.code yX6_bestMove cX6_bestMove 8 (some .int), Cond.fieldLink RX6 46 "HopperCourt" "seats" "LHopperCourt$Seats;", Cond.fieldLink RX6 37 "HopperCourt" "pairing" "LHopperCourt$Pairing;", Cond.constant RX6 202 (2147483647), Cond.fieldLink RX6 30 "HopperCourt" "reach" "LHopperCourt$Reach;", Cond.methodLink RX6 107 yX4_onTurn, Cond.instanceMethod yX4_onTurn, Cond.selects RX4 yX4_onTurn yX4_onTurn, Cond.initialized RX4, Cond.code yX4_onTurn cX4_onTurn 1 (some .int), Cond.fieldLink RX4 22 "HopperCourt$Seats" "turn" "I", Cond.methodLink RX6 199 yX2_weighAllButOne, Cond.instanceMethod yX2_weighAllButOne, Cond.selects RX2 yX2_weighAllButOne yX2_weighAllButOne, Cond.initialized RX2, Cond.code yX2_weighAllButOne cX2_weighAllButOne 7 none, Cond.fieldLink RX2 27 "HopperCourt$Pairing" "otherSums" "[I", Cond.constant RX2 50 (2147483647), Cond.fieldLink RX2 21 "HopperCourt$Pairing" "firstSums" "[I", Cond.fieldLink RX2 24 "HopperCourt$Pairing" "lastSums" "[I"]
def wsX6_bestFrom_r2 : List Cond := [Cond.methodLink RX2 55 Lib.Math.min.name, Cond.static Lib.Math.min.name, Cond.initialized "java/lang/Math", Cond.code Lib.Math.min.name Lib.Math.min.code 2 (some .int), Cond.methodLink RX2 38 yX2_measure, Cond.instanceMethod yX2_measure, Cond.selects RX2 yX2_measure yX2_measure, Cond.code yX2_measure cX2_measure 4 none, Cond.fieldLink RX2 18 "HopperCourt$Pairing" "steps" "[I", Cond.fieldLink RX2 30 "HopperCourt$Pairing" "star" "LHopperCourt$Star;", Cond.fieldLink RX2 9 "HopperCourt$Pairing" "marbleCells" "[I", Cond.fieldLink RX2 15 "HopperCourt$Pairing" "goalCells" "[I", Cond.methodLink RX2 65 yX2_collect, Cond.instanceMethod yX2_collect, Cond.selects RX2 yX2_collect yX2_collect, Cond.code yX2_collect cX2_collect 6 none, Cond.fieldLink RX2 34 "HopperCourt$Pairing" "marbles" "LHopperCourt$Marbles;", Cond.static yX6_goalOf, Cond.code yX6_goalOf cX6_goalOf 1 (some .int), Cond.methodLink RX2 71 yX1_owner, Cond.instanceMethod yX1_owner, Cond.selects RX1 yX1_owner yX1_owner, Cond.initialized RX1, Cond.code yX1_owner cX1_owner 2 (some .int)]
def wsX6_bestFrom_r3 : List Cond := [Cond.fieldLink RX1 9 "HopperCourt$Marbles" "owners" "[I", Cond.static yX6_isCell, Cond.code yX6_isCell cX6_isCell 1 (some .boolean), Cond.methodLink RX2 76 yX5_camp, Cond.instanceMethod yX5_camp, Cond.selects RX5 yX5_camp yX5_camp, Cond.initialized RX5, Cond.code yX5_camp cX5_camp 2 (some .int), Cond.fieldLink RX5 18 "HopperCourt$Star" "camps" "[I", Cond.methodLink RX2 61 yX5_steps, Cond.instanceMethod yX5_steps, Cond.selects RX5 yX5_steps yX5_steps, Cond.code yX5_steps cX5_steps 5 (some .int), Cond.fieldLink RX5 9 "HopperCourt$Star" "rows" "[I", Cond.methodLink RX5 47 Lib.Math.abs.name, Cond.static Lib.Math.abs.name, Cond.code Lib.Math.abs.name Lib.Math.abs.code 1 (some .int), Cond.fieldLink RX5 15 "HopperCourt$Star" "columns" "[I", Cond.methodLink RX5 53 Lib.Math.max.name, Cond.static Lib.Math.max.name, Cond.code Lib.Math.max.name Lib.Math.max.code 2 (some .int), Cond.methodLink RX2 42 yX2_sumFirst, Cond.instanceMethod yX2_sumFirst, Cond.selects RX2 yX2_sumFirst yX2_sumFirst]
def wsX6_bestFrom_r4 : List Cond := [Cond.code yX2_sumFirst cX2_sumFirst 2 none, Cond.methodLink RX2 51 yJ6_bitCount_0f7a4, Cond.static yJ6_bitCount_0f7a4, Cond.initialized RJ6, Cond.code yJ6_bitCount_0f7a4 cJ6_bitCount_0f7a4 1 (some .int), Cond.constant RJ6 265 (1431655765), Cond.constant RJ6 266 (858993459), Cond.constant RJ6 267 (252645135), Cond.methodLink RX2 79 yX2_leastWith, Cond.instanceMethod yX2_leastWith, Cond.selects RX2 yX2_leastWith yX2_leastWith, Cond.code yX2_leastWith cX2_leastWith 7 (some .int), Cond.methodLink RX2 45 yX2_sumLast, Cond.instanceMethod yX2_sumLast, Cond.selects RX2 yX2_sumLast yX2_sumLast, Cond.code yX2_sumLast cX2_sumLast 2 none, Cond.methodLink RX6 203 yX2_marbleCell, Cond.instanceMethod yX2_marbleCell, Cond.selects RX2 yX2_marbleCell yX2_marbleCell, Cond.code yX2_marbleCell cX2_marbleCell 2 (some .int), Cond.methodLink RX6 111 yX3_search, Cond.instanceMethod yX3_search, Cond.selects RX3 yX3_search yX3_search, Cond.initialized RX3]
def wsX6_bestFrom_r5 : List Cond := [Cond.code yX3_search cX3_search 5 none, Cond.fieldLink RX3 25 "HopperCourt$Reach" "marbles" "LHopperCourt$Marbles;", Cond.fieldLink RX3 9 "HopperCourt$Reach" "hopsToEnd" "[I", Cond.fieldLink RX3 15 "HopperCourt$Reach" "level" "[I", Cond.fieldLink RX3 21 "HopperCourt$Reach" "star" "LHopperCourt$Star;", Cond.methodLink RX3 29 yX1_owner, Cond.methodLink RX3 35 yX3_spread, Cond.instanceMethod yX3_spread, Cond.selects RX3 yX3_spread yX3_spread, Cond.code yX3_spread cX3_spread 8 none, Cond.fieldLink RX3 18 "HopperCourt$Reach" "queue" "[I", Cond.methodLink RX3 59 yX3_landing, Cond.instanceMethod yX3_landing, Cond.selects RX3 yX3_landing yX3_landing, Cond.code yX3_landing cX3_landing 6 (some .int), Cond.methodLink RX3 45 yX5_next, Cond.instanceMethod yX5_next, Cond.selects RX5 yX5_next yX5_next, Cond.code yX5_next cX5_next 3 (some .int), Cond.fieldLink RX5 21 "HopperCourt$Star" "nexts" "[I", Cond.methodLink RX3 49 yX1_isEmpty, Cond.instanceMethod yX1_isEmpty, Cond.selects RX1 yX1_isEmpty yX1_isEmpty, Cond.code yX1_isEmpty cX1_isEmpty 2 (some .boolean)]
def wsX6_bestFrom_r6 : List Cond := [Cond.methodLink RX3 39 yX3_mayEnd, Cond.instanceMethod yX3_mayEnd, Cond.selects RX3 yX3_mayEnd yX3_mayEnd, Cond.code yX3_mayEnd cX3_mayEnd 6 (some .boolean), Cond.methodLink RX3 66 yX5_camp, Cond.methodLink RX6 115 yX3_hopsTo, Cond.instanceMethod yX3_hopsTo, Cond.selects RX3 yX3_hopsTo yX3_hopsTo, Cond.code yX3_hopsTo cX3_hopsTo 2 (some .int), Cond.methodLink RX6 206 yX2_sumWith, Cond.instanceMethod yX2_sumWith, Cond.selects RX2 yX2_sumWith yX2_sumWith, Cond.code yX2_sumWith cX2_sumWith 6 (some .int)]
def wsX6_bestFrom : List Cond := .code yX6_bestFrom cX6_bestFrom 2 (some .int) :: ((wsX6_bestFrom_r1 ++ (wsX6_bestFrom_r2 ++ (wsX6_bestFrom_r3 ++ (wsX6_bestFrom_r4 ++ (wsX6_bestFrom_r5 ++ wsX6_bestFrom_r6))))) ++ wsX60 ++ wsX40 ++ wsX20 ++ wsX10 ++ wsX50 ++ wsX30)
def wsX6_bestTo_r1 : List Cond := [Cond.methodLink RX6 196 yX6_bestMove, Cond.instanceMethod yX6_bestMove, Cond.selects RX6 yX6_bestMove yX6_bestMove, Cond.initialized RX6, Cond.code yX6_bestMove cX6_bestMove 8 (some .int), Cond.fieldLink RX6 46 "HopperCourt" "seats" "LHopperCourt$Seats;", Cond.fieldLink RX6 37 "HopperCourt" "pairing" "LHopperCourt$Pairing;", Cond.constant RX6 202 (2147483647), Cond.fieldLink RX6 30 "HopperCourt" "reach" "LHopperCourt$Reach;", Cond.methodLink RX6 107 yX4_onTurn, Cond.instanceMethod yX4_onTurn, Cond.selects RX4 yX4_onTurn yX4_onTurn, Cond.initialized RX4, Cond.code yX4_onTurn cX4_onTurn 1 (some .int), Cond.fieldLink RX4 22 "HopperCourt$Seats" "turn" "I", Cond.methodLink RX6 199 yX2_weighAllButOne, Cond.instanceMethod yX2_weighAllButOne, Cond.selects RX2 yX2_weighAllButOne yX2_weighAllButOne, Cond.initialized RX2, Cond.code yX2_weighAllButOne cX2_weighAllButOne 7 none, Cond.fieldLink RX2 27 "HopperCourt$Pairing" "otherSums" "[I", Cond.constant RX2 50 (2147483647), Cond.fieldLink RX2 21 "HopperCourt$Pairing" "firstSums" "[I", Cond.fieldLink RX2 24 "HopperCourt$Pairing" "lastSums" "[I"]
def wsX6_bestTo_r2 : List Cond := [Cond.methodLink RX2 55 Lib.Math.min.name, Cond.static Lib.Math.min.name, Cond.initialized "java/lang/Math", Cond.code Lib.Math.min.name Lib.Math.min.code 2 (some .int), Cond.methodLink RX2 38 yX2_measure, Cond.instanceMethod yX2_measure, Cond.selects RX2 yX2_measure yX2_measure, Cond.code yX2_measure cX2_measure 4 none, Cond.fieldLink RX2 18 "HopperCourt$Pairing" "steps" "[I", Cond.fieldLink RX2 30 "HopperCourt$Pairing" "star" "LHopperCourt$Star;", Cond.fieldLink RX2 9 "HopperCourt$Pairing" "marbleCells" "[I", Cond.fieldLink RX2 15 "HopperCourt$Pairing" "goalCells" "[I", Cond.methodLink RX2 65 yX2_collect, Cond.instanceMethod yX2_collect, Cond.selects RX2 yX2_collect yX2_collect, Cond.code yX2_collect cX2_collect 6 none, Cond.fieldLink RX2 34 "HopperCourt$Pairing" "marbles" "LHopperCourt$Marbles;", Cond.static yX6_goalOf, Cond.code yX6_goalOf cX6_goalOf 1 (some .int), Cond.methodLink RX2 71 yX1_owner, Cond.instanceMethod yX1_owner, Cond.selects RX1 yX1_owner yX1_owner, Cond.initialized RX1, Cond.code yX1_owner cX1_owner 2 (some .int)]
def wsX6_bestTo_r3 : List Cond := [Cond.fieldLink RX1 9 "HopperCourt$Marbles" "owners" "[I", Cond.static yX6_isCell, Cond.code yX6_isCell cX6_isCell 1 (some .boolean), Cond.methodLink RX2 76 yX5_camp, Cond.instanceMethod yX5_camp, Cond.selects RX5 yX5_camp yX5_camp, Cond.initialized RX5, Cond.code yX5_camp cX5_camp 2 (some .int), Cond.fieldLink RX5 18 "HopperCourt$Star" "camps" "[I", Cond.methodLink RX2 61 yX5_steps, Cond.instanceMethod yX5_steps, Cond.selects RX5 yX5_steps yX5_steps, Cond.code yX5_steps cX5_steps 5 (some .int), Cond.fieldLink RX5 9 "HopperCourt$Star" "rows" "[I", Cond.methodLink RX5 47 Lib.Math.abs.name, Cond.static Lib.Math.abs.name, Cond.code Lib.Math.abs.name Lib.Math.abs.code 1 (some .int), Cond.fieldLink RX5 15 "HopperCourt$Star" "columns" "[I", Cond.methodLink RX5 53 Lib.Math.max.name, Cond.static Lib.Math.max.name, Cond.code Lib.Math.max.name Lib.Math.max.code 2 (some .int), Cond.methodLink RX2 42 yX2_sumFirst, Cond.instanceMethod yX2_sumFirst, Cond.selects RX2 yX2_sumFirst yX2_sumFirst]
def wsX6_bestTo_r4 : List Cond := [Cond.code yX2_sumFirst cX2_sumFirst 2 none, Cond.methodLink RX2 51 yJ6_bitCount_0f7a4, Cond.static yJ6_bitCount_0f7a4, Cond.initialized RJ6, Cond.code yJ6_bitCount_0f7a4 cJ6_bitCount_0f7a4 1 (some .int), Cond.constant RJ6 265 (1431655765), Cond.constant RJ6 266 (858993459), Cond.constant RJ6 267 (252645135), Cond.methodLink RX2 79 yX2_leastWith, Cond.instanceMethod yX2_leastWith, Cond.selects RX2 yX2_leastWith yX2_leastWith, Cond.code yX2_leastWith cX2_leastWith 7 (some .int), Cond.methodLink RX2 45 yX2_sumLast, Cond.instanceMethod yX2_sumLast, Cond.selects RX2 yX2_sumLast yX2_sumLast, Cond.code yX2_sumLast cX2_sumLast 2 none, Cond.methodLink RX6 203 yX2_marbleCell, Cond.instanceMethod yX2_marbleCell, Cond.selects RX2 yX2_marbleCell yX2_marbleCell, Cond.code yX2_marbleCell cX2_marbleCell 2 (some .int), Cond.methodLink RX6 111 yX3_search, Cond.instanceMethod yX3_search, Cond.selects RX3 yX3_search yX3_search, Cond.initialized RX3]
def wsX6_bestTo_r5 : List Cond := [Cond.code yX3_search cX3_search 5 none, Cond.fieldLink RX3 25 "HopperCourt$Reach" "marbles" "LHopperCourt$Marbles;", Cond.fieldLink RX3 9 "HopperCourt$Reach" "hopsToEnd" "[I", Cond.fieldLink RX3 15 "HopperCourt$Reach" "level" "[I", Cond.fieldLink RX3 21 "HopperCourt$Reach" "star" "LHopperCourt$Star;", Cond.methodLink RX3 29 yX1_owner, Cond.methodLink RX3 35 yX3_spread, Cond.instanceMethod yX3_spread, Cond.selects RX3 yX3_spread yX3_spread, Cond.code yX3_spread cX3_spread 8 none, Cond.fieldLink RX3 18 "HopperCourt$Reach" "queue" "[I", Cond.methodLink RX3 59 yX3_landing, Cond.instanceMethod yX3_landing, Cond.selects RX3 yX3_landing yX3_landing, Cond.code yX3_landing cX3_landing 6 (some .int), Cond.methodLink RX3 45 yX5_next, Cond.instanceMethod yX5_next, Cond.selects RX5 yX5_next yX5_next, Cond.code yX5_next cX5_next 3 (some .int), Cond.fieldLink RX5 21 "HopperCourt$Star" "nexts" "[I", Cond.methodLink RX3 49 yX1_isEmpty, Cond.instanceMethod yX1_isEmpty, Cond.selects RX1 yX1_isEmpty yX1_isEmpty, Cond.code yX1_isEmpty cX1_isEmpty 2 (some .boolean)]
def wsX6_bestTo_r6 : List Cond := [Cond.methodLink RX3 39 yX3_mayEnd, Cond.instanceMethod yX3_mayEnd, Cond.selects RX3 yX3_mayEnd yX3_mayEnd, Cond.code yX3_mayEnd cX3_mayEnd 6 (some .boolean), Cond.methodLink RX3 66 yX5_camp, Cond.methodLink RX6 115 yX3_hopsTo, Cond.instanceMethod yX3_hopsTo, Cond.selects RX3 yX3_hopsTo yX3_hopsTo, Cond.code yX3_hopsTo cX3_hopsTo 2 (some .int), Cond.methodLink RX6 206 yX2_sumWith, Cond.instanceMethod yX2_sumWith, Cond.selects RX2 yX2_sumWith yX2_sumWith, Cond.code yX2_sumWith cX2_sumWith 6 (some .int)]
def wsX6_bestTo : List Cond := .code yX6_bestTo cX6_bestTo 2 (some .int) :: ((wsX6_bestTo_r1 ++ (wsX6_bestTo_r2 ++ (wsX6_bestTo_r3 ++ (wsX6_bestTo_r4 ++ (wsX6_bestTo_r5 ++ wsX6_bestTo_r6))))) ++ wsX60 ++ wsX40 ++ wsX20 ++ wsX10 ++ wsX50 ++ wsX30)
def wsX7_campAt : List Cond := .code yX7_campAt cX7_campAt 2 (some .int) :: ([])
def wsX7_find : List Cond := .code yX7_find cX7_find 5 (some .int) :: ([.fieldLink RX7 7 "HopperCourtModel" "row" "[I", .fieldLink RX7 13 "HopperCourtModel" "column" "[I"] ++ wsX70)
def wsX7_measures : List Cond := .code yX7_measures cX7_measures 6 none :: ([.fieldLink RX7 22 "HopperCourtModel" "far" "[I", .fieldLink RX7 59 "HopperCourtModel" "queue" "[I", .fieldLink RX7 19 "HopperCourtModel" "next" "[I"] ++ wsX70)
def wsX7_init_r1 : List Cond := [Cond.methodLink RX7 1 objectInit, Cond.instanceMethod objectInit, Cond.code objectInit ⟨#[0xb1]⟩ 1 none, Cond.arrayClass .int, Cond.fieldLink RX7 7 "HopperCourtModel" "row" "[I", Cond.fieldLink RX7 13 "HopperCourtModel" "column" "[I", Cond.fieldLink RX7 16 "HopperCourtModel" "camp" "[I", Cond.fieldLink RX7 19 "HopperCourtModel" "next" "[I", Cond.fieldLink RX7 22 "HopperCourtModel" "far" "[I", Cond.fieldLink RX7 25 "HopperCourtModel" "cells" "[I", Cond.fieldLink RX7 28 "HopperCourtModel" "fill" "I", Cond.fieldLink RX7 32 "HopperCourtModel" "board" "[I", Cond.fieldLink RX7 35 "HopperCourtModel" "movesOf" "[I", Cond.fieldLink RX7 38 "HopperCourtModel" "places" "[I", Cond.fieldLink RX7 41 "HopperCourtModel" "movedFrom" "[I", Cond.fieldLink RX7 44 "HopperCourtModel" "movedTo" "[I", Cond.fieldLink RX7 47 "HopperCourtModel" "turnWas" "[I", Cond.fieldLink RX7 50 "HopperCourtModel" "outWas" "[I", Cond.fieldLink RX7 53 "HopperCourtModel" "finishersWas" "[I", Cond.fieldLink RX7 56 "HopperCourtModel" "level" "[I", Cond.fieldLink RX7 59 "HopperCourtModel" "queue" "[I", Cond.arrayClass .boolean, Cond.fieldLink RX7 62 "HopperCourtModel" "isEnd" "[Z", Cond.fieldLink RX7 66 "HopperCourtModel" "cheapest" "[I"]
def wsX7_init_r2 : List Cond := [Cond.fieldLink RX7 69 "HopperCourtModel" "marbles" "[I", Cond.fieldLink RX7 83 "HopperCourtModel" "turn" "I", Cond.methodLink RX7 72 yX7_campAt, Cond.static yX7_campAt, Cond.initialized RX7, Cond.code yX7_campAt cX7_campAt 2 (some .int), Cond.methodLink RX7 76 yX7_find, Cond.instanceMethod yX7_find, Cond.selects RX7 yX7_find yX7_find, Cond.code yX7_find cX7_find 5 (some .int), Cond.methodLink RX7 79 yX7_measures, Cond.instanceMethod yX7_measures, Cond.selects RX7 yX7_measures yX7_measures, Cond.code yX7_measures cX7_measures 6 none]
def wsX7_init : List Cond := .code yX7_init cX7_init 6 none :: ((wsX7_init_r1 ++ wsX7_init_r2) ++ wsX70)
def wsX7_thrown : List Cond := .code yX7_thrown cX7_thrown 1 (some .int) :: ([.fieldLink RX7 86 "HopperCourtModel" "thrown" "I"] ++ wsX70)
def wsX7_can : List Cond := .code yX7_can cX7_can 2 (some .boolean) :: ([.fieldLink RX7 86 "HopperCourtModel" "thrown" "I"] ++ wsX70)
def wsX7_isIn : List Cond := .code yX7_isIn cX7_isIn 3 (some .boolean) :: ([])
def wsX7_isCell : List Cond := .code yX7_isCell cX7_isCell 1 (some .boolean) :: ([.methodLink RX7 89 yX7_isIn, .static yX7_isIn, .initialized RX7, .code yX7_isIn cX7_isIn 3 (some .boolean)])
def wsX7_plays : List Cond := .code yX7_plays cX7_plays 2 (some .boolean) :: ([.fieldLink RX7 93 "HopperCourtModel" "players" "I", .methodLink RX7 89 yX7_isIn, .static yX7_isIn, .initialized RX7, .code yX7_isIn cX7_isIn 3 (some .boolean)] ++ wsX70)
def wsX7_begin : List Cond := .code yX7_begin cX7_begin 4 none :: ([.fieldLink RX7 93 "HopperCourtModel" "players" "I", .fieldLink RX7 32 "HopperCourtModel" "board" "[I", .fieldLink RX7 16 "HopperCourtModel" "camp" "[I", .fieldLink RX7 35 "HopperCourtModel" "movesOf" "[I", .fieldLink RX7 83 "HopperCourtModel" "turn" "I", .fieldLink RX7 103 "HopperCourtModel" "made" "I", .fieldLink RX7 106 "HopperCourtModel" "out" "I", .fieldLink RX7 109 "HopperCourtModel" "finishers" "I", .methodLink RX7 89 yX7_isIn, .static yX7_isIn, .initialized RX7, .code yX7_isIn cX7_isIn 3 (some .boolean), .methodLink RX7 96 yX7_can, .instanceMethod yX7_can, .selects RX7 yX7_can yX7_can, .code yX7_can cX7_can 2 (some .boolean), .fieldLink RX7 86 "HopperCourtModel" "thrown" "I", .methodLink RX7 100 yX7_plays, .instanceMethod yX7_plays, .selects RX7 yX7_plays yX7_plays, .code yX7_plays cX7_plays 2 (some .boolean)] ++ wsX70)
def wsX7_setFill : List Cond := .code yX7_setFill cX7_setFill 3 (some .int) :: ([.fieldLink RX7 28 "HopperCourtModel" "fill" "I", .methodLink RX7 89 yX7_isIn, .static yX7_isIn, .initialized RX7, .code yX7_isIn cX7_isIn 3 (some .boolean), .methodLink RX7 96 yX7_can, .instanceMethod yX7_can, .selects RX7 yX7_can yX7_can, .code yX7_can cX7_can 2 (some .boolean), .fieldLink RX7 86 "HopperCourtModel" "thrown" "I"] ++ wsX70)
def wsX7_setPatience : List Cond := .code yX7_setPatience cX7_setPatience 3 (some .int) :: ([.fieldLink RX7 112 "HopperCourtModel" "patience" "I", .methodLink RX7 89 yX7_isIn, .static yX7_isIn, .initialized RX7, .code yX7_isIn cX7_isIn 3 (some .boolean), .methodLink RX7 96 yX7_can, .instanceMethod yX7_can, .selects RX7 yX7_can yX7_can, .code yX7_can cX7_can 2 (some .boolean), .fieldLink RX7 86 "HopperCourtModel" "thrown" "I"] ++ wsX70)
def wsX7_hasFinished : List Cond := .code yX7_hasFinished cX7_hasFinished 4 (some .boolean) :: ([.fieldLink RX7 109 "HopperCourtModel" "finishers" "I", .fieldLink RX7 38 "HopperCourtModel" "places" "[I"] ++ wsX70)
def wsX7_ownIn : List Cond := .code yX7_ownIn cX7_ownIn 5 (some .int) :: ([.fieldLink RX7 32 "HopperCourtModel" "board" "[I", .fieldLink RX7 25 "HopperCourtModel" "cells" "[I"] ++ wsX70)
def wsX7_isFull : List Cond := .code yX7_isFull cX7_isFull 2 (some .boolean) :: ([.methodLink RX7 115 yX7_ownIn, .instanceMethod yX7_ownIn, .selects RX7 yX7_ownIn yX7_ownIn, .initialized RX7, .code yX7_ownIn cX7_ownIn 5 (some .int), .fieldLink RX7 32 "HopperCourtModel" "board" "[I", .fieldLink RX7 25 "HopperCourtModel" "cells" "[I"] ++ wsX70)
def wsX7_finishes_r1 : List Cond := [Cond.fieldLink RX7 106 "HopperCourtModel" "out" "I", Cond.fieldLink RX7 28 "HopperCourtModel" "fill" "I", Cond.fieldLink RX7 38 "HopperCourtModel" "places" "[I", Cond.fieldLink RX7 109 "HopperCourtModel" "finishers" "I", Cond.methodLink RX7 100 yX7_plays, Cond.instanceMethod yX7_plays, Cond.selects RX7 yX7_plays yX7_plays, Cond.initialized RX7, Cond.code yX7_plays cX7_plays 2 (some .boolean), Cond.fieldLink RX7 93 "HopperCourtModel" "players" "I", Cond.methodLink RX7 89 yX7_isIn, Cond.static yX7_isIn, Cond.code yX7_isIn cX7_isIn 3 (some .boolean), Cond.methodLink RX7 118 yX7_hasFinished, Cond.instanceMethod yX7_hasFinished, Cond.selects RX7 yX7_hasFinished yX7_hasFinished, Cond.code yX7_hasFinished cX7_hasFinished 4 (some .boolean), Cond.methodLink RX7 121 yX7_isFull, Cond.instanceMethod yX7_isFull, Cond.selects RX7 yX7_isFull yX7_isFull, Cond.code yX7_isFull cX7_isFull 2 (some .boolean), Cond.methodLink RX7 115 yX7_ownIn, Cond.instanceMethod yX7_ownIn, Cond.selects RX7 yX7_ownIn yX7_ownIn]
def wsX7_finishes_r2 : List Cond := [Cond.code yX7_ownIn cX7_ownIn 5 (some .int), Cond.fieldLink RX7 32 "HopperCourtModel" "board" "[I", Cond.fieldLink RX7 25 "HopperCourtModel" "cells" "[I"]
def wsX7_finishes : List Cond := .code yX7_finishes cX7_finishes 3 none :: ((wsX7_finishes_r1 ++ wsX7_finishes_r2) ++ wsX70)
def wsX7_turns_r1 : List Cond := [Cond.fieldLink RX7 83 "HopperCourtModel" "turn" "I", Cond.fieldLink RX7 106 "HopperCourtModel" "out" "I", Cond.fieldLink RX7 112 "HopperCourtModel" "patience" "I", Cond.fieldLink RX7 35 "HopperCourtModel" "movesOf" "[I", Cond.methodLink RX7 100 yX7_plays, Cond.instanceMethod yX7_plays, Cond.selects RX7 yX7_plays yX7_plays, Cond.initialized RX7, Cond.code yX7_plays cX7_plays 2 (some .boolean), Cond.fieldLink RX7 93 "HopperCourtModel" "players" "I", Cond.methodLink RX7 89 yX7_isIn, Cond.static yX7_isIn, Cond.code yX7_isIn cX7_isIn 3 (some .boolean), Cond.methodLink RX7 118 yX7_hasFinished, Cond.instanceMethod yX7_hasFinished, Cond.selects RX7 yX7_hasFinished yX7_hasFinished, Cond.code yX7_hasFinished cX7_hasFinished 4 (some .boolean), Cond.fieldLink RX7 109 "HopperCourtModel" "finishers" "I", Cond.fieldLink RX7 38 "HopperCourtModel" "places" "[I", Cond.methodLink RX7 115 yX7_ownIn, Cond.instanceMethod yX7_ownIn, Cond.selects RX7 yX7_ownIn yX7_ownIn, Cond.code yX7_ownIn cX7_ownIn 5 (some .int), Cond.fieldLink RX7 32 "HopperCourtModel" "board" "[I"]
def wsX7_turns_r2 : List Cond := [Cond.fieldLink RX7 25 "HopperCourtModel" "cells" "[I"]
def wsX7_turns : List Cond := .code yX7_turns cX7_turns 5 none :: ((wsX7_turns_r1 ++ wsX7_turns_r2) ++ wsX70)
def wsX7_notes : List Cond := .code yX7_notes cX7_notes 3 none :: ([.fieldLink RX7 41 "HopperCourtModel" "movedFrom" "[I", .fieldLink RX7 103 "HopperCourtModel" "made" "I", .fieldLink RX7 44 "HopperCourtModel" "movedTo" "[I", .fieldLink RX7 47 "HopperCourtModel" "turnWas" "[I", .fieldLink RX7 83 "HopperCourtModel" "turn" "I", .fieldLink RX7 50 "HopperCourtModel" "outWas" "[I", .fieldLink RX7 106 "HopperCourtModel" "out" "I", .fieldLink RX7 53 "HopperCourtModel" "finishersWas" "[I", .fieldLink RX7 109 "HopperCourtModel" "finishers" "I", .fieldLink RX7 35 "HopperCourtModel" "movesOf" "[I"] ++ wsX70)
def wsX7_behind : List Cond := .code yX7_behind cX7_behind 7 (some .int) :: ([.fieldLink RX7 19 "HopperCourtModel" "next" "[I", .fieldLink RX7 32 "HopperCourtModel" "board" "[I"] ++ wsX70)
def wsX7_hopsFrom : List Cond := .code yX7_hopsFrom cX7_hopsFrom 7 none :: ([.fieldLink RX7 56 "HopperCourtModel" "level" "[I", .fieldLink RX7 59 "HopperCourtModel" "queue" "[I", .methodLink RX7 148 yX7_behind, .instanceMethod yX7_behind, .selects RX7 yX7_behind yX7_behind, .initialized RX7, .code yX7_behind cX7_behind 7 (some .int), .fieldLink RX7 19 "HopperCourtModel" "next" "[I", .fieldLink RX7 32 "HopperCourtModel" "board" "[I"] ++ wsX70)
def wsX7_isNext : List Cond := .code yX7_isNext cX7_isNext 3 (some .boolean) :: ([.fieldLink RX7 22 "HopperCourtModel" "far" "[I"] ++ wsX70)
def wsX7_mayEnd : List Cond := .code yX7_mayEnd cX7_mayEnd 5 (some .boolean) :: ([.fieldLink RX7 83 "HopperCourtModel" "turn" "I", .fieldLink RX7 16 "HopperCourtModel" "camp" "[I"] ++ wsX70)
def wsX7_endsOf_r1 : List Cond := [Cond.fieldLink RX7 83 "HopperCourtModel" "turn" "I", Cond.fieldLink RX7 32 "HopperCourtModel" "board" "[I", Cond.fieldLink RX7 62 "HopperCourtModel" "isEnd" "[Z", Cond.fieldLink RX7 56 "HopperCourtModel" "level" "[I", Cond.methodLink RX7 152 yX7_hopsFrom, Cond.instanceMethod yX7_hopsFrom, Cond.selects RX7 yX7_hopsFrom yX7_hopsFrom, Cond.initialized RX7, Cond.code yX7_hopsFrom cX7_hopsFrom 7 none, Cond.fieldLink RX7 59 "HopperCourtModel" "queue" "[I", Cond.methodLink RX7 148 yX7_behind, Cond.instanceMethod yX7_behind, Cond.selects RX7 yX7_behind yX7_behind, Cond.code yX7_behind cX7_behind 7 (some .int), Cond.fieldLink RX7 19 "HopperCourtModel" "next" "[I", Cond.methodLink RX7 155 yX7_isNext, Cond.instanceMethod yX7_isNext, Cond.selects RX7 yX7_isNext yX7_isNext, Cond.code yX7_isNext cX7_isNext 3 (some .boolean), Cond.fieldLink RX7 22 "HopperCourtModel" "far" "[I", Cond.methodLink RX7 158 yX7_mayEnd, Cond.instanceMethod yX7_mayEnd, Cond.selects RX7 yX7_mayEnd yX7_mayEnd, Cond.code yX7_mayEnd cX7_mayEnd 5 (some .boolean)]
def wsX7_endsOf_r2 : List Cond := [Cond.fieldLink RX7 16 "HopperCourtModel" "camp" "[I"]
def wsX7_endsOf : List Cond := .code yX7_endsOf cX7_endsOf 5 (some .int) :: ((wsX7_endsOf_r1 ++ wsX7_endsOf_r2) ++ wsX70)
def wsX7_hopsOf_r1 : List Cond := [Cond.fieldLink RX7 62 "HopperCourtModel" "isEnd" "[Z", Cond.fieldLink RX7 56 "HopperCourtModel" "level" "[I", Cond.methodLink RX7 161 yX7_endsOf, Cond.instanceMethod yX7_endsOf, Cond.selects RX7 yX7_endsOf yX7_endsOf, Cond.initialized RX7, Cond.code yX7_endsOf cX7_endsOf 5 (some .int), Cond.fieldLink RX7 83 "HopperCourtModel" "turn" "I", Cond.fieldLink RX7 32 "HopperCourtModel" "board" "[I", Cond.methodLink RX7 152 yX7_hopsFrom, Cond.instanceMethod yX7_hopsFrom, Cond.selects RX7 yX7_hopsFrom yX7_hopsFrom, Cond.code yX7_hopsFrom cX7_hopsFrom 7 none, Cond.fieldLink RX7 59 "HopperCourtModel" "queue" "[I", Cond.methodLink RX7 148 yX7_behind, Cond.instanceMethod yX7_behind, Cond.selects RX7 yX7_behind yX7_behind, Cond.code yX7_behind cX7_behind 7 (some .int), Cond.fieldLink RX7 19 "HopperCourtModel" "next" "[I", Cond.methodLink RX7 155 yX7_isNext, Cond.instanceMethod yX7_isNext, Cond.selects RX7 yX7_isNext yX7_isNext, Cond.code yX7_isNext cX7_isNext 3 (some .boolean), Cond.fieldLink RX7 22 "HopperCourtModel" "far" "[I"]
def wsX7_hopsOf_r2 : List Cond := [Cond.methodLink RX7 158 yX7_mayEnd, Cond.instanceMethod yX7_mayEnd, Cond.selects RX7 yX7_mayEnd yX7_mayEnd, Cond.code yX7_mayEnd cX7_mayEnd 5 (some .boolean), Cond.fieldLink RX7 16 "HopperCourtModel" "camp" "[I"]
def wsX7_hopsOf : List Cond := .code yX7_hopsOf cX7_hopsOf 3 (some .int) :: ((wsX7_hopsOf_r1 ++ wsX7_hopsOf_r2) ++ wsX70)
def wsX7_move_r1 : List Cond := [Cond.fieldLink RX7 83 "HopperCourtModel" "turn" "I", Cond.fieldLink RX7 103 "HopperCourtModel" "made" "I", Cond.fieldLink RX7 32 "HopperCourtModel" "board" "[I", Cond.methodLink RX7 124 yX7_isCell, Cond.static yX7_isCell, Cond.initialized RX7, Cond.code yX7_isCell cX7_isCell 1 (some .boolean), Cond.methodLink RX7 89 yX7_isIn, Cond.static yX7_isIn, Cond.code yX7_isIn cX7_isIn 3 (some .boolean), Cond.methodLink RX7 96 yX7_can, Cond.instanceMethod yX7_can, Cond.selects RX7 yX7_can yX7_can, Cond.code yX7_can cX7_can 2 (some .boolean), Cond.fieldLink RX7 86 "HopperCourtModel" "thrown" "I", Cond.methodLink RX7 127 yX7_hopsOf, Cond.instanceMethod yX7_hopsOf, Cond.selects RX7 yX7_hopsOf yX7_hopsOf, Cond.code yX7_hopsOf cX7_hopsOf 3 (some .int), Cond.fieldLink RX7 62 "HopperCourtModel" "isEnd" "[Z", Cond.fieldLink RX7 56 "HopperCourtModel" "level" "[I", Cond.methodLink RX7 161 yX7_endsOf, Cond.instanceMethod yX7_endsOf, Cond.selects RX7 yX7_endsOf yX7_endsOf]
def wsX7_move_r2 : List Cond := [Cond.code yX7_endsOf cX7_endsOf 5 (some .int), Cond.methodLink RX7 152 yX7_hopsFrom, Cond.instanceMethod yX7_hopsFrom, Cond.selects RX7 yX7_hopsFrom yX7_hopsFrom, Cond.code yX7_hopsFrom cX7_hopsFrom 7 none, Cond.fieldLink RX7 59 "HopperCourtModel" "queue" "[I", Cond.methodLink RX7 148 yX7_behind, Cond.instanceMethod yX7_behind, Cond.selects RX7 yX7_behind yX7_behind, Cond.code yX7_behind cX7_behind 7 (some .int), Cond.fieldLink RX7 19 "HopperCourtModel" "next" "[I", Cond.methodLink RX7 155 yX7_isNext, Cond.instanceMethod yX7_isNext, Cond.selects RX7 yX7_isNext yX7_isNext, Cond.code yX7_isNext cX7_isNext 3 (some .boolean), Cond.fieldLink RX7 22 "HopperCourtModel" "far" "[I", Cond.methodLink RX7 158 yX7_mayEnd, Cond.instanceMethod yX7_mayEnd, Cond.selects RX7 yX7_mayEnd yX7_mayEnd, Cond.code yX7_mayEnd cX7_mayEnd 5 (some .boolean), Cond.fieldLink RX7 16 "HopperCourtModel" "camp" "[I", Cond.methodLink RX7 130 yX7_notes, Cond.instanceMethod yX7_notes, Cond.selects RX7 yX7_notes yX7_notes]
def wsX7_move_r3 : List Cond := [Cond.code yX7_notes cX7_notes 3 none, Cond.fieldLink RX7 41 "HopperCourtModel" "movedFrom" "[I", Cond.fieldLink RX7 44 "HopperCourtModel" "movedTo" "[I", Cond.fieldLink RX7 47 "HopperCourtModel" "turnWas" "[I", Cond.fieldLink RX7 50 "HopperCourtModel" "outWas" "[I", Cond.fieldLink RX7 106 "HopperCourtModel" "out" "I", Cond.fieldLink RX7 53 "HopperCourtModel" "finishersWas" "[I", Cond.fieldLink RX7 109 "HopperCourtModel" "finishers" "I", Cond.fieldLink RX7 35 "HopperCourtModel" "movesOf" "[I", Cond.methodLink RX7 134 yX7_finishes, Cond.instanceMethod yX7_finishes, Cond.selects RX7 yX7_finishes yX7_finishes, Cond.code yX7_finishes cX7_finishes 3 none, Cond.fieldLink RX7 28 "HopperCourtModel" "fill" "I", Cond.fieldLink RX7 38 "HopperCourtModel" "places" "[I", Cond.methodLink RX7 100 yX7_plays, Cond.instanceMethod yX7_plays, Cond.selects RX7 yX7_plays yX7_plays, Cond.code yX7_plays cX7_plays 2 (some .boolean), Cond.fieldLink RX7 93 "HopperCourtModel" "players" "I", Cond.methodLink RX7 118 yX7_hasFinished, Cond.instanceMethod yX7_hasFinished, Cond.selects RX7 yX7_hasFinished yX7_hasFinished, Cond.code yX7_hasFinished cX7_hasFinished 4 (some .boolean)]
def wsX7_move_r4 : List Cond := [Cond.methodLink RX7 121 yX7_isFull, Cond.instanceMethod yX7_isFull, Cond.selects RX7 yX7_isFull yX7_isFull, Cond.code yX7_isFull cX7_isFull 2 (some .boolean), Cond.methodLink RX7 115 yX7_ownIn, Cond.instanceMethod yX7_ownIn, Cond.selects RX7 yX7_ownIn yX7_ownIn, Cond.code yX7_ownIn cX7_ownIn 5 (some .int), Cond.fieldLink RX7 25 "HopperCourtModel" "cells" "[I", Cond.methodLink RX7 137 yX7_turns, Cond.instanceMethod yX7_turns, Cond.selects RX7 yX7_turns yX7_turns, Cond.code yX7_turns cX7_turns 5 none, Cond.fieldLink RX7 112 "HopperCourtModel" "patience" "I"]
def wsX7_move : List Cond := .code yX7_move cX7_move 4 (some .int) :: ((wsX7_move_r1 ++ (wsX7_move_r2 ++ (wsX7_move_r3 ++ wsX7_move_r4))) ++ wsX70)
def wsX7_allMoves_r1 : List Cond := [Cond.methodLink RX7 161 yX7_endsOf, Cond.instanceMethod yX7_endsOf, Cond.selects RX7 yX7_endsOf yX7_endsOf, Cond.initialized RX7, Cond.code yX7_endsOf cX7_endsOf 5 (some .int), Cond.fieldLink RX7 83 "HopperCourtModel" "turn" "I", Cond.fieldLink RX7 32 "HopperCourtModel" "board" "[I", Cond.fieldLink RX7 62 "HopperCourtModel" "isEnd" "[Z", Cond.fieldLink RX7 56 "HopperCourtModel" "level" "[I", Cond.methodLink RX7 152 yX7_hopsFrom, Cond.instanceMethod yX7_hopsFrom, Cond.selects RX7 yX7_hopsFrom yX7_hopsFrom, Cond.code yX7_hopsFrom cX7_hopsFrom 7 none, Cond.fieldLink RX7 59 "HopperCourtModel" "queue" "[I", Cond.methodLink RX7 148 yX7_behind, Cond.instanceMethod yX7_behind, Cond.selects RX7 yX7_behind yX7_behind, Cond.code yX7_behind cX7_behind 7 (some .int), Cond.fieldLink RX7 19 "HopperCourtModel" "next" "[I", Cond.methodLink RX7 155 yX7_isNext, Cond.instanceMethod yX7_isNext, Cond.selects RX7 yX7_isNext yX7_isNext, Cond.code yX7_isNext cX7_isNext 3 (some .boolean), Cond.fieldLink RX7 22 "HopperCourtModel" "far" "[I"]
def wsX7_allMoves_r2 : List Cond := [Cond.methodLink RX7 158 yX7_mayEnd, Cond.instanceMethod yX7_mayEnd, Cond.selects RX7 yX7_mayEnd yX7_mayEnd, Cond.code yX7_mayEnd cX7_mayEnd 5 (some .boolean), Cond.fieldLink RX7 16 "HopperCourtModel" "camp" "[I"]
def wsX7_allMoves : List Cond := .code yX7_allMoves cX7_allMoves 3 (some .int) :: ((wsX7_allMoves_r1 ++ wsX7_allMoves_r2) ++ wsX70)
def wsX7_pass_r1 : List Cond := [Cond.fieldLink RX7 83 "HopperCourtModel" "turn" "I", Cond.fieldLink RX7 103 "HopperCourtModel" "made" "I", Cond.methodLink RX7 140 yX7_allMoves, Cond.instanceMethod yX7_allMoves, Cond.selects RX7 yX7_allMoves yX7_allMoves, Cond.initialized RX7, Cond.code yX7_allMoves cX7_allMoves 3 (some .int), Cond.methodLink RX7 161 yX7_endsOf, Cond.instanceMethod yX7_endsOf, Cond.selects RX7 yX7_endsOf yX7_endsOf, Cond.code yX7_endsOf cX7_endsOf 5 (some .int), Cond.fieldLink RX7 32 "HopperCourtModel" "board" "[I", Cond.fieldLink RX7 62 "HopperCourtModel" "isEnd" "[Z", Cond.fieldLink RX7 56 "HopperCourtModel" "level" "[I", Cond.methodLink RX7 152 yX7_hopsFrom, Cond.instanceMethod yX7_hopsFrom, Cond.selects RX7 yX7_hopsFrom yX7_hopsFrom, Cond.code yX7_hopsFrom cX7_hopsFrom 7 none, Cond.fieldLink RX7 59 "HopperCourtModel" "queue" "[I", Cond.methodLink RX7 148 yX7_behind, Cond.instanceMethod yX7_behind, Cond.selects RX7 yX7_behind yX7_behind, Cond.code yX7_behind cX7_behind 7 (some .int), Cond.fieldLink RX7 19 "HopperCourtModel" "next" "[I"]
def wsX7_pass_r2 : List Cond := [Cond.methodLink RX7 155 yX7_isNext, Cond.instanceMethod yX7_isNext, Cond.selects RX7 yX7_isNext yX7_isNext, Cond.code yX7_isNext cX7_isNext 3 (some .boolean), Cond.fieldLink RX7 22 "HopperCourtModel" "far" "[I", Cond.methodLink RX7 158 yX7_mayEnd, Cond.instanceMethod yX7_mayEnd, Cond.selects RX7 yX7_mayEnd yX7_mayEnd, Cond.code yX7_mayEnd cX7_mayEnd 5 (some .boolean), Cond.fieldLink RX7 16 "HopperCourtModel" "camp" "[I", Cond.methodLink RX7 96 yX7_can, Cond.instanceMethod yX7_can, Cond.selects RX7 yX7_can yX7_can, Cond.code yX7_can cX7_can 2 (some .boolean), Cond.fieldLink RX7 86 "HopperCourtModel" "thrown" "I", Cond.methodLink RX7 130 yX7_notes, Cond.instanceMethod yX7_notes, Cond.selects RX7 yX7_notes yX7_notes, Cond.code yX7_notes cX7_notes 3 none, Cond.fieldLink RX7 41 "HopperCourtModel" "movedFrom" "[I", Cond.fieldLink RX7 44 "HopperCourtModel" "movedTo" "[I", Cond.fieldLink RX7 47 "HopperCourtModel" "turnWas" "[I", Cond.fieldLink RX7 50 "HopperCourtModel" "outWas" "[I", Cond.fieldLink RX7 106 "HopperCourtModel" "out" "I"]
def wsX7_pass_r3 : List Cond := [Cond.fieldLink RX7 53 "HopperCourtModel" "finishersWas" "[I", Cond.fieldLink RX7 109 "HopperCourtModel" "finishers" "I", Cond.fieldLink RX7 35 "HopperCourtModel" "movesOf" "[I", Cond.methodLink RX7 137 yX7_turns, Cond.instanceMethod yX7_turns, Cond.selects RX7 yX7_turns yX7_turns, Cond.code yX7_turns cX7_turns 5 none, Cond.fieldLink RX7 112 "HopperCourtModel" "patience" "I", Cond.methodLink RX7 100 yX7_plays, Cond.instanceMethod yX7_plays, Cond.selects RX7 yX7_plays yX7_plays, Cond.code yX7_plays cX7_plays 2 (some .boolean), Cond.fieldLink RX7 93 "HopperCourtModel" "players" "I", Cond.methodLink RX7 89 yX7_isIn, Cond.static yX7_isIn, Cond.code yX7_isIn cX7_isIn 3 (some .boolean), Cond.methodLink RX7 118 yX7_hasFinished, Cond.instanceMethod yX7_hasFinished, Cond.selects RX7 yX7_hasFinished yX7_hasFinished, Cond.code yX7_hasFinished cX7_hasFinished 4 (some .boolean), Cond.fieldLink RX7 38 "HopperCourtModel" "places" "[I", Cond.methodLink RX7 115 yX7_ownIn, Cond.instanceMethod yX7_ownIn, Cond.selects RX7 yX7_ownIn yX7_ownIn]
def wsX7_pass_r4 : List Cond := [Cond.code yX7_ownIn cX7_ownIn 5 (some .int), Cond.fieldLink RX7 25 "HopperCourtModel" "cells" "[I"]
def wsX7_pass : List Cond := .code yX7_pass cX7_pass 1 none :: ((wsX7_pass_r1 ++ (wsX7_pass_r2 ++ (wsX7_pass_r3 ++ wsX7_pass_r4))) ++ wsX70)
def wsX7_undo : List Cond := .code yX7_undo cX7_undo 1 (some .int) :: ([.fieldLink RX7 103 "HopperCourtModel" "made" "I", .fieldLink RX7 47 "HopperCourtModel" "turnWas" "[I", .fieldLink RX7 83 "HopperCourtModel" "turn" "I", .fieldLink RX7 50 "HopperCourtModel" "outWas" "[I", .fieldLink RX7 106 "HopperCourtModel" "out" "I", .fieldLink RX7 53 "HopperCourtModel" "finishersWas" "[I", .fieldLink RX7 109 "HopperCourtModel" "finishers" "I", .fieldLink RX7 35 "HopperCourtModel" "movesOf" "[I", .fieldLink RX7 41 "HopperCourtModel" "movedFrom" "[I", .fieldLink RX7 32 "HopperCourtModel" "board" "[I", .fieldLink RX7 44 "HopperCourtModel" "movedTo" "[I", .methodLink RX7 96 yX7_can, .instanceMethod yX7_can, .selects RX7 yX7_can yX7_can, .initialized RX7, .code yX7_can cX7_can 2 (some .boolean), .fieldLink RX7 86 "HopperCourtModel" "thrown" "I"] ++ wsX70)
def wsX7_at : List Cond := .code yX7_at cX7_at 2 (some .int) :: ([.fieldLink RX7 32 "HopperCourtModel" "board" "[I", .methodLink RX7 124 yX7_isCell, .static yX7_isCell, .initialized RX7, .code yX7_isCell cX7_isCell 1 (some .boolean), .methodLink RX7 89 yX7_isIn, .static yX7_isIn, .code yX7_isIn cX7_isIn 3 (some .boolean), .methodLink RX7 96 yX7_can, .instanceMethod yX7_can, .selects RX7 yX7_can yX7_can, .code yX7_can cX7_can 2 (some .boolean), .fieldLink RX7 86 "HopperCourtModel" "thrown" "I"] ++ wsX70)
def wsX7_cellAt : List Cond := .code yX7_cellAt cX7_cellAt 3 (some .int) :: ([.fieldLink RX7 86 "HopperCourtModel" "thrown" "I", .methodLink RX7 76 yX7_find, .instanceMethod yX7_find, .selects RX7 yX7_find yX7_find, .initialized RX7, .code yX7_find cX7_find 5 (some .int), .fieldLink RX7 7 "HopperCourtModel" "row" "[I", .fieldLink RX7 13 "HopperCourtModel" "column" "[I"] ++ wsX70)
def wsX7_campOf : List Cond := .code yX7_campOf cX7_campOf 2 (some .int) :: ([.fieldLink RX7 16 "HopperCourtModel" "camp" "[I", .methodLink RX7 124 yX7_isCell, .static yX7_isCell, .initialized RX7, .code yX7_isCell cX7_isCell 1 (some .boolean), .methodLink RX7 89 yX7_isIn, .static yX7_isIn, .code yX7_isIn cX7_isIn 3 (some .boolean), .methodLink RX7 96 yX7_can, .instanceMethod yX7_can, .selects RX7 yX7_can yX7_can, .code yX7_can cX7_can 2 (some .boolean), .fieldLink RX7 86 "HopperCourtModel" "thrown" "I"] ++ wsX70)
def wsX7_areCells : List Cond := .code yX7_areCells cX7_areCells 3 (some .boolean) :: ([.methodLink RX7 124 yX7_isCell, .static yX7_isCell, .initialized RX7, .code yX7_isCell cX7_isCell 1 (some .boolean), .methodLink RX7 89 yX7_isIn, .static yX7_isIn, .code yX7_isIn cX7_isIn 3 (some .boolean), .methodLink RX7 96 yX7_can, .instanceMethod yX7_can, .selects RX7 yX7_can yX7_can, .code yX7_can cX7_can 2 (some .boolean), .fieldLink RX7 86 "HopperCourtModel" "thrown" "I"] ++ wsX70)
def wsX7_distance : List Cond := .code yX7_distance cX7_distance 3 (some .int) :: ([.fieldLink RX7 22 "HopperCourtModel" "far" "[I", .methodLink RX7 144 yX7_areCells, .instanceMethod yX7_areCells, .selects RX7 yX7_areCells yX7_areCells, .initialized RX7, .code yX7_areCells cX7_areCells 3 (some .boolean), .methodLink RX7 124 yX7_isCell, .static yX7_isCell, .code yX7_isCell cX7_isCell 1 (some .boolean), .methodLink RX7 89 yX7_isIn, .static yX7_isIn, .code yX7_isIn cX7_isIn 3 (some .boolean), .methodLink RX7 96 yX7_can, .instanceMethod yX7_can, .selects RX7 yX7_can yX7_can, .code yX7_can cX7_can 2 (some .boolean), .fieldLink RX7 86 "HopperCourtModel" "thrown" "I"] ++ wsX70)
def wsX7_turn : List Cond := .code yX7_turn cX7_turn 1 (some .int) :: ([.fieldLink RX7 86 "HopperCourtModel" "thrown" "I", .fieldLink RX7 83 "HopperCourtModel" "turn" "I"] ++ wsX70)
def wsX7_made : List Cond := .code yX7_made cX7_made 1 (some .int) :: ([.fieldLink RX7 86 "HopperCourtModel" "thrown" "I", .fieldLink RX7 103 "HopperCourtModel" "made" "I"] ++ wsX70)
def wsX7_ends_r1 : List Cond := [Cond.methodLink RX7 124 yX7_isCell, Cond.static yX7_isCell, Cond.initialized RX7, Cond.code yX7_isCell cX7_isCell 1 (some .boolean), Cond.methodLink RX7 89 yX7_isIn, Cond.static yX7_isIn, Cond.code yX7_isIn cX7_isIn 3 (some .boolean), Cond.methodLink RX7 96 yX7_can, Cond.instanceMethod yX7_can, Cond.selects RX7 yX7_can yX7_can, Cond.code yX7_can cX7_can 2 (some .boolean), Cond.fieldLink RX7 86 "HopperCourtModel" "thrown" "I", Cond.methodLink RX7 161 yX7_endsOf, Cond.instanceMethod yX7_endsOf, Cond.selects RX7 yX7_endsOf yX7_endsOf, Cond.code yX7_endsOf cX7_endsOf 5 (some .int), Cond.fieldLink RX7 83 "HopperCourtModel" "turn" "I", Cond.fieldLink RX7 32 "HopperCourtModel" "board" "[I", Cond.fieldLink RX7 62 "HopperCourtModel" "isEnd" "[Z", Cond.fieldLink RX7 56 "HopperCourtModel" "level" "[I", Cond.methodLink RX7 152 yX7_hopsFrom, Cond.instanceMethod yX7_hopsFrom, Cond.selects RX7 yX7_hopsFrom yX7_hopsFrom, Cond.code yX7_hopsFrom cX7_hopsFrom 7 none]
def wsX7_ends_r2 : List Cond := [Cond.fieldLink RX7 59 "HopperCourtModel" "queue" "[I", Cond.methodLink RX7 148 yX7_behind, Cond.instanceMethod yX7_behind, Cond.selects RX7 yX7_behind yX7_behind, Cond.code yX7_behind cX7_behind 7 (some .int), Cond.fieldLink RX7 19 "HopperCourtModel" "next" "[I", Cond.methodLink RX7 155 yX7_isNext, Cond.instanceMethod yX7_isNext, Cond.selects RX7 yX7_isNext yX7_isNext, Cond.code yX7_isNext cX7_isNext 3 (some .boolean), Cond.fieldLink RX7 22 "HopperCourtModel" "far" "[I", Cond.methodLink RX7 158 yX7_mayEnd, Cond.instanceMethod yX7_mayEnd, Cond.selects RX7 yX7_mayEnd yX7_mayEnd, Cond.code yX7_mayEnd cX7_mayEnd 5 (some .boolean), Cond.fieldLink RX7 16 "HopperCourtModel" "camp" "[I"]
def wsX7_ends : List Cond := .code yX7_ends cX7_ends 2 (some .int) :: ((wsX7_ends_r1 ++ wsX7_ends_r2) ++ wsX70)
def wsX7_endAt_r1 : List Cond := [Cond.fieldLink RX7 62 "HopperCourtModel" "isEnd" "[Z", Cond.methodLink RX7 124 yX7_isCell, Cond.static yX7_isCell, Cond.initialized RX7, Cond.code yX7_isCell cX7_isCell 1 (some .boolean), Cond.methodLink RX7 89 yX7_isIn, Cond.static yX7_isIn, Cond.code yX7_isIn cX7_isIn 3 (some .boolean), Cond.methodLink RX7 161 yX7_endsOf, Cond.instanceMethod yX7_endsOf, Cond.selects RX7 yX7_endsOf yX7_endsOf, Cond.code yX7_endsOf cX7_endsOf 5 (some .int), Cond.fieldLink RX7 83 "HopperCourtModel" "turn" "I", Cond.fieldLink RX7 32 "HopperCourtModel" "board" "[I", Cond.fieldLink RX7 56 "HopperCourtModel" "level" "[I", Cond.methodLink RX7 152 yX7_hopsFrom, Cond.instanceMethod yX7_hopsFrom, Cond.selects RX7 yX7_hopsFrom yX7_hopsFrom, Cond.code yX7_hopsFrom cX7_hopsFrom 7 none, Cond.fieldLink RX7 59 "HopperCourtModel" "queue" "[I", Cond.methodLink RX7 148 yX7_behind, Cond.instanceMethod yX7_behind, Cond.selects RX7 yX7_behind yX7_behind, Cond.code yX7_behind cX7_behind 7 (some .int)]
def wsX7_endAt_r2 : List Cond := [Cond.fieldLink RX7 19 "HopperCourtModel" "next" "[I", Cond.methodLink RX7 155 yX7_isNext, Cond.instanceMethod yX7_isNext, Cond.selects RX7 yX7_isNext yX7_isNext, Cond.code yX7_isNext cX7_isNext 3 (some .boolean), Cond.fieldLink RX7 22 "HopperCourtModel" "far" "[I", Cond.methodLink RX7 158 yX7_mayEnd, Cond.instanceMethod yX7_mayEnd, Cond.selects RX7 yX7_mayEnd yX7_mayEnd, Cond.code yX7_mayEnd cX7_mayEnd 5 (some .boolean), Cond.fieldLink RX7 16 "HopperCourtModel" "camp" "[I", Cond.methodLink RX7 96 yX7_can, Cond.instanceMethod yX7_can, Cond.selects RX7 yX7_can yX7_can, Cond.code yX7_can cX7_can 2 (some .boolean), Cond.fieldLink RX7 86 "HopperCourtModel" "thrown" "I"]
def wsX7_endAt : List Cond := .code yX7_endAt cX7_endAt 7 (some .int) :: ((wsX7_endAt_r1 ++ wsX7_endAt_r2) ++ wsX70)
def wsX7_moves_r1 : List Cond := [Cond.fieldLink RX7 86 "HopperCourtModel" "thrown" "I", Cond.methodLink RX7 140 yX7_allMoves, Cond.instanceMethod yX7_allMoves, Cond.selects RX7 yX7_allMoves yX7_allMoves, Cond.initialized RX7, Cond.code yX7_allMoves cX7_allMoves 3 (some .int), Cond.methodLink RX7 161 yX7_endsOf, Cond.instanceMethod yX7_endsOf, Cond.selects RX7 yX7_endsOf yX7_endsOf, Cond.code yX7_endsOf cX7_endsOf 5 (some .int), Cond.fieldLink RX7 83 "HopperCourtModel" "turn" "I", Cond.fieldLink RX7 32 "HopperCourtModel" "board" "[I", Cond.fieldLink RX7 62 "HopperCourtModel" "isEnd" "[Z", Cond.fieldLink RX7 56 "HopperCourtModel" "level" "[I", Cond.methodLink RX7 152 yX7_hopsFrom, Cond.instanceMethod yX7_hopsFrom, Cond.selects RX7 yX7_hopsFrom yX7_hopsFrom, Cond.code yX7_hopsFrom cX7_hopsFrom 7 none, Cond.fieldLink RX7 59 "HopperCourtModel" "queue" "[I", Cond.methodLink RX7 148 yX7_behind, Cond.instanceMethod yX7_behind, Cond.selects RX7 yX7_behind yX7_behind, Cond.code yX7_behind cX7_behind 7 (some .int), Cond.fieldLink RX7 19 "HopperCourtModel" "next" "[I"]
def wsX7_moves_r2 : List Cond := [Cond.methodLink RX7 155 yX7_isNext, Cond.instanceMethod yX7_isNext, Cond.selects RX7 yX7_isNext yX7_isNext, Cond.code yX7_isNext cX7_isNext 3 (some .boolean), Cond.fieldLink RX7 22 "HopperCourtModel" "far" "[I", Cond.methodLink RX7 158 yX7_mayEnd, Cond.instanceMethod yX7_mayEnd, Cond.selects RX7 yX7_mayEnd yX7_mayEnd, Cond.code yX7_mayEnd cX7_mayEnd 5 (some .boolean), Cond.fieldLink RX7 16 "HopperCourtModel" "camp" "[I"]
def wsX7_moves : List Cond := .code yX7_moves cX7_moves 1 (some .int) :: ((wsX7_moves_r1 ++ wsX7_moves_r2) ++ wsX70)
def wsX7_chainAt_r1 : List Cond := [Cond.fieldLink RX7 56 "HopperCourtModel" "level" "[I", Cond.methodLink RX7 124 yX7_isCell, Cond.static yX7_isCell, Cond.initialized RX7, Cond.code yX7_isCell cX7_isCell 1 (some .boolean), Cond.methodLink RX7 89 yX7_isIn, Cond.static yX7_isIn, Cond.code yX7_isIn cX7_isIn 3 (some .boolean), Cond.methodLink RX7 96 yX7_can, Cond.instanceMethod yX7_can, Cond.selects RX7 yX7_can yX7_can, Cond.code yX7_can cX7_can 2 (some .boolean), Cond.fieldLink RX7 86 "HopperCourtModel" "thrown" "I", Cond.methodLink RX7 127 yX7_hopsOf, Cond.instanceMethod yX7_hopsOf, Cond.selects RX7 yX7_hopsOf yX7_hopsOf, Cond.code yX7_hopsOf cX7_hopsOf 3 (some .int), Cond.fieldLink RX7 62 "HopperCourtModel" "isEnd" "[Z", Cond.methodLink RX7 161 yX7_endsOf, Cond.instanceMethod yX7_endsOf, Cond.selects RX7 yX7_endsOf yX7_endsOf, Cond.code yX7_endsOf cX7_endsOf 5 (some .int), Cond.fieldLink RX7 83 "HopperCourtModel" "turn" "I", Cond.fieldLink RX7 32 "HopperCourtModel" "board" "[I"]
def wsX7_chainAt_r2 : List Cond := [Cond.methodLink RX7 152 yX7_hopsFrom, Cond.instanceMethod yX7_hopsFrom, Cond.selects RX7 yX7_hopsFrom yX7_hopsFrom, Cond.code yX7_hopsFrom cX7_hopsFrom 7 none, Cond.fieldLink RX7 59 "HopperCourtModel" "queue" "[I", Cond.methodLink RX7 148 yX7_behind, Cond.instanceMethod yX7_behind, Cond.selects RX7 yX7_behind yX7_behind, Cond.code yX7_behind cX7_behind 7 (some .int), Cond.fieldLink RX7 19 "HopperCourtModel" "next" "[I", Cond.methodLink RX7 155 yX7_isNext, Cond.instanceMethod yX7_isNext, Cond.selects RX7 yX7_isNext yX7_isNext, Cond.code yX7_isNext cX7_isNext 3 (some .boolean), Cond.fieldLink RX7 22 "HopperCourtModel" "far" "[I", Cond.methodLink RX7 158 yX7_mayEnd, Cond.instanceMethod yX7_mayEnd, Cond.selects RX7 yX7_mayEnd yX7_mayEnd, Cond.code yX7_mayEnd cX7_mayEnd 5 (some .boolean), Cond.fieldLink RX7 16 "HopperCourtModel" "camp" "[I"]
def wsX7_chainAt : List Cond := .code yX7_chainAt cX7_chainAt 10 (some .int) :: ((wsX7_chainAt_r1 ++ wsX7_chainAt_r2) ++ wsX70)
def wsX7_hops_r1 : List Cond := [Cond.methodLink RX7 144 yX7_areCells, Cond.instanceMethod yX7_areCells, Cond.selects RX7 yX7_areCells yX7_areCells, Cond.initialized RX7, Cond.code yX7_areCells cX7_areCells 3 (some .boolean), Cond.methodLink RX7 124 yX7_isCell, Cond.static yX7_isCell, Cond.code yX7_isCell cX7_isCell 1 (some .boolean), Cond.methodLink RX7 89 yX7_isIn, Cond.static yX7_isIn, Cond.code yX7_isIn cX7_isIn 3 (some .boolean), Cond.methodLink RX7 96 yX7_can, Cond.instanceMethod yX7_can, Cond.selects RX7 yX7_can yX7_can, Cond.code yX7_can cX7_can 2 (some .boolean), Cond.fieldLink RX7 86 "HopperCourtModel" "thrown" "I", Cond.methodLink RX7 127 yX7_hopsOf, Cond.instanceMethod yX7_hopsOf, Cond.selects RX7 yX7_hopsOf yX7_hopsOf, Cond.code yX7_hopsOf cX7_hopsOf 3 (some .int), Cond.fieldLink RX7 62 "HopperCourtModel" "isEnd" "[Z", Cond.fieldLink RX7 56 "HopperCourtModel" "level" "[I", Cond.methodLink RX7 161 yX7_endsOf, Cond.instanceMethod yX7_endsOf]
def wsX7_hops_r2 : List Cond := [Cond.selects RX7 yX7_endsOf yX7_endsOf, Cond.code yX7_endsOf cX7_endsOf 5 (some .int), Cond.fieldLink RX7 83 "HopperCourtModel" "turn" "I", Cond.fieldLink RX7 32 "HopperCourtModel" "board" "[I", Cond.methodLink RX7 152 yX7_hopsFrom, Cond.instanceMethod yX7_hopsFrom, Cond.selects RX7 yX7_hopsFrom yX7_hopsFrom, Cond.code yX7_hopsFrom cX7_hopsFrom 7 none, Cond.fieldLink RX7 59 "HopperCourtModel" "queue" "[I", Cond.methodLink RX7 148 yX7_behind, Cond.instanceMethod yX7_behind, Cond.selects RX7 yX7_behind yX7_behind, Cond.code yX7_behind cX7_behind 7 (some .int), Cond.fieldLink RX7 19 "HopperCourtModel" "next" "[I", Cond.methodLink RX7 155 yX7_isNext, Cond.instanceMethod yX7_isNext, Cond.selects RX7 yX7_isNext yX7_isNext, Cond.code yX7_isNext cX7_isNext 3 (some .boolean), Cond.fieldLink RX7 22 "HopperCourtModel" "far" "[I", Cond.methodLink RX7 158 yX7_mayEnd, Cond.instanceMethod yX7_mayEnd, Cond.selects RX7 yX7_mayEnd yX7_mayEnd, Cond.code yX7_mayEnd cX7_mayEnd 5 (some .boolean), Cond.fieldLink RX7 16 "HopperCourtModel" "camp" "[I"]
def wsX7_hops : List Cond := .code yX7_hops cX7_hops 3 (some .int) :: ((wsX7_hops_r1 ++ wsX7_hops_r2) ++ wsX70)
def wsX7_finished : List Cond := .code yX7_finished cX7_finished 2 (some .int) :: ([.fieldLink RX7 109 "HopperCourtModel" "finishers" "I", .fieldLink RX7 38 "HopperCourtModel" "places" "[I", .methodLink RX7 89 yX7_isIn, .static yX7_isIn, .initialized RX7, .code yX7_isIn cX7_isIn 3 (some .boolean), .methodLink RX7 96 yX7_can, .instanceMethod yX7_can, .selects RX7 yX7_can yX7_can, .code yX7_can cX7_can 2 (some .boolean), .fieldLink RX7 86 "HopperCourtModel" "thrown" "I"] ++ wsX70)
def wsX7_isOut : List Cond := .code yX7_isOut cX7_isOut 2 (some .boolean) :: ([.fieldLink RX7 106 "HopperCourtModel" "out" "I", .methodLink RX7 89 yX7_isIn, .static yX7_isIn, .initialized RX7, .code yX7_isIn cX7_isIn 3 (some .boolean), .methodLink RX7 96 yX7_can, .instanceMethod yX7_can, .selects RX7 yX7_can yX7_can, .code yX7_can cX7_can 2 (some .boolean), .fieldLink RX7 86 "HopperCourtModel" "thrown" "I"] ++ wsX70)
def wsX7_wayOf : List Cond := .code yX7_wayOf cX7_wayOf 8 (some .int) :: ([.fieldLink RX7 32 "HopperCourtModel" "board" "[I", .fieldLink RX7 69 "HopperCourtModel" "marbles" "[I", .fieldLink RX7 66 "HopperCourtModel" "cheapest" "[I", .constant RX7 165 (1000000), .fieldLink RX7 22 "HopperCourtModel" "far" "[I", .fieldLink RX7 25 "HopperCourtModel" "cells" "[I"] ++ wsX70)
def wsX7_way : List Cond := .code yX7_way cX7_way 2 (some .int) :: ([.methodLink RX7 89 yX7_isIn, .static yX7_isIn, .initialized RX7, .code yX7_isIn cX7_isIn 3 (some .boolean), .methodLink RX7 96 yX7_can, .instanceMethod yX7_can, .selects RX7 yX7_can yX7_can, .code yX7_can cX7_can 2 (some .boolean), .fieldLink RX7 86 "HopperCourtModel" "thrown" "I", .methodLink RX7 100 yX7_plays, .instanceMethod yX7_plays, .selects RX7 yX7_plays yX7_plays, .code yX7_plays cX7_plays 2 (some .boolean), .fieldLink RX7 93 "HopperCourtModel" "players" "I", .methodLink RX7 166 yX7_wayOf, .instanceMethod yX7_wayOf, .selects RX7 yX7_wayOf yX7_wayOf, .code yX7_wayOf cX7_wayOf 8 (some .int), .fieldLink RX7 32 "HopperCourtModel" "board" "[I", .fieldLink RX7 69 "HopperCourtModel" "marbles" "[I", .fieldLink RX7 66 "HopperCourtModel" "cheapest" "[I", .constant RX7 165 (1000000), .fieldLink RX7 22 "HopperCourtModel" "far" "[I", .fieldLink RX7 25 "HopperCourtModel" "cells" "[I"] ++ wsX70)
def wsX7_best_r1 : List Cond := [Cond.constant RX7 165 (1000000), Cond.fieldLink RX7 83 "HopperCourtModel" "turn" "I", Cond.fieldLink RX7 62 "HopperCourtModel" "isEnd" "[Z", Cond.fieldLink RX7 32 "HopperCourtModel" "board" "[I", Cond.methodLink RX7 161 yX7_endsOf, Cond.instanceMethod yX7_endsOf, Cond.selects RX7 yX7_endsOf yX7_endsOf, Cond.initialized RX7, Cond.code yX7_endsOf cX7_endsOf 5 (some .int), Cond.fieldLink RX7 56 "HopperCourtModel" "level" "[I", Cond.methodLink RX7 152 yX7_hopsFrom, Cond.instanceMethod yX7_hopsFrom, Cond.selects RX7 yX7_hopsFrom yX7_hopsFrom, Cond.code yX7_hopsFrom cX7_hopsFrom 7 none, Cond.fieldLink RX7 59 "HopperCourtModel" "queue" "[I", Cond.methodLink RX7 148 yX7_behind, Cond.instanceMethod yX7_behind, Cond.selects RX7 yX7_behind yX7_behind, Cond.code yX7_behind cX7_behind 7 (some .int), Cond.fieldLink RX7 19 "HopperCourtModel" "next" "[I", Cond.methodLink RX7 155 yX7_isNext, Cond.instanceMethod yX7_isNext, Cond.selects RX7 yX7_isNext yX7_isNext, Cond.code yX7_isNext cX7_isNext 3 (some .boolean)]
def wsX7_best_r2 : List Cond := [Cond.fieldLink RX7 22 "HopperCourtModel" "far" "[I", Cond.methodLink RX7 158 yX7_mayEnd, Cond.instanceMethod yX7_mayEnd, Cond.selects RX7 yX7_mayEnd yX7_mayEnd, Cond.code yX7_mayEnd cX7_mayEnd 5 (some .boolean), Cond.fieldLink RX7 16 "HopperCourtModel" "camp" "[I", Cond.methodLink RX7 166 yX7_wayOf, Cond.instanceMethod yX7_wayOf, Cond.selects RX7 yX7_wayOf yX7_wayOf, Cond.code yX7_wayOf cX7_wayOf 8 (some .int), Cond.fieldLink RX7 69 "HopperCourtModel" "marbles" "[I", Cond.fieldLink RX7 66 "HopperCourtModel" "cheapest" "[I", Cond.fieldLink RX7 25 "HopperCourtModel" "cells" "[I"]
def wsX7_best : List Cond := .code yX7_best cX7_best 7 (some .int) :: ((wsX7_best_r1 ++ wsX7_best_r2) ++ wsX70)
def wsX7_bestFrom_r1 : List Cond := [Cond.fieldLink RX7 86 "HopperCourtModel" "thrown" "I", Cond.methodLink RX7 169 yX7_best, Cond.instanceMethod yX7_best, Cond.selects RX7 yX7_best yX7_best, Cond.initialized RX7, Cond.code yX7_best cX7_best 7 (some .int), Cond.constant RX7 165 (1000000), Cond.fieldLink RX7 83 "HopperCourtModel" "turn" "I", Cond.fieldLink RX7 62 "HopperCourtModel" "isEnd" "[Z", Cond.fieldLink RX7 32 "HopperCourtModel" "board" "[I", Cond.methodLink RX7 161 yX7_endsOf, Cond.instanceMethod yX7_endsOf, Cond.selects RX7 yX7_endsOf yX7_endsOf, Cond.code yX7_endsOf cX7_endsOf 5 (some .int), Cond.fieldLink RX7 56 "HopperCourtModel" "level" "[I", Cond.methodLink RX7 152 yX7_hopsFrom, Cond.instanceMethod yX7_hopsFrom, Cond.selects RX7 yX7_hopsFrom yX7_hopsFrom, Cond.code yX7_hopsFrom cX7_hopsFrom 7 none, Cond.fieldLink RX7 59 "HopperCourtModel" "queue" "[I", Cond.methodLink RX7 148 yX7_behind, Cond.instanceMethod yX7_behind, Cond.selects RX7 yX7_behind yX7_behind, Cond.code yX7_behind cX7_behind 7 (some .int)]
def wsX7_bestFrom_r2 : List Cond := [Cond.fieldLink RX7 19 "HopperCourtModel" "next" "[I", Cond.methodLink RX7 155 yX7_isNext, Cond.instanceMethod yX7_isNext, Cond.selects RX7 yX7_isNext yX7_isNext, Cond.code yX7_isNext cX7_isNext 3 (some .boolean), Cond.fieldLink RX7 22 "HopperCourtModel" "far" "[I", Cond.methodLink RX7 158 yX7_mayEnd, Cond.instanceMethod yX7_mayEnd, Cond.selects RX7 yX7_mayEnd yX7_mayEnd, Cond.code yX7_mayEnd cX7_mayEnd 5 (some .boolean), Cond.fieldLink RX7 16 "HopperCourtModel" "camp" "[I", Cond.methodLink RX7 166 yX7_wayOf, Cond.instanceMethod yX7_wayOf, Cond.selects RX7 yX7_wayOf yX7_wayOf, Cond.code yX7_wayOf cX7_wayOf 8 (some .int), Cond.fieldLink RX7 69 "HopperCourtModel" "marbles" "[I", Cond.fieldLink RX7 66 "HopperCourtModel" "cheapest" "[I", Cond.fieldLink RX7 25 "HopperCourtModel" "cells" "[I"]
def wsX7_bestFrom : List Cond := .code yX7_bestFrom cX7_bestFrom 2 (some .int) :: ((wsX7_bestFrom_r1 ++ wsX7_bestFrom_r2) ++ wsX70)
def wsX7_bestTo_r1 : List Cond := [Cond.fieldLink RX7 86 "HopperCourtModel" "thrown" "I", Cond.methodLink RX7 169 yX7_best, Cond.instanceMethod yX7_best, Cond.selects RX7 yX7_best yX7_best, Cond.initialized RX7, Cond.code yX7_best cX7_best 7 (some .int), Cond.constant RX7 165 (1000000), Cond.fieldLink RX7 83 "HopperCourtModel" "turn" "I", Cond.fieldLink RX7 62 "HopperCourtModel" "isEnd" "[Z", Cond.fieldLink RX7 32 "HopperCourtModel" "board" "[I", Cond.methodLink RX7 161 yX7_endsOf, Cond.instanceMethod yX7_endsOf, Cond.selects RX7 yX7_endsOf yX7_endsOf, Cond.code yX7_endsOf cX7_endsOf 5 (some .int), Cond.fieldLink RX7 56 "HopperCourtModel" "level" "[I", Cond.methodLink RX7 152 yX7_hopsFrom, Cond.instanceMethod yX7_hopsFrom, Cond.selects RX7 yX7_hopsFrom yX7_hopsFrom, Cond.code yX7_hopsFrom cX7_hopsFrom 7 none, Cond.fieldLink RX7 59 "HopperCourtModel" "queue" "[I", Cond.methodLink RX7 148 yX7_behind, Cond.instanceMethod yX7_behind, Cond.selects RX7 yX7_behind yX7_behind, Cond.code yX7_behind cX7_behind 7 (some .int)]
def wsX7_bestTo_r2 : List Cond := [Cond.fieldLink RX7 19 "HopperCourtModel" "next" "[I", Cond.methodLink RX7 155 yX7_isNext, Cond.instanceMethod yX7_isNext, Cond.selects RX7 yX7_isNext yX7_isNext, Cond.code yX7_isNext cX7_isNext 3 (some .boolean), Cond.fieldLink RX7 22 "HopperCourtModel" "far" "[I", Cond.methodLink RX7 158 yX7_mayEnd, Cond.instanceMethod yX7_mayEnd, Cond.selects RX7 yX7_mayEnd yX7_mayEnd, Cond.code yX7_mayEnd cX7_mayEnd 5 (some .boolean), Cond.fieldLink RX7 16 "HopperCourtModel" "camp" "[I", Cond.methodLink RX7 166 yX7_wayOf, Cond.instanceMethod yX7_wayOf, Cond.selects RX7 yX7_wayOf yX7_wayOf, Cond.code yX7_wayOf cX7_wayOf 8 (some .int), Cond.fieldLink RX7 69 "HopperCourtModel" "marbles" "[I", Cond.fieldLink RX7 66 "HopperCourtModel" "cheapest" "[I", Cond.fieldLink RX7 25 "HopperCourtModel" "cells" "[I"]
def wsX7_bestTo : List Cond := .code yX7_bestTo cX7_bestTo 2 (some .int) :: ((wsX7_bestTo_r1 ++ wsX7_bestTo_r2) ++ wsX70)
def wsJ9_abs_0f7a4 : List Cond := .code yJ9_abs_0f7a4 cJ9_abs_0f7a4 1 (some .int) :: ([])
def wsJ9_max_7cf53 : List Cond := .code yJ9_max_7cf53 cJ9_max_7cf53 2 (some .int) :: ([])
def wsJ9_min_7cf53 : List Cond := .code yJ9_min_7cf53 cJ9_min_7cf53 2 (some .int) :: ([])
set_option maxRecDepth 20000 in
theorem ggX0_add_X4_onTurn : GoodIn wsX0_add wsX4_onTurn := goodIn_r _ [11, 12, 29, 30, 31, 32, 33, 34, 35] (by decide +kernel) (by decide +kernel)
set_option maxRecDepth 20000 in
theorem gX0_add_X4_onTurn : GoodIn wsX0_add (wsV RX0 31 RX4 yX4_onTurn wsX4_onTurn) := goodIn_app (goodIn_of _ (by decide +kernel)) ggX0_add_X4_onTurn
set_option maxRecDepth 20000 in
theorem ggX0_add_X4_outSet : GoodIn wsX0_add wsX4_outSet := goodIn_r _ [16, 17, 29, 30, 31, 32, 33, 34, 35] (by decide +kernel) (by decide +kernel)
set_option maxRecDepth 20000 in
theorem gX0_add_X4_outSet : GoodIn wsX0_add (wsV RX0 37 RX4 yX4_outSet wsX4_outSet) := goodIn_app (goodIn_of _ (by decide +kernel)) ggX0_add_X4_outSet
set_option maxRecDepth 20000 in
theorem ggX0_add_X4_placedCount : GoodIn wsX0_add wsX4_placedCount := goodIn_r _ [21, 22, 29, 30, 31, 32, 33, 34, 35] (by decide +kernel) (by decide +kernel)
set_option maxRecDepth 20000 in
theorem gX0_add_X4_placedCount : GoodIn wsX0_add (wsV RX0 40 RX4 yX4_placedCount wsX4_placedCount) := goodIn_app (goodIn_of _ (by decide +kernel)) ggX0_add_X4_placedCount
set_option maxRecDepth 20000 in
theorem ggX0_takeBack_X1_carry : GoodIn wsX0_takeBack wsX1_carry := goodIn_r _ [11, 12, 13, 14, 15, 33, 34] (by decide +kernel) (by decide +kernel)
set_option maxRecDepth 20000 in
theorem gX0_takeBack_X1_carry : GoodIn wsX0_takeBack (wsV RX0 43 RX1 yX1_carry wsX1_carry) := goodIn_app (goodIn_of _ (by decide +kernel)) ggX0_takeBack_X1_carry
set_option maxRecDepth 20000 in
theorem ggX0_takeBack_X4_restore : GoodIn wsX0_takeBack wsX4_restore := goodIn_r _ [20, 21, 22, 23, 24, 25, 14, 26, 35, 36, 37, 38, 39, 40, 41] (by decide +kernel) (by decide +kernel)
set_option maxRecDepth 20000 in
theorem gX0_takeBack_X4_restore : GoodIn wsX0_takeBack (wsV RX0 49 RX4 yX4_restore wsX4_restore) := goodIn_app (goodIn_of _ (by decide +kernel)) ggX0_takeBack_X4_restore
set_option maxRecDepth 20000 in
theorem ggX1_init_X1_setUp : GoodIn wsX1_init wsX1_setUp := goodIn_r _ [11, 6, 5, 12, 13, 14, 15, 16, 17, 18, 19, 20, 21, 22, 23, 24, 25, 26] (by decide +kernel) (by decide +kernel)
set_option maxRecDepth 20000 in
theorem gX1_init_X1_setUp : GoodIn wsX1_init (wsV RX1 19 RX1 yX1_setUp wsX1_setUp) := goodIn_app (goodIn_of _ (by decide +kernel)) ggX1_init_X1_setUp
set_option maxRecDepth 20000 in
theorem ggX1_setUp_X5_camp : GoodIn wsX1_setUp wsX5_camp := goodIn_r _ [7, 8, 9, 10, 11, 14, 15, 16, 17] (by decide +kernel) (by decide +kernel)
set_option maxRecDepth 20000 in
theorem gX1_setUp_X5_camp : GoodIn wsX1_setUp (wsV RX1 23 RX5 yX5_camp wsX5_camp) := goodIn_app (goodIn_of _ (by decide +kernel)) ggX1_setUp_X5_camp
set_option maxRecDepth 20000 in
theorem ggX1_owner_X6_isCell : GoodIn wsX1_owner wsX6_isCell := goodIn_r _ [4] (by decide +kernel) (by decide +kernel)
set_option maxRecDepth 20000 in
theorem gX1_owner_X6_isCell_n29 : GoodIn wsX1_owner (wsX6_isCell) := ggX1_owner_X6_isCell
set_option maxRecDepth 20000 in
theorem ggX1_isEmpty_X6_isCell : GoodIn wsX1_isEmpty wsX6_isCell := goodIn_r _ [4] (by decide +kernel) (by decide +kernel)
set_option maxRecDepth 20000 in
theorem gX1_isEmpty_X6_isCell_n29 : GoodIn wsX1_isEmpty (wsX6_isCell) := ggX1_isEmpty_X6_isCell
set_option maxRecDepth 20000 in
theorem ggX1_carry_X6_isCell : GoodIn wsX1_carry wsX6_isCell := goodIn_r _ [4] (by decide +kernel) (by decide +kernel)
set_option maxRecDepth 20000 in
theorem gX1_carry_X6_isCell_n29 : GoodIn wsX1_carry (wsX6_isCell) := ggX1_carry_X6_isCell
set_option maxRecDepth 20000 in
theorem ggX1_countInCamp_X5_camp : GoodIn wsX1_countInCamp wsX5_camp := goodIn_r _ [7, 8, 9, 10, 11, 14, 15, 16, 17] (by decide +kernel) (by decide +kernel)
set_option maxRecDepth 20000 in
theorem gX1_countInCamp_X5_camp : GoodIn wsX1_countInCamp (wsV RX1 23 RX5 yX5_camp wsX5_camp) := goodIn_app (goodIn_of _ (by decide +kernel)) ggX1_countInCamp_X5_camp
set_option maxRecDepth 20000 in
theorem ggX2_leastSum_X2_measure : GoodIn wsX2_leastSum wsX2_measure := goodIn_r _ [6, 7, 8, 9, 10, 11, 12, 13, 5, 14, 15, 16, 17, 18, 19, 20, 21, 22, 23, 24, 25, 26, 27, 28, 29, 30, 31, 32, 33, 34, 35, 36, 37, 38, 39, 40, 41, 42, 43, 44, 45, 65, 66, 67, 68, 69, 70, 71, 72, 73, 74, 75, 76, 77, 78] (by decide +kernel) (by decide +kernel)
set_option maxRecDepth 20000 in
theorem gX2_leastSum_X2_measure : GoodIn wsX2_leastSum (wsV RX2 38 RX2 yX2_measure wsX2_measure) := goodIn_app (goodIn_of _ (by decide +kernel)) ggX2_leastSum_X2_measure
set_option maxRecDepth 20000 in
theorem ggX2_leastSum_X2_sumFirst : GoodIn wsX2_leastSum wsX2_sumFirst := goodIn_r _ [49, 1, 50, 51, 52, 53, 54, 55, 56, 57, 58, 59, 5, 60, 61, 7, 62, 63, 40, 64, 65, 66, 67, 68, 69, 70, 71, 72] (by decide +kernel) (by decide +kernel)
set_option maxRecDepth 20000 in
theorem gX2_leastSum_X2_sumFirst : GoodIn wsX2_leastSum (wsV RX2 42 RX2 yX2_sumFirst wsX2_sumFirst) := goodIn_app (goodIn_of _ (by decide +kernel)) ggX2_leastSum_X2_sumFirst
set_option maxRecDepth 20000 in
theorem ggX2_weighAllButOne_X2_measure : GoodIn wsX2_weighAllButOne wsX2_measure := goodIn_r _ [13, 14, 15, 16, 17, 18, 19, 20, 12, 21, 22, 23, 24, 25, 26, 27, 28, 29, 30, 31, 32, 33, 34, 35, 36, 37, 38, 39, 40, 41, 42, 43, 44, 45, 46, 7, 47, 48, 49, 50, 51, 71, 72, 73, 74, 75, 76, 77, 78, 79, 80, 81, 82, 83, 84] (by decide +kernel) (by decide +kernel)
set_option maxRecDepth 20000 in
theorem gX2_weighAllButOne_X2_measure : GoodIn wsX2_weighAllButOne (wsV RX2 38 RX2 yX2_measure wsX2_measure) := goodIn_app (goodIn_of _ (by decide +kernel)) ggX2_weighAllButOne_X2_measure
set_option maxRecDepth 20000 in
theorem ggX2_weighAllButOne_X2_sumFirst : GoodIn wsX2_weighAllButOne wsX2_sumFirst := goodIn_r _ [55, 3, 56, 57, 58, 59, 60, 61, 62, 63, 64, 65, 12, 66, 2, 14, 5, 6, 7, 8, 71, 72, 73, 74, 75, 76, 77, 78] (by decide +kernel) (by decide +kernel)
set_option maxRecDepth 20000 in
theorem gX2_weighAllButOne_X2_sumFirst : GoodIn wsX2_weighAllButOne (wsV RX2 42 RX2 yX2_sumFirst wsX2_sumFirst) := goodIn_app (goodIn_of _ (by decide +kernel)) ggX2_weighAllButOne_X2_sumFirst
set_option maxRecDepth 20000 in
theorem ggX2_weighAllButOne_X2_sumLast : GoodIn wsX2_weighAllButOne wsX2_sumLast := goodIn_r _ [70, 4, 56, 57, 58, 59, 60, 61, 62, 63, 64, 65, 12, 66, 2, 14, 5, 6, 7, 8, 71, 72, 73, 74, 75, 76, 77, 78] (by decide +kernel) (by decide +kernel)
set_option maxRecDepth 20000 in
theorem gX2_weighAllButOne_X2_sumLast : GoodIn wsX2_weighAllButOne (wsV RX2 45 RX2 yX2_sumLast wsX2_sumLast) := goodIn_app (goodIn_of _ (by decide +kernel)) ggX2_weighAllButOne_X2_sumLast
set_option maxRecDepth 20000 in
theorem ggX2_weighAllButOne_J6_bitCount_0f7a4 : GoodIn wsX2_weighAllButOne wsJ6_bitCount_0f7a4 := goodIn_r _ [59, 60, 61, 62] (by decide +kernel) (by decide +kernel)
set_option maxRecDepth 20000 in
theorem gX2_weighAllButOne_J6_bitCount_0f7a4 : GoodIn wsX2_weighAllButOne (va_wsS RX2 51 yJ6_bitCount_0f7a4 wsJ6_bitCount_0f7a4) := goodIn_app (goodIn_of _ (by decide +kernel)) ggX2_weighAllButOne_J6_bitCount_0f7a4
set_option maxRecDepth 20000 in
theorem ggX2_sumWith_X5_steps : GoodIn wsX2_sumWith wsX5_steps := goodIn_r _ [13, 14, 15, 16, 7, 17, 18, 19, 20, 21, 22, 23, 24, 33, 34, 35, 36] (by decide +kernel) (by decide +kernel)
set_option maxRecDepth 20000 in
theorem gX2_sumWith_X5_steps : GoodIn wsX2_sumWith (wsV RX2 61 RX5 yX5_steps wsX5_steps) := goodIn_app (goodIn_of _ (by decide +kernel)) ggX2_sumWith_X5_steps
set_option maxRecDepth 20000 in
theorem ggX2_measure_X2_collect : GoodIn wsX2_measure wsX2_collect := goodIn_r _ [9, 10, 3, 2, 4, 11, 12, 13, 14, 15, 16, 17, 18, 19, 20, 21, 22, 23, 24, 25, 26, 27, 41, 42, 43, 44, 45, 46, 47, 48, 49, 50, 51, 52, 53, 54] (by decide +kernel) (by decide +kernel)
set_option maxRecDepth 20000 in
theorem gX2_measure_X2_collect : GoodIn wsX2_measure (wsV RX2 65 RX2 yX2_collect wsX2_collect) := goodIn_app (goodIn_of _ (by decide +kernel)) ggX2_measure_X2_collect
set_option maxRecDepth 20000 in
theorem ggX2_measure_X5_steps : GoodIn wsX2_measure wsX5_steps := goodIn_r _ [31, 32, 33, 34, 35, 36, 37, 38, 39, 40, 20, 12, 21, 51, 52, 53, 54] (by decide +kernel) (by decide +kernel)
set_option maxRecDepth 20000 in
theorem gX2_measure_X5_steps : GoodIn wsX2_measure (wsV RX2 61 RX5 yX5_steps wsX5_steps) := goodIn_app (goodIn_of _ (by decide +kernel)) ggX2_measure_X5_steps
set_option maxRecDepth 20000 in
theorem ggX2_collect_X6_goalOf : GoodIn wsX2_collect wsX6_goalOf := goodIn_r _ [7] (by decide +kernel) (by decide +kernel)
set_option maxRecDepth 20000 in
theorem gX2_collect_X6_goalOf_n68 : GoodIn wsX2_collect (wsX6_goalOf) := ggX2_collect_X6_goalOf
set_option maxRecDepth 20000 in
theorem ggX2_collect_X1_owner : GoodIn wsX2_collect wsX1_owner := goodIn_r _ [12, 13, 14, 6, 15, 30, 31] (by decide +kernel) (by decide +kernel)
set_option maxRecDepth 20000 in
theorem gX2_collect_X1_owner : GoodIn wsX2_collect (wsV RX2 71 RX1 yX1_owner wsX1_owner) := goodIn_app (goodIn_of _ (by decide +kernel)) ggX2_collect_X1_owner
set_option maxRecDepth 20000 in
theorem ggX2_collect_X5_camp : GoodIn wsX2_collect wsX5_camp := goodIn_r _ [20, 21, 14, 6, 15, 32, 33, 34, 35] (by decide +kernel) (by decide +kernel)
set_option maxRecDepth 20000 in
theorem gX2_collect_X5_camp : GoodIn wsX2_collect (wsV RX2 76 RX5 yX5_camp wsX5_camp) := goodIn_app (goodIn_of _ (by decide +kernel)) ggX2_collect_X5_camp
set_option maxRecDepth 20000 in
theorem ggX2_sumFirst_J6_bitCount_0f7a4 : GoodIn wsX2_sumFirst wsJ6_bitCount_0f7a4 := goodIn_r _ [5, 6, 7, 8] (by decide +kernel) (by decide +kernel)
set_option maxRecDepth 20000 in
theorem gX2_sumFirst_J6_bitCount_0f7a4 : GoodIn wsX2_sumFirst (va_wsS RX2 51 yJ6_bitCount_0f7a4 wsJ6_bitCount_0f7a4) := goodIn_app (goodIn_of _ (by decide +kernel)) ggX2_sumFirst_J6_bitCount_0f7a4
set_option maxRecDepth 20000 in
theorem ggX2_sumFirst_X2_leastWith : GoodIn wsX2_sumFirst wsX2_leastWith := goodIn_r _ [13, 14, 15, 16, 17, 18, 19, 20, 21, 22, 23, 24, 25, 26, 27] (by decide +kernel) (by decide +kernel)
set_option maxRecDepth 20000 in
theorem gX2_sumFirst_X2_leastWith : GoodIn wsX2_sumFirst (wsV RX2 79 RX2 yX2_leastWith wsX2_leastWith) := goodIn_app (goodIn_of _ (by decide +kernel)) ggX2_sumFirst_X2_leastWith
set_option maxRecDepth 20000 in
theorem ggX2_sumLast_J6_bitCount_0f7a4 : GoodIn wsX2_sumLast wsJ6_bitCount_0f7a4 := goodIn_r _ [5, 6, 7, 8] (by decide +kernel) (by decide +kernel)
set_option maxRecDepth 20000 in
theorem gX2_sumLast_J6_bitCount_0f7a4 : GoodIn wsX2_sumLast (va_wsS RX2 51 yJ6_bitCount_0f7a4 wsJ6_bitCount_0f7a4) := goodIn_app (goodIn_of _ (by decide +kernel)) ggX2_sumLast_J6_bitCount_0f7a4
set_option maxRecDepth 20000 in
theorem ggX2_sumLast_X2_leastWith : GoodIn wsX2_sumLast wsX2_leastWith := goodIn_r _ [13, 14, 15, 16, 17, 18, 19, 20, 21, 22, 23, 24, 25, 26, 27] (by decide +kernel) (by decide +kernel)
set_option maxRecDepth 20000 in
theorem gX2_sumLast_X2_leastWith : GoodIn wsX2_sumLast (wsV RX2 79 RX2 yX2_leastWith wsX2_leastWith) := goodIn_app (goodIn_of _ (by decide +kernel)) ggX2_sumLast_X2_leastWith
set_option maxRecDepth 20000 in
theorem ggX3_search_X1_owner : GoodIn wsX3_search wsX1_owner := goodIn_r _ [9, 10, 11, 12, 13, 50, 51] (by decide +kernel) (by decide +kernel)
set_option maxRecDepth 20000 in
theorem gX3_search_X1_owner : GoodIn wsX3_search (wsV RX3 29 RX1 yX1_owner wsX1_owner) := goodIn_app (goodIn_of _ (by decide +kernel)) ggX3_search_X1_owner
set_option maxRecDepth 20000 in
theorem ggX3_search_X3_spread : GoodIn wsX3_search wsX3_spread := goodIn_r _ [18, 3, 19, 11, 12, 13, 20, 21, 22, 17, 23, 4, 1, 24, 25, 26, 27, 28, 29, 30, 31, 32, 8, 33, 10, 45, 46, 47, 48, 49, 52, 53, 54, 55, 50, 51] (by decide +kernel) (by decide +kernel)
set_option maxRecDepth 20000 in
theorem gX3_search_X3_spread : GoodIn wsX3_search (wsV RX3 35 RX3 yX3_spread wsX3_spread) := goodIn_app (goodIn_of _ (by decide +kernel)) ggX3_search_X3_spread
set_option maxRecDepth 20000 in
theorem ggX3_search_X3_mayEnd : GoodIn wsX3_search wsX3_mayEnd := goodIn_r _ [37, 4, 38, 12, 39, 40, 41, 42, 27, 43, 44, 11, 13, 45, 46, 47, 48, 49, 52, 53, 54, 55] (by decide +kernel) (by decide +kernel)
set_option maxRecDepth 20000 in
theorem gX3_search_X3_mayEnd : GoodIn wsX3_search (wsV RX3 39 RX3 yX3_mayEnd wsX3_mayEnd) := goodIn_app (goodIn_of _ (by decide +kernel)) ggX3_search_X3_mayEnd
set_option maxRecDepth 20000 in
theorem ggX3_search_X5_next : GoodIn wsX3_search wsX5_next := goodIn_r _ [28, 29, 11, 12, 13, 52, 53, 54, 55] (by decide +kernel) (by decide +kernel)
set_option maxRecDepth 20000 in
theorem gX3_search_X5_next : GoodIn wsX3_search (wsV RX3 45 RX5 yX5_next wsX5_next) := goodIn_app (goodIn_of _ (by decide +kernel)) ggX3_search_X5_next
set_option maxRecDepth 20000 in
theorem ggX3_search_X1_isEmpty : GoodIn wsX3_search wsX1_isEmpty := goodIn_r _ [33, 10, 11, 12, 13, 50, 51] (by decide +kernel) (by decide +kernel)
set_option maxRecDepth 20000 in
theorem gX3_search_X1_isEmpty : GoodIn wsX3_search (wsV RX3 49 RX1 yX1_isEmpty wsX1_isEmpty) := goodIn_app (goodIn_of _ (by decide +kernel)) ggX3_search_X1_isEmpty
set_option maxRecDepth 20000 in
theorem ggX3_hopsTo_X6_isCell : GoodIn wsX3_hopsTo wsX6_isCell := goodIn_r _ [4] (by decide +kernel) (by decide +kernel)
set_option maxRecDepth 20000 in
theorem gX3_hopsTo_X6_isCell_n53 : GoodIn wsX3_hopsTo (wsX6_isCell) := ggX3_hopsTo_X6_isCell
set_option maxRecDepth 20000 in
theorem ggX3_cellBehind_X3_spread : GoodIn wsX3_cellBehind wsX3_spread := goodIn_r _ [5, 6, 7, 8, 9, 10, 11, 12, 13, 4, 14, 15, 16, 17, 18, 19, 20, 21, 22, 23, 24, 25, 26, 27, 28, 33, 34, 35, 36, 37, 38, 39, 40, 41, 42, 43] (by decide +kernel) (by decide +kernel)
set_option maxRecDepth 20000 in
theorem gX3_cellBehind_X3_spread : GoodIn wsX3_cellBehind (wsV RX3 35 RX3 yX3_spread wsX3_spread) := goodIn_app (goodIn_of _ (by decide +kernel)) ggX3_cellBehind_X3_spread
set_option maxRecDepth 20000 in
theorem ggX3_cellBehind_X3_lowestNearer : GoodIn wsX3_cellBehind wsX3_lowestNearer := goodIn_r _ [32, 6, 11, 12, 13, 4, 14, 15, 16, 17, 18, 19, 20, 21, 22, 8, 9, 10, 23, 24, 25, 26, 27, 28, 33, 34, 35, 36, 37, 38, 39, 40, 41, 42, 43] (by decide +kernel) (by decide +kernel)
set_option maxRecDepth 20000 in
theorem gX3_cellBehind_X3_lowestNearer : GoodIn wsX3_cellBehind (wsV RX3 56 RX3 yX3_lowestNearer wsX3_lowestNearer) := goodIn_app (goodIn_of _ (by decide +kernel)) ggX3_cellBehind_X3_lowestNearer
set_option maxRecDepth 20000 in
theorem ggX3_lowestNearer_X3_landing : GoodIn wsX3_lowestNearer wsX3_landing := goodIn_r _ [6, 7, 8, 9, 10, 11, 12, 13, 14, 15, 16, 17, 18, 19, 20, 21, 22, 23, 24, 25, 26, 27, 28, 29, 30, 31, 32, 33, 34] (by decide +kernel) (by decide +kernel)
set_option maxRecDepth 20000 in
theorem gX3_lowestNearer_X3_landing : GoodIn wsX3_lowestNearer (wsV RX3 59 RX3 yX3_landing wsX3_landing) := goodIn_app (goodIn_of _ (by decide +kernel)) ggX3_lowestNearer_X3_landing
set_option maxRecDepth 20000 in
theorem ggX3_spread_X6_isCell : GoodIn wsX3_spread wsX6_isCell := goodIn_r _ [5] (by decide +kernel) (by decide +kernel)
set_option maxRecDepth 20000 in
theorem gX3_spread_X6_isCell_n53 : GoodIn wsX3_spread (wsX6_isCell) := ggX3_spread_X6_isCell
set_option maxRecDepth 20000 in
theorem ggX3_spread_X3_landing : GoodIn wsX3_spread wsX3_landing := goodIn_r _ [10, 11, 12, 13, 14, 15, 16, 17, 18, 3, 4, 5, 19, 20, 21, 22, 23, 24, 25, 26, 27, 28, 29, 30, 31, 32, 33, 34, 35] (by decide +kernel) (by decide +kernel)
set_option maxRecDepth 20000 in
theorem gX3_spread_X3_landing : GoodIn wsX3_spread (wsV RX3 59 RX3 yX3_landing wsX3_landing) := goodIn_app (goodIn_of _ (by decide +kernel)) ggX3_spread_X3_landing
set_option maxRecDepth 20000 in
theorem ggX3_landing_X5_next : GoodIn wsX3_landing wsX5_next := goodIn_r _ [7, 8, 9, 10, 11, 23, 24, 25, 26] (by decide +kernel) (by decide +kernel)
set_option maxRecDepth 20000 in
theorem gX3_landing_X5_next : GoodIn wsX3_landing (wsV RX3 45 RX5 yX5_next wsX5_next) := goodIn_app (goodIn_of _ (by decide +kernel)) ggX3_landing_X5_next
set_option maxRecDepth 20000 in
theorem ggX3_landing_X1_isEmpty : GoodIn wsX3_landing wsX1_isEmpty := goodIn_r _ [16, 17, 9, 10, 11, 27, 28] (by decide +kernel) (by decide +kernel)
set_option maxRecDepth 20000 in
theorem gX3_landing_X1_isEmpty : GoodIn wsX3_landing (wsV RX3 49 RX1 yX1_isEmpty wsX1_isEmpty) := goodIn_app (goodIn_of _ (by decide +kernel)) ggX3_landing_X1_isEmpty
set_option maxRecDepth 20000 in
theorem ggX3_mayEnd_X6_goalOf : GoodIn wsX3_mayEnd wsX6_goalOf := goodIn_r _ [4] (by decide +kernel) (by decide +kernel)
set_option maxRecDepth 20000 in
theorem gX3_mayEnd_X6_goalOf_n63 : GoodIn wsX3_mayEnd (wsX6_goalOf) := ggX3_mayEnd_X6_goalOf
set_option maxRecDepth 20000 in
theorem ggX3_mayEnd_X5_camp : GoodIn wsX3_mayEnd wsX5_camp := goodIn_r _ [9, 10, 11, 3, 12, 18, 19, 20, 21] (by decide +kernel) (by decide +kernel)
set_option maxRecDepth 20000 in
theorem gX3_mayEnd_X5_camp : GoodIn wsX3_mayEnd (wsV RX3 66 RX5 yX5_camp wsX5_camp) := goodIn_app (goodIn_of _ (by decide +kernel)) ggX3_mayEnd_X5_camp
set_option maxRecDepth 20000 in
theorem ggX4_setUp_X4_plays : GoodIn wsX4_setUp wsX4_plays := goodIn_r _ [10, 1, 11, 12, 13, 14, 15, 16, 17, 18, 19, 20] (by decide +kernel) (by decide +kernel)
set_option maxRecDepth 20000 in
theorem gX4_setUp_X4_plays : GoodIn wsX4_setUp (wsV RX4 35 RX4 yX4_plays wsX4_plays) := goodIn_app (goodIn_of _ (by decide +kernel)) ggX4_setUp_X4_plays
set_option maxRecDepth 20000 in
theorem ggX4_plays_X6_isCamp : GoodIn wsX4_plays wsX6_isCamp := goodIn_r _ [4] (by decide +kernel) (by decide +kernel)
set_option maxRecDepth 20000 in
theorem gX4_plays_X6_isCamp_n39 : GoodIn wsX4_plays (wsX6_isCamp) := ggX4_plays_X6_isCamp
set_option maxRecDepth 20000 in
theorem ggX4_hasDroppedOut_X6_isCamp : GoodIn wsX4_hasDroppedOut wsX6_isCamp := goodIn_r _ [4] (by decide +kernel) (by decide +kernel)
set_option maxRecDepth 20000 in
theorem gX4_hasDroppedOut_X6_isCamp_n39 : GoodIn wsX4_hasDroppedOut (wsX6_isCamp) := ggX4_hasDroppedOut_X6_isCamp
set_option maxRecDepth 20000 in
theorem ggX4_countMove_X6_isCamp : GoodIn wsX4_countMove wsX6_isCamp := goodIn_r _ [5] (by decide +kernel) (by decide +kernel)
set_option maxRecDepth 20000 in
theorem gX4_countMove_X6_isCamp_n39 : GoodIn wsX4_countMove (wsX6_isCamp) := ggX4_countMove_X6_isCamp
set_option maxRecDepth 20000 in
theorem ggX4_placeFinishers_X4_isStillIn : GoodIn wsX4_placeFinishers wsX4_isStillIn := goodIn_r _ [7, 8, 9, 10, 6, 11, 12, 13, 14, 15, 16, 17, 18, 19, 20, 21, 22, 23, 24, 1, 2, 47, 48, 49, 50, 51, 52, 53] (by decide +kernel) (by decide +kernel)
set_option maxRecDepth 20000 in
theorem gX4_placeFinishers_X4_isStillIn : GoodIn wsX4_placeFinishers (wsV RX4 42 RX4 yX4_isStillIn wsX4_isStillIn) := goodIn_app (goodIn_of _ (by decide +kernel)) ggX4_placeFinishers_X4_isStillIn
set_option maxRecDepth 20000 in
theorem ggX4_placeFinishers_X4_fillsGoal : GoodIn wsX4_placeFinishers wsX4_fillsGoal := goodIn_r _ [28, 29, 30, 14, 31, 32, 33, 34, 35, 36, 37, 38, 39, 40, 41, 42, 43, 44, 45, 46, 47, 48, 49, 50, 51, 52, 53, 54, 55, 56, 57, 58, 59] (by decide +kernel) (by decide +kernel)
set_option maxRecDepth 20000 in
theorem gX4_placeFinishers_X4_fillsGoal : GoodIn wsX4_placeFinishers (wsV RX4 45 RX4 yX4_fillsGoal wsX4_fillsGoal) := goodIn_app (goodIn_of _ (by decide +kernel)) ggX4_placeFinishers_X4_fillsGoal
set_option maxRecDepth 20000 in
theorem ggX4_goOn_X4_isStillIn : GoodIn wsX4_goOn wsX4_isStillIn := goodIn_r _ [7, 8, 9, 10, 6, 11, 12, 13, 14, 15, 16, 17, 18, 19, 2, 20, 21, 22, 23, 24, 25, 47, 48, 49, 50, 51, 52, 53] (by decide +kernel) (by decide +kernel)
set_option maxRecDepth 20000 in
theorem gX4_goOn_X4_isStillIn : GoodIn wsX4_goOn (wsV RX4 42 RX4 yX4_isStillIn wsX4_isStillIn) := goodIn_app (goodIn_of _ (by decide +kernel)) ggX4_goOn_X4_isStillIn
set_option maxRecDepth 20000 in
theorem ggX4_goOn_X4_isTooLate : GoodIn wsX4_goOn wsX4_isTooLate := goodIn_r _ [29, 30, 31, 13, 14, 15, 32, 33, 34, 35, 36, 37, 38, 39, 40, 41, 42, 43, 44, 45, 46, 47, 48, 49, 50, 51, 52, 53, 54, 55, 56, 57, 58, 59] (by decide +kernel) (by decide +kernel)
set_option maxRecDepth 20000 in
theorem gX4_goOn_X4_isTooLate : GoodIn wsX4_goOn (wsV RX4 49 RX4 yX4_isTooLate wsX4_isTooLate) := goodIn_app (goodIn_of _ (by decide +kernel)) ggX4_goOn_X4_isTooLate
set_option maxRecDepth 20000 in
theorem ggX4_restore_X6_isCamp : GoodIn wsX4_restore wsX6_isCamp := goodIn_r _ [7] (by decide +kernel) (by decide +kernel)
set_option maxRecDepth 20000 in
theorem gX4_restore_X6_isCamp_n39 : GoodIn wsX4_restore (wsX6_isCamp) := ggX4_restore_X6_isCamp
set_option maxRecDepth 20000 in
theorem ggX4_isStillIn_X4_plays : GoodIn wsX4_isStillIn wsX4_plays := goodIn_r _ [5, 6, 7, 8, 9, 21, 22, 23, 24, 25, 26, 27] (by decide +kernel) (by decide +kernel)
set_option maxRecDepth 20000 in
theorem gX4_isStillIn_X4_plays : GoodIn wsX4_isStillIn (wsV RX4 35 RX4 yX4_plays wsX4_plays) := goodIn_app (goodIn_of _ (by decide +kernel)) ggX4_isStillIn_X4_plays
set_option maxRecDepth 20000 in
theorem ggX4_isStillIn_X4_hasDroppedOut : GoodIn wsX4_isStillIn wsX4_hasDroppedOut := goodIn_r _ [13, 14, 7, 8, 9, 21, 22, 23, 24, 25, 26, 27] (by decide +kernel) (by decide +kernel)
set_option maxRecDepth 20000 in
theorem gX4_isStillIn_X4_hasDroppedOut : GoodIn wsX4_isStillIn (wsV RX4 52 RX4 yX4_hasDroppedOut wsX4_hasDroppedOut) := goodIn_app (goodIn_of _ (by decide +kernel)) ggX4_isStillIn_X4_hasDroppedOut
set_option maxRecDepth 20000 in
theorem ggX4_isStillIn_X4_isPlaced : GoodIn wsX4_isStillIn wsX4_isPlaced := goodIn_r _ [18, 19, 20, 21, 22, 23, 24, 25, 26, 27] (by decide +kernel) (by decide +kernel)
set_option maxRecDepth 20000 in
theorem gX4_isStillIn_X4_isPlaced : GoodIn wsX4_isStillIn (wsV RX4 55 RX4 yX4_isPlaced wsX4_isPlaced) := goodIn_app (goodIn_of _ (by decide +kernel)) ggX4_isStillIn_X4_isPlaced
set_option maxRecDepth 20000 in
theorem ggX4_fillsGoal_X6_goalOf : GoodIn wsX4_fillsGoal wsX6_goalOf := goodIn_r _ [4] (by decide +kernel) (by decide +kernel)
set_option maxRecDepth 20000 in
theorem gX4_fillsGoal_X6_goalOf_n58 : GoodIn wsX4_fillsGoal (wsX6_goalOf) := ggX4_fillsGoal_X6_goalOf
set_option maxRecDepth 20000 in
theorem ggX4_fillsGoal_X1_countInCamp : GoodIn wsX4_fillsGoal wsX1_countInCamp := goodIn_r _ [9, 10, 11, 12, 13, 14, 15, 16, 17, 18, 3, 19, 27, 28, 29, 30, 31, 32] (by decide +kernel) (by decide +kernel)
set_option maxRecDepth 20000 in
theorem gX4_fillsGoal_X1_countInCamp : GoodIn wsX4_fillsGoal (wsV RX4 62 RX1 yX1_countInCamp wsX1_countInCamp) := goodIn_app (goodIn_of _ (by decide +kernel)) ggX4_fillsGoal_X1_countInCamp
set_option maxRecDepth 20000 in
theorem ggX4_isTooLate_X6_isCamp : GoodIn wsX4_isTooLate wsX6_isCamp := goodIn_r _ [5] (by decide +kernel) (by decide +kernel)
set_option maxRecDepth 20000 in
theorem gX4_isTooLate_X6_isCamp_n39 : GoodIn wsX4_isTooLate (wsX6_isCamp) := ggX4_isTooLate_X6_isCamp
set_option maxRecDepth 20000 in
theorem ggX4_isTooLate_X1_countInCamp : GoodIn wsX4_isTooLate wsX1_countInCamp := goodIn_r _ [10, 11, 12, 13, 14, 15, 16, 17, 18, 19, 4, 20, 28, 29, 30, 31, 32, 33] (by decide +kernel) (by decide +kernel)
set_option maxRecDepth 20000 in
theorem gX4_isTooLate_X1_countInCamp : GoodIn wsX4_isTooLate (wsV RX4 62 RX1 yX1_countInCamp wsX1_countInCamp) := goodIn_app (goodIn_of _ (by decide +kernel)) ggX4_isTooLate_X1_countInCamp
set_option maxRecDepth 20000 in
theorem ggX5_init_X5_campAmong : GoodIn wsX5_init wsX5_campAmong := goodIn_r _ [16] (by decide +kernel) (by decide +kernel)
set_option maxRecDepth 20000 in
theorem gX5_init_X5_campAmong : GoodIn wsX5_init (va_wsS RX5 30 yX5_campAmong wsX5_campAmong) := goodIn_app (goodIn_of _ (by decide +kernel)) ggX5_init_X5_campAmong
set_option maxRecDepth 20000 in
theorem ggX5_init_X5_cellIn : GoodIn wsX5_init wsX5_cellIn := goodIn_r _ [19, 10, 9] (by decide +kernel) (by decide +kernel)
set_option maxRecDepth 20000 in
theorem gX5_init_X5_cellIn : GoodIn wsX5_init (va_wsS RX5 40 yX5_cellIn wsX5_cellIn) := goodIn_app (goodIn_of _ (by decide +kernel)) ggX5_init_X5_cellIn
set_option maxRecDepth 20000 in
theorem ggX5_camp_X6_isCell : GoodIn wsX5_camp wsX6_isCell := goodIn_r _ [4] (by decide +kernel) (by decide +kernel)
set_option maxRecDepth 20000 in
theorem gX5_camp_X6_isCell_n43 : GoodIn wsX5_camp (wsX6_isCell) := ggX5_camp_X6_isCell
set_option maxRecDepth 20000 in
theorem ggX5_next_X6_isCell : GoodIn wsX5_next wsX6_isCell := goodIn_r _ [4] (by decide +kernel) (by decide +kernel)
set_option maxRecDepth 20000 in
theorem gX5_next_X6_isCell_n43 : GoodIn wsX5_next (wsX6_isCell) := ggX5_next_X6_isCell
set_option maxRecDepth 20000 in
theorem ggX5_steps_X6_isCell : GoodIn wsX5_steps wsX6_isCell := goodIn_r _ [12] (by decide +kernel) (by decide +kernel)
set_option maxRecDepth 20000 in
theorem gX5_steps_X6_isCell_n43 : GoodIn wsX5_steps (wsX6_isCell) := ggX5_steps_X6_isCell
set_option maxRecDepth 20000 in
theorem ggX6_init_X5_init : GoodIn wsX6_init wsX5_init := goodIn_r _ [32, 33, 2, 3, 34, 35, 36, 37, 38, 39, 40, 41, 42, 43, 44, 6, 45, 46, 47, 48, 103, 104, 105, 106] (by decide +kernel) (by decide +kernel)
set_option maxRecDepth 20000 in
theorem gX6_init_X5_init : GoodIn wsX6_init (wsX5_init) := ggX6_init_X5_init
set_option maxRecDepth 20000 in
theorem ggX6_init_X1_init : GoodIn wsX6_init wsX1_init := goodIn_r _ [51, 52, 2, 3, 34, 53, 54, 55, 56, 57, 10, 58, 59, 60, 61, 6, 62, 37, 63, 64, 65, 115, 116, 103, 104, 105, 106] (by decide +kernel) (by decide +kernel)
set_option maxRecDepth 20000 in
theorem gX6_init_X1_init : GoodIn wsX6_init (wsX1_init) := ggX6_init_X1_init
set_option maxRecDepth 20000 in
theorem ggX6_init_X3_init : GoodIn wsX6_init wsX3_init := goodIn_r _ [68, 69, 2, 3, 34, 70, 71, 72, 73, 74, 117, 118, 119, 120, 121] (by decide +kernel) (by decide +kernel)
set_option maxRecDepth 20000 in
theorem gX6_init_X3_init : GoodIn wsX6_init (wsX3_init) := ggX6_init_X3_init
set_option maxRecDepth 20000 in
theorem ggX6_init_X2_init : GoodIn wsX6_init wsX2_init := goodIn_r _ [77, 78, 2, 3, 34, 79, 80, 81, 82, 83, 84, 85, 86, 122, 123, 124, 125, 126, 127, 128, 129] (by decide +kernel) (by decide +kernel)
set_option maxRecDepth 20000 in
theorem gX6_init_X2_init : GoodIn wsX6_init (wsX2_init) := ggX6_init_X2_init
set_option maxRecDepth 20000 in
theorem ggX6_init_X4_init : GoodIn wsX6_init wsX4_init := goodIn_r _ [89, 90, 2, 3, 34, 91, 92, 93, 94, 130, 131, 132, 133, 134, 135, 136] (by decide +kernel) (by decide +kernel)
set_option maxRecDepth 20000 in
theorem gX6_init_X4_init : GoodIn wsX6_init (wsX4_init) := ggX6_init_X4_init
set_option maxRecDepth 20000 in
theorem ggX6_init_X0_init : GoodIn wsX6_init wsX0_init := goodIn_r _ [96, 97, 2, 3, 34, 98, 99, 100, 101, 102, 137, 138, 139, 140, 141, 142] (by decide +kernel) (by decide +kernel)
set_option maxRecDepth 20000 in
theorem gX6_init_X0_init_n52 : GoodIn wsX6_init (wsX0_init) := ggX6_init_X0_init
set_option maxRecDepth 20000 in
theorem ggX6_begin_J6_bitCount_0f7a4 : GoodIn wsX6_begin wsJ6_bitCount_0f7a4 := goodIn_r _ [9, 10, 11, 12] (by decide +kernel) (by decide +kernel)
set_option maxRecDepth 20000 in
theorem gX6_begin_J6_bitCount_0f7a4 : GoodIn wsX6_begin (va_wsS RX6 64 yJ6_bitCount_0f7a4 wsJ6_bitCount_0f7a4) := goodIn_app (goodIn_of _ (by decide +kernel)) ggX6_begin_J6_bitCount_0f7a4
set_option maxRecDepth 20000 in
theorem ggX6_begin_X1_setUp : GoodIn wsX6_begin wsX1_setUp := goodIn_r _ [17, 18, 19, 20, 21, 22, 23, 24, 25, 26, 27, 28, 59, 60, 61, 62, 63, 64] (by decide +kernel) (by decide +kernel)
set_option maxRecDepth 20000 in
theorem gX6_begin_X1_setUp : GoodIn wsX6_begin (wsV RX6 77 RX1 yX1_setUp wsX1_setUp) := goodIn_app (goodIn_of _ (by decide +kernel)) ggX6_begin_X1_setUp
set_option maxRecDepth 20000 in
theorem ggX6_begin_X4_setUp : GoodIn wsX6_begin wsX4_setUp := goodIn_r _ [33, 34, 35, 36, 37, 38, 39, 40, 41, 32, 42, 43, 27, 44, 65, 66, 67, 68, 69, 70, 71] (by decide +kernel) (by decide +kernel)
set_option maxRecDepth 20000 in
theorem gX6_begin_X4_setUp : GoodIn wsX6_begin (wsV RX6 81 RX4 yX4_setUp wsX4_setUp) := goodIn_app (goodIn_of _ (by decide +kernel)) ggX6_begin_X4_setUp
set_option maxRecDepth 20000 in
theorem ggX6_begin_X0_clear : GoodIn wsX6_begin wsX0_clear := goodIn_r _ [49, 50, 72, 73, 74, 75, 76, 77] (by decide +kernel) (by decide +kernel)
set_option maxRecDepth 20000 in
theorem gX6_begin_X0_clear : GoodIn wsX6_begin (wsV RX6 82 RX0 yX0_clear wsX0_clear) := goodIn_app (goodIn_of _ (by decide +kernel)) ggX6_begin_X0_clear
set_option maxRecDepth 20000 in
theorem ggX6_move_X6_isCell : GoodIn wsX6_move wsX6_isCell := goodIn_r _ [16] (by decide +kernel) (by decide +kernel)
set_option maxRecDepth 20000 in
theorem gX6_move_X6_isCell : GoodIn wsX6_move (va_wsS RX6 89 yX6_isCell wsX6_isCell) := goodIn_app (goodIn_of _ (by decide +kernel)) ggX6_move_X6_isCell
set_option maxRecDepth 20000 in
theorem ggX6_move_X6_isOpen : GoodIn wsX6_move wsX6_isOpen := goodIn_r _ [20, 8, 9, 21, 22, 23, 24, 25, 26, 27, 28, 29, 30, 31, 32, 154, 155, 156, 157, 158, 159, 160, 161, 162, 163, 164, 165, 166, 167, 168, 169, 170, 171, 172, 173, 174] (by decide +kernel) (by decide +kernel)
set_option maxRecDepth 20000 in
theorem gX6_move_X6_isOpen : GoodIn wsX6_move (wsV RX6 98 RX6 yX6_isOpen wsX6_isOpen) := goodIn_app (goodIn_of _ (by decide +kernel)) ggX6_move_X6_isOpen
set_option maxRecDepth 20000 in
theorem ggX6_move_X4_onTurn : GoodIn wsX6_move wsX4_onTurn := goodIn_r _ [25, 26, 162, 163, 164, 165, 166, 167, 168] (by decide +kernel) (by decide +kernel)
set_option maxRecDepth 20000 in
theorem gX6_move_X4_onTurn : GoodIn wsX6_move (wsV RX6 107 RX4 yX4_onTurn wsX4_onTurn) := goodIn_app (goodIn_of _ (by decide +kernel)) ggX6_move_X4_onTurn
set_option maxRecDepth 20000 in
theorem ggX6_move_X3_search : GoodIn wsX6_move wsX3_search := goodIn_r _ [37, 38, 39, 40, 41, 42, 43, 44, 45, 46, 47, 14, 15, 16, 48, 49, 50, 36, 51, 52, 53, 54, 55, 56, 57, 58, 59, 60, 61, 62, 63, 64, 65, 66, 67, 68, 69, 70, 71, 72, 73, 74, 75, 76, 77, 175, 176, 177, 178, 179, 180, 181, 182, 183, 184, 185] (by decide +kernel) (by decide +kernel)
set_option maxRecDepth 20000 in
theorem gX6_move_X3_search : GoodIn wsX6_move (wsV RX6 111 RX3 yX3_search wsX3_search) := goodIn_app (goodIn_of _ (by decide +kernel)) ggX6_move_X3_search
set_option maxRecDepth 20000 in
theorem ggX6_move_X3_hopsTo : GoodIn wsX6_move wsX3_hopsTo := goodIn_r _ [81, 39, 14, 15, 16, 175, 176, 177, 178, 179] (by decide +kernel) (by decide +kernel)
set_option maxRecDepth 20000 in
theorem gX6_move_X3_hopsTo : GoodIn wsX6_move (wsV RX6 115 RX3 yX3_hopsTo wsX3_hopsTo) := goodIn_app (goodIn_of _ (by decide +kernel)) ggX6_move_X3_hopsTo
set_option maxRecDepth 20000 in
theorem ggX6_move_X0_add : GoodIn wsX6_move wsX0_add := goodIn_r _ [85, 32, 86, 87, 88, 89, 90, 91, 22, 23, 24, 25, 26, 92, 93, 94, 95, 96, 97, 98, 99, 100, 101, 169, 170, 171, 172, 173, 174, 162, 163, 164, 165, 166, 167, 168] (by decide +kernel) (by decide +kernel)
set_option maxRecDepth 20000 in
theorem gX6_move_X0_add : GoodIn wsX6_move (wsV RX6 120 RX0 yX0_add wsX0_add) := goodIn_app (goodIn_of _ (by decide +kernel)) ggX6_move_X0_add
set_option maxRecDepth 20000 in
theorem ggX6_move_X1_carry : GoodIn wsX6_move wsX1_carry := goodIn_r _ [105, 47, 14, 15, 16, 180, 181] (by decide +kernel) (by decide +kernel)
set_option maxRecDepth 20000 in
theorem gX6_move_X1_carry : GoodIn wsX6_move (wsV RX6 124 RX1 yX1_carry wsX1_carry) := goodIn_app (goodIn_of _ (by decide +kernel)) ggX6_move_X1_carry
set_option maxRecDepth 20000 in
theorem ggX6_move_X4_countMove : GoodIn wsX6_move wsX4_countMove := goodIn_r _ [109, 26, 110, 111, 15, 112, 162, 163, 164, 165, 166, 167, 168] (by decide +kernel) (by decide +kernel)
set_option maxRecDepth 20000 in
theorem gX6_move_X4_countMove : GoodIn wsX6_move (wsV RX6 127 RX4 yX4_countMove wsX4_countMove) := goodIn_app (goodIn_of _ (by decide +kernel)) ggX6_move_X4_countMove
set_option maxRecDepth 20000 in
theorem ggX6_move_X4_placeFinishers : GoodIn wsX6_move wsX4_placeFinishers := goodIn_r _ [116, 101, 117, 118, 119, 120, 24, 121, 122, 123, 124, 125, 126, 111, 15, 112, 127, 128, 129, 130, 96, 131, 132, 133, 134, 135, 136, 137, 138, 139, 71, 72, 140, 141, 142, 45, 143, 144, 47, 145, 74, 75, 60, 76, 77, 14, 16, 162, 163, 164, 165, 166, 167, 168, 180, 181, 182, 183, 184, 185] (by decide +kernel) (by decide +kernel)
set_option maxRecDepth 20000 in
theorem gX6_move_X4_placeFinishers : GoodIn wsX6_move (wsV RX6 130 RX4 yX4_placeFinishers wsX4_placeFinishers) := goodIn_app (goodIn_of _ (by decide +kernel)) ggX6_move_X4_placeFinishers
set_option maxRecDepth 20000 in
theorem ggX6_move_X4_goOn : GoodIn wsX6_move wsX4_goOn := goodIn_r _ [149, 26, 96, 118, 119, 120, 24, 121, 122, 123, 124, 125, 126, 111, 15, 112, 127, 128, 129, 130, 131, 132, 133, 134, 101, 117, 150, 151, 152, 153, 110, 139, 140, 141, 142, 45, 143, 144, 47, 145, 74, 75, 60, 76, 77, 14, 16, 162, 163, 164, 165, 166, 167, 168, 180, 181, 182, 183, 184, 185] (by decide +kernel) (by decide +kernel)
set_option maxRecDepth 20000 in
theorem gX6_move_X4_goOn : GoodIn wsX6_move (wsV RX6 133 RX4 yX4_goOn wsX4_goOn) := goodIn_app (goodIn_of _ (by decide +kernel)) ggX6_move_X4_goOn
set_option maxRecDepth 20000 in
theorem ggX6_pass_X6_isOpen : GoodIn wsX6_pass wsX6_isOpen := goodIn_r _ [10, 4, 3, 11, 12, 13, 14, 15, 16, 17, 18, 19, 20, 21, 22, 141, 142, 143, 144, 145, 146, 147, 148, 149, 150, 151, 152, 153, 154, 155, 156, 157, 158, 159, 160, 161] (by decide +kernel) (by decide +kernel)
set_option maxRecDepth 20000 in
theorem gX6_pass_X6_isOpen : GoodIn wsX6_pass (wsV RX6 98 RX6 yX6_isOpen wsX6_isOpen) := goodIn_app (goodIn_of _ (by decide +kernel)) ggX6_pass_X6_isOpen
set_option maxRecDepth 20000 in
theorem ggX6_pass_X6_moves : GoodIn wsX6_pass wsX6_moves := goodIn_r _ [26, 4, 27, 28, 11, 12, 13, 14, 15, 16, 29, 30, 31, 32, 33, 34, 35, 9, 36, 37, 38, 39, 40, 41, 42, 43, 44, 45, 46, 47, 48, 49, 50, 51, 52, 53, 54, 55, 56, 57, 58, 59, 60, 61, 62, 63, 64, 65, 66, 67, 68, 69, 70, 71, 72, 73, 74, 75, 76, 77, 78, 79, 80, 141, 142, 143, 144, 145, 146, 147, 148, 149, 150, 151, 152, 153, 154, 155, 162, 163, 164, 165, 166, 167, 168, 169, 170, 171, 172] (by decide +kernel) (by decide +kernel)
set_option maxRecDepth 20000 in
theorem gX6_pass_X6_moves : GoodIn wsX6_pass (wsV RX6 136 RX6 yX6_moves wsX6_moves) := goodIn_app (goodIn_of _ (by decide +kernel)) ggX6_pass_X6_moves
set_option maxRecDepth 20000 in
theorem ggX6_pass_X0_add : GoodIn wsX6_pass wsX0_add := goodIn_r _ [84, 22, 85, 86, 87, 88, 89, 90, 12, 13, 14, 15, 16, 91, 92, 93, 94, 95, 96, 97, 98, 99, 100, 156, 157, 158, 159, 160, 161, 149, 150, 151, 152, 153, 154, 155] (by decide +kernel) (by decide +kernel)
set_option maxRecDepth 20000 in
theorem gX6_pass_X0_add : GoodIn wsX6_pass (wsV RX6 120 RX0 yX0_add wsX0_add) := goodIn_app (goodIn_of _ (by decide +kernel)) ggX6_pass_X0_add
set_option maxRecDepth 20000 in
theorem ggX6_pass_X4_countMove : GoodIn wsX6_pass wsX4_countMove := goodIn_r _ [104, 16, 105, 106, 9, 107, 149, 150, 151, 152, 153, 154, 155] (by decide +kernel) (by decide +kernel)
set_option maxRecDepth 20000 in
theorem gX6_pass_X4_countMove : GoodIn wsX6_pass (wsV RX6 127 RX4 yX4_countMove wsX4_countMove) := goodIn_app (goodIn_of _ (by decide +kernel)) ggX6_pass_X4_countMove
set_option maxRecDepth 20000 in
theorem ggX6_pass_X4_goOn : GoodIn wsX6_pass wsX4_goOn := goodIn_r _ [111, 16, 95, 112, 113, 114, 14, 115, 116, 117, 118, 119, 120, 106, 9, 107, 121, 122, 123, 124, 125, 126, 127, 128, 100, 129, 130, 131, 132, 133, 105, 134, 135, 136, 137, 32, 138, 139, 34, 140, 73, 74, 59, 75, 76, 35, 36, 149, 150, 151, 152, 153, 154, 155, 162, 163, 169, 170, 171, 172] (by decide +kernel) (by decide +kernel)
set_option maxRecDepth 20000 in
theorem gX6_pass_X4_goOn : GoodIn wsX6_pass (wsV RX6 133 RX4 yX4_goOn wsX4_goOn) := goodIn_app (goodIn_of _ (by decide +kernel)) ggX6_pass_X4_goOn
set_option maxRecDepth 20000 in
theorem ggX6_undo_X0_size : GoodIn wsX6_undo wsX0_size := goodIn_r _ [10, 11, 49, 50, 51, 52, 53, 54] (by decide +kernel) (by decide +kernel)
set_option maxRecDepth 20000 in
theorem gX6_undo_X0_size : GoodIn wsX6_undo (wsV RX6 141 RX0 yX0_size wsX0_size) := goodIn_app (goodIn_of _ (by decide +kernel)) ggX6_undo_X0_size
set_option maxRecDepth 20000 in
theorem ggX6_undo_X0_takeBack : GoodIn wsX6_undo wsX0_takeBack := goodIn_r _ [15, 11, 16, 17, 18, 19, 20, 21, 22, 23, 24, 25, 26, 27, 28, 29, 30, 31, 32, 33, 34, 35, 36, 37, 38, 39, 40, 49, 50, 51, 52, 53, 54, 55, 56, 57, 58, 59, 60, 61, 62, 63] (by decide +kernel) (by decide +kernel)
set_option maxRecDepth 20000 in
theorem gX6_undo_X0_takeBack : GoodIn wsX6_undo (wsV RX6 146 RX0 yX0_takeBack wsX0_takeBack) := goodIn_app (goodIn_of _ (by decide +kernel)) ggX6_undo_X0_takeBack
set_option maxRecDepth 20000 in
theorem ggX6_at_X6_isCell : GoodIn wsX6_at wsX6_isCell := goodIn_r _ [7] (by decide +kernel) (by decide +kernel)
set_option maxRecDepth 20000 in
theorem gX6_at_X6_isCell : GoodIn wsX6_at (va_wsS RX6 89 yX6_isCell wsX6_isCell) := goodIn_app (goodIn_of _ (by decide +kernel)) ggX6_at_X6_isCell
set_option maxRecDepth 20000 in
theorem ggX6_at_X1_owner : GoodIn wsX6_at wsX1_owner := goodIn_r _ [12, 13, 5, 6, 7, 22, 23] (by decide +kernel) (by decide +kernel)
set_option maxRecDepth 20000 in
theorem gX6_at_X1_owner : GoodIn wsX6_at (wsV RX6 150 RX1 yX1_owner wsX1_owner) := goodIn_app (goodIn_of _ (by decide +kernel)) ggX6_at_X1_owner
set_option maxRecDepth 20000 in
theorem ggX6_cellAt_X5_cellIn : GoodIn wsX6_cellAt wsX5_cellIn := goodIn_r _ [4, 5, 6] (by decide +kernel) (by decide +kernel)
set_option maxRecDepth 20000 in
theorem gX6_cellAt_X5_cellIn : GoodIn wsX6_cellAt (va_wsS RX6 153 yX5_cellIn wsX5_cellIn) := goodIn_app (goodIn_of _ (by decide +kernel)) ggX6_cellAt_X5_cellIn
set_option maxRecDepth 20000 in
theorem ggX6_campOf_X6_isCell : GoodIn wsX6_campOf wsX6_isCell := goodIn_r _ [7] (by decide +kernel) (by decide +kernel)
set_option maxRecDepth 20000 in
theorem gX6_campOf_X6_isCell : GoodIn wsX6_campOf (va_wsS RX6 89 yX6_isCell wsX6_isCell) := goodIn_app (goodIn_of _ (by decide +kernel)) ggX6_campOf_X6_isCell
set_option maxRecDepth 20000 in
theorem ggX6_campOf_X5_camp : GoodIn wsX6_campOf wsX5_camp := goodIn_r _ [12, 13, 5, 6, 7, 22, 23, 24, 25] (by decide +kernel) (by decide +kernel)
set_option maxRecDepth 20000 in
theorem gX6_campOf_X5_camp : GoodIn wsX6_campOf (wsV RX6 157 RX5 yX5_camp wsX5_camp) := goodIn_app (goodIn_of _ (by decide +kernel)) ggX6_campOf_X5_camp
set_option maxRecDepth 20000 in
theorem ggX6_distance_X6_isCell : GoodIn wsX6_distance wsX6_isCell := goodIn_r _ [7] (by decide +kernel) (by decide +kernel)
set_option maxRecDepth 20000 in
theorem gX6_distance_X6_isCell : GoodIn wsX6_distance (va_wsS RX6 89 yX6_isCell wsX6_isCell) := goodIn_app (goodIn_of _ (by decide +kernel)) ggX6_distance_X6_isCell
set_option maxRecDepth 20000 in
theorem ggX6_distance_X5_steps : GoodIn wsX6_distance wsX5_steps := goodIn_r _ [12, 13, 14, 15, 16, 17, 18, 19, 20, 21, 5, 6, 7, 30, 31, 32, 33] (by decide +kernel) (by decide +kernel)
set_option maxRecDepth 20000 in
theorem gX6_distance_X5_steps : GoodIn wsX6_distance (wsV RX6 160 RX5 yX5_steps wsX5_steps) := goodIn_app (goodIn_of _ (by decide +kernel)) ggX6_distance_X5_steps
set_option maxRecDepth 20000 in
theorem ggX6_turn_X4_onTurn : GoodIn wsX6_turn wsX4_onTurn := goodIn_r _ [6, 7, 16, 17, 18, 19, 20, 21, 22] (by decide +kernel) (by decide +kernel)
set_option maxRecDepth 20000 in
theorem gX6_turn_X4_onTurn : GoodIn wsX6_turn (wsV RX6 107 RX4 yX4_onTurn wsX4_onTurn) := goodIn_app (goodIn_of _ (by decide +kernel)) ggX6_turn_X4_onTurn
set_option maxRecDepth 20000 in
theorem ggX6_made_X0_size : GoodIn wsX6_made wsX0_size := goodIn_r _ [6, 7, 16, 17, 18, 19, 20, 21] (by decide +kernel) (by decide +kernel)
set_option maxRecDepth 20000 in
theorem gX6_made_X0_size : GoodIn wsX6_made (wsV RX6 141 RX0 yX0_size wsX0_size) := goodIn_app (goodIn_of _ (by decide +kernel)) ggX6_made_X0_size
set_option maxRecDepth 20000 in
theorem ggX6_ends_X6_isCell : GoodIn wsX6_ends wsX6_isCell := goodIn_r _ [8] (by decide +kernel) (by decide +kernel)
set_option maxRecDepth 20000 in
theorem gX6_ends_X6_isCell : GoodIn wsX6_ends (va_wsS RX6 89 yX6_isCell wsX6_isCell) := goodIn_app (goodIn_of _ (by decide +kernel)) ggX6_ends_X6_isCell
set_option maxRecDepth 20000 in
theorem ggX6_ends_X4_onTurn : GoodIn wsX6_ends wsX4_onTurn := goodIn_r _ [13, 14, 72, 73, 74, 75, 76, 77, 78] (by decide +kernel) (by decide +kernel)
set_option maxRecDepth 20000 in
theorem gX6_ends_X4_onTurn : GoodIn wsX6_ends (wsV RX6 107 RX4 yX4_onTurn wsX4_onTurn) := goodIn_app (goodIn_of _ (by decide +kernel)) ggX6_ends_X4_onTurn
set_option maxRecDepth 20000 in
theorem ggX6_ends_X3_search : GoodIn wsX6_ends wsX3_search := goodIn_r _ [19, 20, 21, 22, 23, 24, 25, 26, 27, 28, 29, 6, 7, 8, 30, 31, 32, 18, 33, 34, 35, 36, 37, 38, 39, 40, 41, 42, 43, 44, 45, 46, 47, 48, 49, 50, 51, 52, 53, 54, 55, 56, 57, 58, 59, 79, 80, 81, 82, 83, 84, 85, 86, 87, 88, 89] (by decide +kernel) (by decide +kernel)
set_option maxRecDepth 20000 in
theorem gX6_ends_X3_search : GoodIn wsX6_ends (wsV RX6 111 RX3 yX3_search wsX3_search) := goodIn_app (goodIn_of _ (by decide +kernel)) ggX6_ends_X3_search
set_option maxRecDepth 20000 in
theorem ggX6_ends_X3_countEnds : GoodIn wsX6_ends wsX3_countEnds := goodIn_r _ [63, 21, 79, 80, 81, 82, 83] (by decide +kernel) (by decide +kernel)
set_option maxRecDepth 20000 in
theorem gX6_ends_X3_countEnds : GoodIn wsX6_ends (wsV RX6 163 RX3 yX3_countEnds wsX3_countEnds) := goodIn_app (goodIn_of _ (by decide +kernel)) ggX6_ends_X3_countEnds
set_option maxRecDepth 20000 in
theorem ggX6_endAt_X6_isCell : GoodIn wsX6_endAt wsX6_isCell := goodIn_r _ [8] (by decide +kernel) (by decide +kernel)
set_option maxRecDepth 20000 in
theorem gX6_endAt_X6_isCell : GoodIn wsX6_endAt (va_wsS RX6 89 yX6_isCell wsX6_isCell) := goodIn_app (goodIn_of _ (by decide +kernel)) ggX6_endAt_X6_isCell
set_option maxRecDepth 20000 in
theorem ggX6_endAt_X4_onTurn : GoodIn wsX6_endAt wsX4_onTurn := goodIn_r _ [13, 14, 72, 73, 74, 75, 76, 77, 78] (by decide +kernel) (by decide +kernel)
set_option maxRecDepth 20000 in
theorem gX6_endAt_X4_onTurn : GoodIn wsX6_endAt (wsV RX6 107 RX4 yX4_onTurn wsX4_onTurn) := goodIn_app (goodIn_of _ (by decide +kernel)) ggX6_endAt_X4_onTurn
set_option maxRecDepth 20000 in
theorem ggX6_endAt_X3_search : GoodIn wsX6_endAt wsX3_search := goodIn_r _ [19, 20, 21, 22, 23, 24, 25, 26, 27, 28, 29, 6, 7, 8, 30, 31, 32, 18, 33, 34, 35, 36, 37, 38, 39, 40, 41, 42, 43, 44, 45, 46, 47, 48, 49, 50, 51, 52, 53, 54, 55, 56, 57, 58, 59, 79, 80, 81, 82, 83, 84, 85, 86, 87, 88, 89] (by decide +kernel) (by decide +kernel)
set_option maxRecDepth 20000 in
theorem gX6_endAt_X3_search : GoodIn wsX6_endAt (wsV RX6 111 RX3 yX3_search wsX3_search) := goodIn_app (goodIn_of _ (by decide +kernel)) ggX6_endAt_X3_search
set_option maxRecDepth 20000 in
theorem ggX6_endAt_X3_end : GoodIn wsX6_endAt wsX3_end := goodIn_r _ [63, 21, 79, 80, 81, 82, 83] (by decide +kernel) (by decide +kernel)
set_option maxRecDepth 20000 in
theorem gX6_endAt_X3_end : GoodIn wsX6_endAt (wsV RX6 166 RX3 yX3_end wsX3_end) := goodIn_app (goodIn_of _ (by decide +kernel)) ggX6_endAt_X3_end
set_option maxRecDepth 20000 in
theorem ggX6_moves_X4_onTurn : GoodIn wsX6_moves wsX4_onTurn := goodIn_r _ [8, 9, 71, 72, 73, 74, 75, 76, 77] (by decide +kernel) (by decide +kernel)
set_option maxRecDepth 20000 in
theorem gX6_moves_X4_onTurn : GoodIn wsX6_moves (wsV RX6 107 RX4 yX4_onTurn wsX4_onTurn) := goodIn_app (goodIn_of _ (by decide +kernel)) ggX6_moves_X4_onTurn
set_option maxRecDepth 20000 in
theorem ggX6_moves_X1_owner : GoodIn wsX6_moves wsX1_owner := goodIn_r _ [14, 15, 16, 17, 18, 78, 79] (by decide +kernel) (by decide +kernel)
set_option maxRecDepth 20000 in
theorem gX6_moves_X1_owner : GoodIn wsX6_moves (wsV RX6 150 RX1 yX1_owner wsX1_owner) := goodIn_app (goodIn_of _ (by decide +kernel)) ggX6_moves_X1_owner
set_option maxRecDepth 20000 in
theorem ggX6_moves_X3_search : GoodIn wsX6_moves wsX3_search := goodIn_r _ [23, 24, 25, 26, 27, 28, 11, 12, 13, 14, 15, 16, 17, 18, 29, 30, 31, 22, 32, 33, 34, 35, 36, 37, 38, 39, 40, 41, 42, 43, 44, 45, 46, 47, 48, 49, 50, 51, 52, 53, 54, 55, 56, 57, 58, 80, 81, 82, 83, 84, 78, 79, 85, 86, 87, 88] (by decide +kernel) (by decide +kernel)
set_option maxRecDepth 20000 in
theorem gX6_moves_X3_search : GoodIn wsX6_moves (wsV RX6 111 RX3 yX3_search wsX3_search) := goodIn_app (goodIn_of _ (by decide +kernel)) ggX6_moves_X3_search
set_option maxRecDepth 20000 in
theorem ggX6_moves_X3_countEnds : GoodIn wsX6_moves wsX3_countEnds := goodIn_r _ [62, 25, 80, 81, 82, 83, 84] (by decide +kernel) (by decide +kernel)
set_option maxRecDepth 20000 in
theorem gX6_moves_X3_countEnds : GoodIn wsX6_moves (wsV RX6 163 RX3 yX3_countEnds wsX3_countEnds) := goodIn_app (goodIn_of _ (by decide +kernel)) ggX6_moves_X3_countEnds
set_option maxRecDepth 20000 in
theorem ggX6_chainAt_X6_isCell : GoodIn wsX6_chainAt wsX6_isCell := goodIn_r _ [8] (by decide +kernel) (by decide +kernel)
set_option maxRecDepth 20000 in
theorem gX6_chainAt_X6_isCell : GoodIn wsX6_chainAt (va_wsS RX6 89 yX6_isCell wsX6_isCell) := goodIn_app (goodIn_of _ (by decide +kernel)) ggX6_chainAt_X6_isCell
set_option maxRecDepth 20000 in
theorem ggX6_chainAt_X4_onTurn : GoodIn wsX6_chainAt wsX4_onTurn := goodIn_r _ [13, 14, 80, 81, 82, 83, 84, 85, 86] (by decide +kernel) (by decide +kernel)
set_option maxRecDepth 20000 in
theorem gX6_chainAt_X4_onTurn : GoodIn wsX6_chainAt (wsV RX6 107 RX4 yX4_onTurn wsX4_onTurn) := goodIn_app (goodIn_of _ (by decide +kernel)) ggX6_chainAt_X4_onTurn
set_option maxRecDepth 20000 in
theorem ggX6_chainAt_X3_search : GoodIn wsX6_chainAt wsX3_search := goodIn_r _ [19, 20, 21, 22, 23, 24, 25, 26, 27, 28, 29, 6, 7, 8, 30, 31, 32, 18, 33, 34, 35, 36, 37, 38, 39, 40, 41, 42, 43, 44, 45, 46, 47, 48, 49, 50, 51, 52, 53, 54, 55, 56, 57, 58, 59, 87, 88, 89, 90, 91, 92, 93, 94, 95, 96, 97] (by decide +kernel) (by decide +kernel)
set_option maxRecDepth 20000 in
theorem gX6_chainAt_X3_search : GoodIn wsX6_chainAt (wsV RX6 111 RX3 yX3_search wsX3_search) := goodIn_app (goodIn_of _ (by decide +kernel)) ggX6_chainAt_X3_search
set_option maxRecDepth 20000 in
theorem ggX6_chainAt_X3_hopsTo : GoodIn wsX6_chainAt wsX3_hopsTo := goodIn_r _ [63, 21, 6, 7, 8, 87, 88, 89, 90, 91] (by decide +kernel) (by decide +kernel)
set_option maxRecDepth 20000 in
theorem gX6_chainAt_X3_hopsTo : GoodIn wsX6_chainAt (wsV RX6 115 RX3 yX3_hopsTo wsX3_hopsTo) := goodIn_app (goodIn_of _ (by decide +kernel)) ggX6_chainAt_X3_hopsTo
set_option maxRecDepth 20000 in
theorem ggX6_chainAt_X3_cellBehind : GoodIn wsX6_chainAt wsX3_cellBehind := goodIn_r _ [67, 30, 31, 32, 18, 33, 22, 34, 6, 7, 8, 35, 36, 37, 38, 23, 20, 39, 40, 41, 42, 43, 44, 45, 46, 47, 27, 48, 29, 68, 69, 70, 71, 87, 88, 89, 90, 91, 94, 95, 96, 97, 92, 93] (by decide +kernel) (by decide +kernel)
set_option maxRecDepth 20000 in
theorem gX6_chainAt_X3_cellBehind : GoodIn wsX6_chainAt (wsV RX6 173 RX3 yX3_cellBehind wsX3_cellBehind) := goodIn_app (goodIn_of _ (by decide +kernel)) ggX6_chainAt_X3_cellBehind
set_option maxRecDepth 20000 in
theorem ggX6_hops_X6_isCell : GoodIn wsX6_hops wsX6_isCell := goodIn_r _ [8] (by decide +kernel) (by decide +kernel)
set_option maxRecDepth 20000 in
theorem gX6_hops_X6_isCell : GoodIn wsX6_hops (va_wsS RX6 89 yX6_isCell wsX6_isCell) := goodIn_app (goodIn_of _ (by decide +kernel)) ggX6_hops_X6_isCell
set_option maxRecDepth 20000 in
theorem ggX6_hops_X4_onTurn : GoodIn wsX6_hops wsX4_onTurn := goodIn_r _ [13, 14, 72, 73, 74, 75, 76, 77, 78] (by decide +kernel) (by decide +kernel)
set_option maxRecDepth 20000 in
theorem gX6_hops_X4_onTurn : GoodIn wsX6_hops (wsV RX6 107 RX4 yX4_onTurn wsX4_onTurn) := goodIn_app (goodIn_of _ (by decide +kernel)) ggX6_hops_X4_onTurn
set_option maxRecDepth 20000 in
theorem ggX6_hops_X3_search : GoodIn wsX6_hops wsX3_search := goodIn_r _ [19, 20, 21, 22, 23, 24, 25, 26, 27, 28, 29, 6, 7, 8, 30, 31, 32, 18, 33, 34, 35, 36, 37, 38, 39, 40, 41, 42, 43, 44, 45, 46, 47, 48, 49, 50, 51, 52, 53, 54, 55, 56, 57, 58, 59, 79, 80, 81, 82, 83, 84, 85, 86, 87, 88, 89] (by decide +kernel) (by decide +kernel)
set_option maxRecDepth 20000 in
theorem gX6_hops_X3_search : GoodIn wsX6_hops (wsV RX6 111 RX3 yX3_search wsX3_search) := goodIn_app (goodIn_of _ (by decide +kernel)) ggX6_hops_X3_search
set_option maxRecDepth 20000 in
theorem ggX6_hops_X3_hopsTo : GoodIn wsX6_hops wsX3_hopsTo := goodIn_r _ [63, 21, 6, 7, 8, 79, 80, 81, 82, 83] (by decide +kernel) (by decide +kernel)
set_option maxRecDepth 20000 in
theorem gX6_hops_X3_hopsTo : GoodIn wsX6_hops (wsV RX6 115 RX3 yX3_hopsTo wsX3_hopsTo) := goodIn_app (goodIn_of _ (by decide +kernel)) ggX6_hops_X3_hopsTo
set_option maxRecDepth 20000 in
theorem ggX6_finished_X6_isCamp : GoodIn wsX6_finished wsX6_isCamp := goodIn_r _ [7] (by decide +kernel) (by decide +kernel)
set_option maxRecDepth 20000 in
theorem gX6_finished_X6_isCamp : GoodIn wsX6_finished (va_wsS RX6 177 yX6_isCamp wsX6_isCamp) := goodIn_app (goodIn_of _ (by decide +kernel)) ggX6_finished_X6_isCamp
set_option maxRecDepth 20000 in
theorem ggX6_finished_X4_playerAtPlace : GoodIn wsX6_finished wsX4_playerAtPlace := goodIn_r _ [12, 13, 14, 23, 24, 25, 26, 27, 28, 29] (by decide +kernel) (by decide +kernel)
set_option maxRecDepth 20000 in
theorem gX6_finished_X4_playerAtPlace : GoodIn wsX6_finished (wsV RX6 182 RX4 yX4_playerAtPlace wsX4_playerAtPlace) := goodIn_app (goodIn_of _ (by decide +kernel)) ggX6_finished_X4_playerAtPlace
set_option maxRecDepth 20000 in
theorem ggX6_isOut_X6_isCamp : GoodIn wsX6_isOut wsX6_isCamp := goodIn_r _ [7] (by decide +kernel) (by decide +kernel)
set_option maxRecDepth 20000 in
theorem gX6_isOut_X6_isCamp : GoodIn wsX6_isOut (va_wsS RX6 177 yX6_isCamp wsX6_isCamp) := goodIn_app (goodIn_of _ (by decide +kernel)) ggX6_isOut_X6_isCamp
set_option maxRecDepth 20000 in
theorem ggX6_isOut_X4_hasDroppedOut : GoodIn wsX6_isOut wsX4_hasDroppedOut := goodIn_r _ [12, 13, 5, 6, 7, 22, 23, 24, 25, 26, 27, 28] (by decide +kernel) (by decide +kernel)
set_option maxRecDepth 20000 in
theorem gX6_isOut_X4_hasDroppedOut : GoodIn wsX6_isOut (wsV RX6 187 RX4 yX4_hasDroppedOut wsX4_hasDroppedOut) := goodIn_app (goodIn_of _ (by decide +kernel)) ggX6_isOut_X4_hasDroppedOut
set_option maxRecDepth 20000 in
theorem ggX6_way_X6_isCamp : GoodIn wsX6_way wsX6_isCamp := goodIn_r _ [8] (by decide +kernel) (by decide +kernel)
set_option maxRecDepth 20000 in
theorem gX6_way_X6_isCamp : GoodIn wsX6_way (va_wsS RX6 177 yX6_isCamp wsX6_isCamp) := goodIn_app (goodIn_of _ (by decide +kernel)) ggX6_way_X6_isCamp
set_option maxRecDepth 20000 in
theorem ggX6_way_X4_plays : GoodIn wsX6_way wsX4_plays := goodIn_r _ [13, 14, 6, 7, 8, 90, 91, 92, 93, 94, 95, 96] (by decide +kernel) (by decide +kernel)
set_option maxRecDepth 20000 in
theorem gX6_way_X4_plays : GoodIn wsX6_way (wsV RX6 190 RX4 yX4_plays wsX4_plays) := goodIn_app (goodIn_of _ (by decide +kernel)) ggX6_way_X4_plays
set_option maxRecDepth 20000 in
theorem ggX6_way_X2_leastSum : GoodIn wsX6_way wsX2_leastSum := goodIn_r _ [19, 20, 21, 22, 23, 18, 24, 25, 26, 27, 28, 29, 30, 31, 32, 33, 34, 7, 35, 36, 37, 38, 39, 40, 41, 42, 43, 44, 45, 46, 47, 48, 49, 50, 51, 52, 53, 54, 55, 56, 57, 58, 59, 60, 61, 62, 63, 64, 65, 66, 67, 68, 69, 70, 71, 72, 73, 74, 75, 76, 77, 78, 79, 80, 81, 97, 98, 99, 100, 101, 102, 103, 104, 105, 106, 107, 108, 109, 110] (by decide +kernel) (by decide +kernel)
set_option maxRecDepth 20000 in
theorem gX6_way_X2_leastSum : GoodIn wsX6_way (wsV RX6 193 RX2 yX2_leastSum wsX2_leastSum) := goodIn_app (goodIn_of _ (by decide +kernel)) ggX6_way_X2_leastSum
set_option maxRecDepth 20000 in
theorem ggX6_bestFrom_X6_bestMove : GoodIn wsX6_bestFrom wsX6_bestMove := goodIn_r _ [5, 6, 7, 8, 9, 10, 11, 12, 13, 14, 15, 16, 17, 18, 19, 20, 21, 22, 23, 24, 25, 26, 27, 28, 29, 30, 31, 32, 33, 34, 35, 36, 37, 38, 39, 40, 41, 42, 4, 43, 44, 45, 46, 47, 48, 49, 50, 51, 52, 53, 54, 55, 56, 57, 58, 59, 60, 61, 62, 63, 64, 65, 66, 67, 68, 69, 70, 71, 72, 73, 74, 75, 76, 77, 78, 79, 80, 81, 82, 83, 84, 85, 86, 87, 88, 89, 90, 91, 92, 93, 94, 95, 96, 97, 98, 99, 100, 101, 102, 103, 104, 105, 106, 107, 108, 109, 110, 111, 112, 113, 114, 115, 116, 117, 118, 119, 120, 121, 122, 123, 124, 125, 126, 127, 128, 129, 130, 131, 132, 133, 134, 135, 136, 137, 138, 139, 140, 141, 142, 143, 144, 145, 146, 147, 148, 149, 150, 151, 152, 153, 154, 155, 156, 157, 158, 159, 160, 161, 162, 163, 164, 165, 166, 167] (by decide +kernel) (by decide +kernel)
set_option maxRecDepth 20000 in
theorem gX6_bestFrom_X6_bestMove : GoodIn wsX6_bestFrom (wsV RX6 196 RX6 yX6_bestMove wsX6_bestMove) := goodIn_app (goodIn_of _ (by decide +kernel)) ggX6_bestFrom_X6_bestMove
set_option maxRecDepth 20000 in
theorem ggX6_bestTo_X6_bestMove : GoodIn wsX6_bestTo wsX6_bestMove := goodIn_r _ [5, 6, 7, 8, 9, 10, 11, 12, 13, 14, 15, 16, 17, 18, 19, 20, 21, 22, 23, 24, 25, 26, 27, 28, 29, 30, 31, 32, 33, 34, 35, 36, 37, 38, 39, 40, 41, 42, 4, 43, 44, 45, 46, 47, 48, 49, 50, 51, 52, 53, 54, 55, 56, 57, 58, 59, 60, 61, 62, 63, 64, 65, 66, 67, 68, 69, 70, 71, 72, 73, 74, 75, 76, 77, 78, 79, 80, 81, 82, 83, 84, 85, 86, 87, 88, 89, 90, 91, 92, 93, 94, 95, 96, 97, 98, 99, 100, 101, 102, 103, 104, 105, 106, 107, 108, 109, 110, 111, 112, 113, 114, 115, 116, 117, 118, 119, 120, 121, 122, 123, 124, 125, 126, 127, 128, 129, 130, 131, 132, 133, 134, 135, 136, 137, 138, 139, 140, 141, 142, 143, 144, 145, 146, 147, 148, 149, 150, 151, 152, 153, 154, 155, 156, 157, 158, 159, 160, 161, 162, 163, 164, 165, 166, 167] (by decide +kernel) (by decide +kernel)
set_option maxRecDepth 20000 in
theorem gX6_bestTo_X6_bestMove : GoodIn wsX6_bestTo (wsV RX6 196 RX6 yX6_bestMove wsX6_bestMove) := goodIn_app (goodIn_of _ (by decide +kernel)) ggX6_bestTo_X6_bestMove
set_option maxRecDepth 20000 in
theorem ggX6_isOpen_X4_onTurn : GoodIn wsX6_isOpen wsX4_onTurn := goodIn_r _ [7, 8, 23, 24, 25, 26, 27, 28, 29] (by decide +kernel) (by decide +kernel)
set_option maxRecDepth 20000 in
theorem gX6_isOpen_X4_onTurn : GoodIn wsX6_isOpen (wsV RX6 107 RX4 yX4_onTurn wsX4_onTurn) := goodIn_app (goodIn_of _ (by decide +kernel)) ggX6_isOpen_X4_onTurn
set_option maxRecDepth 20000 in
theorem ggX6_isOpen_X0_size : GoodIn wsX6_isOpen wsX0_size := goodIn_r _ [13, 14, 30, 31, 32, 33, 34, 35] (by decide +kernel) (by decide +kernel)
set_option maxRecDepth 20000 in
theorem gX6_isOpen_X0_size : GoodIn wsX6_isOpen (wsV RX6 141 RX0 yX0_size wsX0_size) := goodIn_app (goodIn_of _ (by decide +kernel)) ggX6_isOpen_X0_size
set_option maxRecDepth 20000 in
theorem ggX6_bestMove_X4_onTurn : GoodIn wsX6_bestMove wsX4_onTurn := goodIn_r _ [9, 10, 138, 139, 140, 141, 142, 143, 144] (by decide +kernel) (by decide +kernel)
set_option maxRecDepth 20000 in
theorem gX6_bestMove_X4_onTurn : GoodIn wsX6_bestMove (wsV RX6 107 RX4 yX4_onTurn wsX4_onTurn) := goodIn_app (goodIn_of _ (by decide +kernel)) ggX6_bestMove_X4_onTurn
set_option maxRecDepth 20000 in
theorem ggX6_bestMove_X2_weighAllButOne : GoodIn wsX6_bestMove wsX2_weighAllButOne := goodIn_r _ [15, 16, 17, 18, 19, 20, 21, 22, 23, 24, 25, 26, 14, 27, 28, 29, 30, 31, 32, 33, 34, 35, 36, 37, 38, 39, 40, 41, 42, 43, 44, 45, 46, 47, 48, 49, 50, 51, 52, 53, 54, 55, 56, 57, 58, 59, 60, 61, 62, 63, 64, 65, 66, 67, 68, 69, 70, 71, 72, 73, 74, 75, 76, 77, 78, 79, 80, 81, 82, 83, 84, 145, 146, 147, 148, 149, 150, 151, 152, 153, 154, 155, 156, 157, 158] (by decide +kernel) (by decide +kernel)
set_option maxRecDepth 20000 in
theorem gX6_bestMove_X2_weighAllButOne : GoodIn wsX6_bestMove (wsV RX6 199 RX2 yX2_weighAllButOne wsX2_weighAllButOne) := goodIn_app (goodIn_of _ (by decide +kernel)) ggX6_bestMove_X2_weighAllButOne
set_option maxRecDepth 20000 in
theorem ggX6_bestMove_X2_marbleCell : GoodIn wsX6_bestMove wsX2_marbleCell := goodIn_r _ [88, 30, 145, 146, 147, 148, 149, 150, 151, 152] (by decide +kernel) (by decide +kernel)
set_option maxRecDepth 20000 in
theorem gX6_bestMove_X2_marbleCell : GoodIn wsX6_bestMove (wsV RX6 203 RX2 yX2_marbleCell wsX2_marbleCell) := goodIn_app (goodIn_of _ (by decide +kernel)) ggX6_bestMove_X2_marbleCell
set_option maxRecDepth 20000 in
theorem ggX6_bestMove_X3_search : GoodIn wsX6_bestMove wsX3_search := goodIn_r _ [93, 94, 95, 96, 97, 98, 41, 42, 43, 44, 45, 46, 38, 47, 99, 100, 101, 92, 102, 103, 104, 105, 106, 107, 108, 109, 110, 51, 111, 112, 113, 114, 115, 116, 117, 118, 119, 120, 37, 39, 121, 49, 50, 52, 53, 159, 160, 161, 162, 163, 153, 154, 155, 156, 157, 158] (by decide +kernel) (by decide +kernel)
set_option maxRecDepth 20000 in
theorem gX6_bestMove_X3_search : GoodIn wsX6_bestMove (wsV RX6 111 RX3 yX3_search wsX3_search) := goodIn_app (goodIn_of _ (by decide +kernel)) ggX6_bestMove_X3_search
set_option maxRecDepth 20000 in
theorem ggX6_bestMove_X3_hopsTo : GoodIn wsX6_bestMove wsX3_hopsTo := goodIn_r _ [125, 95, 46, 38, 47, 159, 160, 161, 162, 163] (by decide +kernel) (by decide +kernel)
set_option maxRecDepth 20000 in
theorem gX6_bestMove_X3_hopsTo : GoodIn wsX6_bestMove (wsV RX6 115 RX3 yX3_hopsTo wsX3_hopsTo) := goodIn_app (goodIn_of _ (by decide +kernel)) ggX6_bestMove_X3_hopsTo
set_option maxRecDepth 20000 in
theorem ggX6_bestMove_X2_sumWith : GoodIn wsX6_bestMove wsX2_sumWith := goodIn_r _ [129, 17, 16, 29, 31, 20, 21, 22, 23, 54, 55, 56, 51, 57, 58, 59, 60, 61, 62, 63, 64, 65, 46, 38, 47, 145, 146, 147, 148, 149, 150, 151, 152, 155, 156, 157, 158] (by decide +kernel) (by decide +kernel)
set_option maxRecDepth 20000 in
theorem gX6_bestMove_X2_sumWith : GoodIn wsX6_bestMove (wsV RX6 206 RX2 yX2_sumWith wsX2_sumWith) := goodIn_app (goodIn_of _ (by decide +kernel)) ggX6_bestMove_X2_sumWith
set_option maxRecDepth 20000 in
theorem ggX7_init_X7_campAt : GoodIn wsX7_init wsX7_campAt := goodIn_r _ [30] (by decide +kernel) (by decide +kernel)
set_option maxRecDepth 20000 in
theorem gX7_init_X7_campAt : GoodIn wsX7_init (va_wsS RX7 72 yX7_campAt wsX7_campAt) := goodIn_app (goodIn_of _ (by decide +kernel)) ggX7_init_X7_campAt
set_option maxRecDepth 20000 in
theorem ggX7_init_X7_find : GoodIn wsX7_init wsX7_find := goodIn_r _ [34, 5, 6, 39, 40, 41, 42, 43, 44, 45, 46, 47, 48, 49, 50, 51, 52, 53, 54, 55, 56, 57, 58, 59, 60, 61, 62, 63, 64, 65] (by decide +kernel) (by decide +kernel)
set_option maxRecDepth 20000 in
theorem gX7_init_X7_find : GoodIn wsX7_init (wsV RX7 76 RX7 yX7_find wsX7_find) := goodIn_app (goodIn_of _ (by decide +kernel)) ggX7_init_X7_find
set_option maxRecDepth 20000 in
theorem ggX7_init_X7_measures : GoodIn wsX7_init wsX7_measures := goodIn_r _ [38, 9, 21, 8, 39, 40, 41, 42, 43, 44, 45, 46, 47, 48, 49, 50, 51, 52, 53, 54, 55, 56, 57, 58, 59, 60, 61, 62, 63, 64, 65] (by decide +kernel) (by decide +kernel)
set_option maxRecDepth 20000 in
theorem gX7_init_X7_measures : GoodIn wsX7_init (wsV RX7 79 RX7 yX7_measures wsX7_measures) := goodIn_app (goodIn_of _ (by decide +kernel)) ggX7_init_X7_measures
set_option maxRecDepth 20000 in
theorem ggX7_isCell_X7_isIn : GoodIn wsX7_isCell wsX7_isIn := goodIn_r _ [4] (by decide +kernel) (by decide +kernel)
set_option maxRecDepth 20000 in
theorem gX7_isCell_X7_isIn : GoodIn wsX7_isCell (va_wsS RX7 89 yX7_isIn wsX7_isIn) := goodIn_app (goodIn_of _ (by decide +kernel)) ggX7_isCell_X7_isIn
set_option maxRecDepth 20000 in
theorem ggX7_plays_X7_isIn : GoodIn wsX7_plays wsX7_isIn := goodIn_r _ [5] (by decide +kernel) (by decide +kernel)
set_option maxRecDepth 20000 in
theorem gX7_plays_X7_isIn : GoodIn wsX7_plays (va_wsS RX7 89 yX7_isIn wsX7_isIn) := goodIn_app (goodIn_of _ (by decide +kernel)) ggX7_plays_X7_isIn
set_option maxRecDepth 20000 in
theorem ggX7_begin_X7_isIn : GoodIn wsX7_begin wsX7_isIn := goodIn_r _ [12] (by decide +kernel) (by decide +kernel)
set_option maxRecDepth 20000 in
theorem gX7_begin_X7_isIn : GoodIn wsX7_begin (va_wsS RX7 89 yX7_isIn wsX7_isIn) := goodIn_app (goodIn_of _ (by decide +kernel)) ggX7_begin_X7_isIn
set_option maxRecDepth 20000 in
theorem ggX7_begin_X7_can : GoodIn wsX7_begin wsX7_can := goodIn_r _ [16, 17, 22, 23, 24, 25, 26, 27, 28, 29, 30, 31, 32, 33, 34, 35, 36, 37, 38, 39, 40, 41, 42, 43, 44, 45, 46, 47, 48] (by decide +kernel) (by decide +kernel)
set_option maxRecDepth 20000 in
theorem gX7_begin_X7_can : GoodIn wsX7_begin (wsV RX7 96 RX7 yX7_can wsX7_can) := goodIn_app (goodIn_of _ (by decide +kernel)) ggX7_begin_X7_can
set_option maxRecDepth 20000 in
theorem ggX7_begin_X7_plays : GoodIn wsX7_begin wsX7_plays := goodIn_r _ [21, 1, 9, 10, 11, 12, 22, 23, 24, 25, 26, 27, 28, 29, 30, 31, 32, 33, 34, 35, 36, 37, 38, 39, 40, 41, 42, 43, 44, 45, 46, 47, 48] (by decide +kernel) (by decide +kernel)
set_option maxRecDepth 20000 in
theorem gX7_begin_X7_plays : GoodIn wsX7_begin (wsV RX7 100 RX7 yX7_plays wsX7_plays) := goodIn_app (goodIn_of _ (by decide +kernel)) ggX7_begin_X7_plays
set_option maxRecDepth 20000 in
theorem ggX7_setFill_X7_isIn : GoodIn wsX7_setFill wsX7_isIn := goodIn_r _ [5] (by decide +kernel) (by decide +kernel)
set_option maxRecDepth 20000 in
theorem gX7_setFill_X7_isIn : GoodIn wsX7_setFill (va_wsS RX7 89 yX7_isIn wsX7_isIn) := goodIn_app (goodIn_of _ (by decide +kernel)) ggX7_setFill_X7_isIn
set_option maxRecDepth 20000 in
theorem ggX7_setFill_X7_can : GoodIn wsX7_setFill wsX7_can := goodIn_r _ [9, 10, 11, 12, 13, 14, 15, 16, 17, 18, 19, 20, 21, 22, 23, 24, 25, 26, 27, 28, 29, 30, 31, 32, 33, 34, 35, 36, 37] (by decide +kernel) (by decide +kernel)
set_option maxRecDepth 20000 in
theorem gX7_setFill_X7_can : GoodIn wsX7_setFill (wsV RX7 96 RX7 yX7_can wsX7_can) := goodIn_app (goodIn_of _ (by decide +kernel)) ggX7_setFill_X7_can
set_option maxRecDepth 20000 in
theorem ggX7_setPatience_X7_isIn : GoodIn wsX7_setPatience wsX7_isIn := goodIn_r _ [5] (by decide +kernel) (by decide +kernel)
set_option maxRecDepth 20000 in
theorem gX7_setPatience_X7_isIn : GoodIn wsX7_setPatience (va_wsS RX7 89 yX7_isIn wsX7_isIn) := goodIn_app (goodIn_of _ (by decide +kernel)) ggX7_setPatience_X7_isIn
set_option maxRecDepth 20000 in
theorem ggX7_setPatience_X7_can : GoodIn wsX7_setPatience wsX7_can := goodIn_r _ [9, 10, 11, 12, 13, 14, 15, 16, 17, 18, 19, 20, 21, 22, 23, 24, 25, 26, 27, 28, 29, 30, 31, 32, 33, 34, 35, 36, 37] (by decide +kernel) (by decide +kernel)
set_option maxRecDepth 20000 in
theorem gX7_setPatience_X7_can : GoodIn wsX7_setPatience (wsV RX7 96 RX7 yX7_can wsX7_can) := goodIn_app (goodIn_of _ (by decide +kernel)) ggX7_setPatience_X7_can
set_option maxRecDepth 20000 in
theorem ggX7_isFull_X7_ownIn : GoodIn wsX7_isFull wsX7_ownIn := goodIn_r _ [5, 6, 7, 8, 9, 10, 11, 12, 13, 14, 15, 16, 17, 18, 19, 20, 21, 22, 23, 24, 25, 26, 27, 28, 29, 30, 31, 32, 33, 34] (by decide +kernel) (by decide +kernel)
set_option maxRecDepth 20000 in
theorem gX7_isFull_X7_ownIn : GoodIn wsX7_isFull (wsV RX7 115 RX7 yX7_ownIn wsX7_ownIn) := goodIn_app (goodIn_of _ (by decide +kernel)) ggX7_isFull_X7_ownIn
set_option maxRecDepth 20000 in
theorem ggX7_finishes_X7_plays : GoodIn wsX7_finishes wsX7_plays := goodIn_r _ [9, 10, 11, 12, 8, 13, 28, 29, 30, 31, 32, 33, 34, 35, 36, 37, 38, 39, 40, 41, 42, 43, 44, 45, 46, 47, 48, 49, 50, 51, 52, 53, 54] (by decide +kernel) (by decide +kernel)
set_option maxRecDepth 20000 in
theorem gX7_finishes_X7_plays : GoodIn wsX7_finishes (wsV RX7 100 RX7 yX7_plays wsX7_plays) := goodIn_app (goodIn_of _ (by decide +kernel)) ggX7_finishes_X7_plays
set_option maxRecDepth 20000 in
theorem ggX7_finishes_X7_hasFinished : GoodIn wsX7_finishes wsX7_hasFinished := goodIn_r _ [17, 4, 3, 28, 29, 30, 31, 32, 33, 34, 35, 36, 37, 38, 39, 40, 41, 42, 43, 44, 45, 46, 47, 48, 49, 50, 51, 52, 53, 54] (by decide +kernel) (by decide +kernel)
set_option maxRecDepth 20000 in
theorem gX7_finishes_X7_hasFinished : GoodIn wsX7_finishes (wsV RX7 118 RX7 yX7_hasFinished wsX7_hasFinished) := goodIn_app (goodIn_of _ (by decide +kernel)) ggX7_finishes_X7_hasFinished
set_option maxRecDepth 20000 in
theorem ggX7_finishes_X7_isFull : GoodIn wsX7_finishes wsX7_isFull := goodIn_r _ [21, 22, 23, 24, 8, 25, 26, 27, 28, 29, 30, 31, 32, 33, 34, 35, 36, 37, 38, 39, 40, 41, 42, 43, 44, 45, 46, 47, 48, 49, 50, 51, 52, 53, 54] (by decide +kernel) (by decide +kernel)
set_option maxRecDepth 20000 in
theorem gX7_finishes_X7_isFull : GoodIn wsX7_finishes (wsV RX7 121 RX7 yX7_isFull wsX7_isFull) := goodIn_app (goodIn_of _ (by decide +kernel)) ggX7_finishes_X7_isFull
set_option maxRecDepth 20000 in
theorem ggX7_finishes_X7_ownIn : GoodIn wsX7_finishes wsX7_ownIn := goodIn_r _ [25, 26, 27, 28, 29, 30, 31, 32, 33, 34, 35, 36, 37, 38, 39, 40, 41, 42, 43, 44, 45, 46, 47, 48, 49, 50, 51, 52, 53, 54] (by decide +kernel) (by decide +kernel)
set_option maxRecDepth 20000 in
theorem gX7_finishes_X7_ownIn : GoodIn wsX7_finishes (wsV RX7 115 RX7 yX7_ownIn wsX7_ownIn) := goodIn_app (goodIn_of _ (by decide +kernel)) ggX7_finishes_X7_ownIn
set_option maxRecDepth 20000 in
theorem ggX7_turns_X7_plays : GoodIn wsX7_turns wsX7_plays := goodIn_r _ [9, 10, 11, 12, 8, 13, 26, 27, 28, 29, 30, 31, 32, 33, 34, 35, 36, 37, 38, 39, 40, 41, 42, 43, 44, 45, 46, 47, 48, 49, 50, 51, 52] (by decide +kernel) (by decide +kernel)
set_option maxRecDepth 20000 in
theorem gX7_turns_X7_plays : GoodIn wsX7_turns (wsV RX7 100 RX7 yX7_plays wsX7_plays) := goodIn_app (goodIn_of _ (by decide +kernel)) ggX7_turns_X7_plays
set_option maxRecDepth 20000 in
theorem ggX7_turns_X7_hasFinished : GoodIn wsX7_turns wsX7_hasFinished := goodIn_r _ [17, 18, 19, 26, 27, 28, 29, 30, 31, 32, 33, 34, 35, 36, 37, 38, 39, 40, 41, 42, 43, 44, 45, 46, 47, 48, 49, 50, 51, 52] (by decide +kernel) (by decide +kernel)
set_option maxRecDepth 20000 in
theorem gX7_turns_X7_hasFinished : GoodIn wsX7_turns (wsV RX7 118 RX7 yX7_hasFinished wsX7_hasFinished) := goodIn_app (goodIn_of _ (by decide +kernel)) ggX7_turns_X7_hasFinished
set_option maxRecDepth 20000 in
theorem ggX7_turns_X7_ownIn : GoodIn wsX7_turns wsX7_ownIn := goodIn_r _ [23, 24, 25, 26, 27, 28, 29, 30, 31, 32, 33, 34, 35, 36, 37, 38, 39, 40, 41, 42, 43, 44, 45, 46, 47, 48, 49, 50, 51, 52] (by decide +kernel) (by decide +kernel)
set_option maxRecDepth 20000 in
theorem gX7_turns_X7_ownIn : GoodIn wsX7_turns (wsV RX7 115 RX7 yX7_ownIn wsX7_ownIn) := goodIn_app (goodIn_of _ (by decide +kernel)) ggX7_turns_X7_ownIn
set_option maxRecDepth 20000 in
theorem ggX7_move_X7_isCell : GoodIn wsX7_move wsX7_isCell := goodIn_r _ [7, 8, 9, 6, 10] (by decide +kernel) (by decide +kernel)
set_option maxRecDepth 20000 in
theorem gX7_move_X7_isCell : GoodIn wsX7_move (va_wsS RX7 124 yX7_isCell wsX7_isCell) := goodIn_app (goodIn_of _ (by decide +kernel)) ggX7_move_X7_isCell
set_option maxRecDepth 20000 in
theorem ggX7_move_X7_can : GoodIn wsX7_move wsX7_can := goodIn_r _ [14, 15, 87, 88, 89, 90, 91, 92, 93, 94, 95, 96, 97, 98, 99, 100, 101, 102, 103, 104, 105, 106, 107, 108, 109, 110, 111, 112, 113] (by decide +kernel) (by decide +kernel)
set_option maxRecDepth 20000 in
theorem gX7_move_X7_can : GoodIn wsX7_move (wsV RX7 96 RX7 yX7_can wsX7_can) := goodIn_app (goodIn_of _ (by decide +kernel)) ggX7_move_X7_can
set_option maxRecDepth 20000 in
theorem ggX7_move_X7_hopsOf : GoodIn wsX7_move wsX7_hopsOf := goodIn_r _ [19, 20, 21, 22, 23, 24, 6, 25, 1, 3, 26, 27, 28, 29, 30, 31, 32, 33, 34, 35, 36, 37, 38, 39, 40, 41, 42, 43, 44, 45, 87, 88, 89, 90, 91, 92, 93, 94, 95, 96, 97, 98, 99, 100, 101, 102, 103, 104, 105, 106, 107, 108, 109, 110, 111, 112, 113] (by decide +kernel) (by decide +kernel)
set_option maxRecDepth 20000 in
theorem gX7_move_X7_hopsOf : GoodIn wsX7_move (wsV RX7 127 RX7 yX7_hopsOf wsX7_hopsOf) := goodIn_app (goodIn_of _ (by decide +kernel)) ggX7_move_X7_hopsOf
set_option maxRecDepth 20000 in
theorem ggX7_move_X7_notes : GoodIn wsX7_move wsX7_notes := goodIn_r _ [49, 50, 2, 51, 52, 1, 53, 54, 55, 56, 57, 87, 88, 89, 90, 91, 92, 93, 94, 95, 96, 97, 98, 99, 100, 101, 102, 103, 104, 105, 106, 107, 108, 109, 110, 111, 112, 113] (by decide +kernel) (by decide +kernel)
set_option maxRecDepth 20000 in
theorem gX7_move_X7_notes : GoodIn wsX7_move (wsV RX7 130 RX7 yX7_notes wsX7_notes) := goodIn_app (goodIn_of _ (by decide +kernel)) ggX7_move_X7_notes
set_option maxRecDepth 20000 in
theorem ggX7_move_X7_finishes : GoodIn wsX7_move wsX7_finishes := goodIn_r _ [61, 54, 62, 63, 56, 64, 65, 66, 6, 67, 68, 8, 9, 10, 69, 70, 71, 72, 73, 74, 75, 76, 77, 78, 79, 80, 3, 81, 87, 88, 89, 90, 91, 92, 93, 94, 95, 96, 97, 98, 99, 100, 101, 102, 103, 104, 105, 106, 107, 108, 109, 110, 111, 112, 113] (by decide +kernel) (by decide +kernel)
set_option maxRecDepth 20000 in
theorem gX7_move_X7_finishes : GoodIn wsX7_move (wsV RX7 134 RX7 yX7_finishes wsX7_finishes) := goodIn_app (goodIn_of _ (by decide +kernel)) ggX7_move_X7_finishes
set_option maxRecDepth 20000 in
theorem ggX7_move_X7_turns : GoodIn wsX7_move wsX7_turns := goodIn_r _ [85, 1, 54, 86, 57, 64, 65, 66, 6, 67, 68, 8, 9, 10, 69, 70, 71, 72, 56, 63, 77, 78, 79, 80, 3, 81, 87, 88, 89, 90, 91, 92, 93, 94, 95, 96, 97, 98, 99, 100, 101, 102, 103, 104, 105, 106, 107, 108, 109, 110, 111, 112, 113] (by decide +kernel) (by decide +kernel)
set_option maxRecDepth 20000 in
theorem gX7_move_X7_turns : GoodIn wsX7_move (wsV RX7 137 RX7 yX7_turns wsX7_turns) := goodIn_app (goodIn_of _ (by decide +kernel)) ggX7_move_X7_turns
set_option maxRecDepth 20000 in
theorem ggX7_pass_X7_allMoves : GoodIn wsX7_pass wsX7_allMoves := goodIn_r _ [7, 8, 9, 10, 6, 11, 1, 12, 13, 14, 15, 16, 17, 18, 19, 20, 21, 22, 23, 24, 25, 26, 27, 28, 29, 30, 31, 32, 33, 34, 75, 76, 77, 78, 79, 80, 81, 82, 83, 84, 85, 86, 87, 88, 89, 90, 91, 92, 93, 94, 95, 96, 97, 98, 99, 100, 101] (by decide +kernel) (by decide +kernel)
set_option maxRecDepth 20000 in
theorem gX7_pass_X7_allMoves : GoodIn wsX7_pass (wsV RX7 140 RX7 yX7_allMoves wsX7_allMoves) := goodIn_app (goodIn_of _ (by decide +kernel)) ggX7_pass_X7_allMoves
set_option maxRecDepth 20000 in
theorem ggX7_pass_X7_can : GoodIn wsX7_pass wsX7_can := goodIn_r _ [38, 39, 75, 76, 77, 78, 79, 80, 81, 82, 83, 84, 85, 86, 87, 88, 89, 90, 91, 92, 93, 94, 95, 96, 97, 98, 99, 100, 101] (by decide +kernel) (by decide +kernel)
set_option maxRecDepth 20000 in
theorem gX7_pass_X7_can : GoodIn wsX7_pass (wsV RX7 96 RX7 yX7_can wsX7_can) := goodIn_app (goodIn_of _ (by decide +kernel)) ggX7_pass_X7_can
set_option maxRecDepth 20000 in
theorem ggX7_pass_X7_notes : GoodIn wsX7_pass wsX7_notes := goodIn_r _ [43, 44, 2, 45, 46, 1, 47, 48, 49, 50, 51, 75, 76, 77, 78, 79, 80, 81, 82, 83, 84, 85, 86, 87, 88, 89, 90, 91, 92, 93, 94, 95, 96, 97, 98, 99, 100, 101] (by decide +kernel) (by decide +kernel)
set_option maxRecDepth 20000 in
theorem gX7_pass_X7_notes : GoodIn wsX7_pass (wsV RX7 130 RX7 yX7_notes wsX7_notes) := goodIn_app (goodIn_of _ (by decide +kernel)) ggX7_pass_X7_notes
set_option maxRecDepth 20000 in
theorem ggX7_pass_X7_turns : GoodIn wsX7_pass wsX7_turns := goodIn_r _ [55, 1, 48, 56, 51, 57, 58, 59, 6, 60, 61, 62, 63, 64, 65, 66, 67, 68, 50, 69, 70, 71, 72, 73, 12, 74, 75, 76, 77, 78, 79, 80, 81, 82, 83, 84, 85, 86, 87, 88, 89, 90, 91, 92, 93, 94, 95, 96, 97, 98, 99, 100, 101] (by decide +kernel) (by decide +kernel)
set_option maxRecDepth 20000 in
theorem gX7_pass_X7_turns : GoodIn wsX7_pass (wsV RX7 137 RX7 yX7_turns wsX7_turns) := goodIn_app (goodIn_of _ (by decide +kernel)) ggX7_pass_X7_turns
set_option maxRecDepth 20000 in
theorem ggX7_undo_X7_can : GoodIn wsX7_undo wsX7_can := goodIn_r _ [16, 17, 18, 19, 20, 21, 22, 23, 24, 25, 26, 27, 28, 29, 30, 31, 32, 33, 34, 35, 36, 37, 38, 39, 40, 41, 42, 43, 44] (by decide +kernel) (by decide +kernel)
set_option maxRecDepth 20000 in
theorem gX7_undo_X7_can : GoodIn wsX7_undo (wsV RX7 96 RX7 yX7_can wsX7_can) := goodIn_app (goodIn_of _ (by decide +kernel)) ggX7_undo_X7_can
set_option maxRecDepth 20000 in
theorem ggX7_at_X7_isCell : GoodIn wsX7_at wsX7_isCell := goodIn_r _ [5, 6, 7, 4, 8] (by decide +kernel) (by decide +kernel)
set_option maxRecDepth 20000 in
theorem gX7_at_X7_isCell : GoodIn wsX7_at (va_wsS RX7 124 yX7_isCell wsX7_isCell) := goodIn_app (goodIn_of _ (by decide +kernel)) ggX7_at_X7_isCell
set_option maxRecDepth 20000 in
theorem ggX7_at_X7_can : GoodIn wsX7_at wsX7_can := goodIn_r _ [12, 13, 14, 15, 16, 17, 18, 19, 20, 21, 22, 23, 24, 25, 26, 27, 28, 29, 30, 31, 32, 33, 34, 35, 36, 37, 38, 39, 40] (by decide +kernel) (by decide +kernel)
set_option maxRecDepth 20000 in
theorem gX7_at_X7_can : GoodIn wsX7_at (wsV RX7 96 RX7 yX7_can wsX7_can) := goodIn_app (goodIn_of _ (by decide +kernel)) ggX7_at_X7_can
set_option maxRecDepth 20000 in
theorem ggX7_cellAt_X7_find : GoodIn wsX7_cellAt wsX7_find := goodIn_r _ [6, 7, 8, 9, 10, 11, 12, 13, 14, 15, 16, 17, 18, 19, 20, 21, 22, 23, 24, 25, 26, 27, 28, 29, 30, 31, 32, 33, 34, 35] (by decide +kernel) (by decide +kernel)
set_option maxRecDepth 20000 in
theorem gX7_cellAt_X7_find : GoodIn wsX7_cellAt (wsV RX7 76 RX7 yX7_find wsX7_find) := goodIn_app (goodIn_of _ (by decide +kernel)) ggX7_cellAt_X7_find
set_option maxRecDepth 20000 in
theorem ggX7_campOf_X7_isCell : GoodIn wsX7_campOf wsX7_isCell := goodIn_r _ [5, 6, 7, 4, 8] (by decide +kernel) (by decide +kernel)
set_option maxRecDepth 20000 in
theorem gX7_campOf_X7_isCell : GoodIn wsX7_campOf (va_wsS RX7 124 yX7_isCell wsX7_isCell) := goodIn_app (goodIn_of _ (by decide +kernel)) ggX7_campOf_X7_isCell
set_option maxRecDepth 20000 in
theorem ggX7_campOf_X7_can : GoodIn wsX7_campOf wsX7_can := goodIn_r _ [12, 13, 14, 15, 16, 17, 18, 19, 20, 21, 22, 23, 24, 25, 26, 27, 28, 29, 30, 31, 32, 33, 34, 35, 36, 37, 38, 39, 40] (by decide +kernel) (by decide +kernel)
set_option maxRecDepth 20000 in
theorem gX7_campOf_X7_can : GoodIn wsX7_campOf (wsV RX7 96 RX7 yX7_can wsX7_can) := goodIn_app (goodIn_of _ (by decide +kernel)) ggX7_campOf_X7_can
set_option maxRecDepth 20000 in
theorem ggX7_areCells_X7_isCell : GoodIn wsX7_areCells wsX7_isCell := goodIn_r _ [4, 5, 6, 3, 7] (by decide +kernel) (by decide +kernel)
set_option maxRecDepth 20000 in
theorem gX7_areCells_X7_isCell : GoodIn wsX7_areCells (va_wsS RX7 124 yX7_isCell wsX7_isCell) := goodIn_app (goodIn_of _ (by decide +kernel)) ggX7_areCells_X7_isCell
set_option maxRecDepth 20000 in
theorem ggX7_areCells_X7_can : GoodIn wsX7_areCells wsX7_can := goodIn_r _ [11, 12, 13, 14, 15, 16, 17, 18, 19, 20, 21, 22, 23, 24, 25, 26, 27, 28, 29, 30, 31, 32, 33, 34, 35, 36, 37, 38, 39] (by decide +kernel) (by decide +kernel)
set_option maxRecDepth 20000 in
theorem gX7_areCells_X7_can : GoodIn wsX7_areCells (wsV RX7 96 RX7 yX7_can wsX7_can) := goodIn_app (goodIn_of _ (by decide +kernel)) ggX7_areCells_X7_can
set_option maxRecDepth 20000 in
theorem ggX7_distance_X7_areCells : GoodIn wsX7_distance wsX7_areCells := goodIn_r _ [6, 7, 8, 5, 9, 10, 11, 12, 13, 14, 15, 16, 17, 18, 19, 20, 21, 22, 23, 24, 25, 26, 27, 28, 29, 30, 31, 32, 33, 34, 35, 36, 37, 38, 39, 40, 41, 42, 43, 44] (by decide +kernel) (by decide +kernel)
set_option maxRecDepth 20000 in
theorem gX7_distance_X7_areCells : GoodIn wsX7_distance (wsV RX7 144 RX7 yX7_areCells wsX7_areCells) := goodIn_app (goodIn_of _ (by decide +kernel)) ggX7_distance_X7_areCells
set_option maxRecDepth 20000 in
theorem ggX7_hopsFrom_X7_behind : GoodIn wsX7_hopsFrom wsX7_behind := goodIn_r _ [7, 8, 9, 10, 11, 12, 13, 14, 15, 16, 17, 18, 19, 20, 21, 22, 23, 24, 25, 26, 27, 28, 29, 30, 31, 32, 33, 34, 35, 36] (by decide +kernel) (by decide +kernel)
set_option maxRecDepth 20000 in
theorem gX7_hopsFrom_X7_behind : GoodIn wsX7_hopsFrom (wsV RX7 148 RX7 yX7_behind wsX7_behind) := goodIn_app (goodIn_of _ (by decide +kernel)) ggX7_hopsFrom_X7_behind
set_option maxRecDepth 20000 in
theorem ggX7_endsOf_X7_hopsFrom : GoodIn wsX7_endsOf wsX7_hopsFrom := goodIn_r _ [9, 4, 10, 11, 12, 13, 8, 14, 15, 2, 26, 27, 28, 29, 30, 31, 32, 33, 34, 35, 36, 37, 38, 39, 40, 41, 42, 43, 44, 45, 46, 47, 48, 49, 50, 51, 52] (by decide +kernel) (by decide +kernel)
set_option maxRecDepth 20000 in
theorem gX7_endsOf_X7_hopsFrom : GoodIn wsX7_endsOf (wsV RX7 152 RX7 yX7_hopsFrom wsX7_hopsFrom) := goodIn_app (goodIn_of _ (by decide +kernel)) ggX7_endsOf_X7_hopsFrom
set_option maxRecDepth 20000 in
theorem ggX7_endsOf_X7_isNext : GoodIn wsX7_endsOf wsX7_isNext := goodIn_r _ [19, 20, 26, 27, 28, 29, 30, 31, 32, 33, 34, 35, 36, 37, 38, 39, 40, 41, 42, 43, 44, 45, 46, 47, 48, 49, 50, 51, 52] (by decide +kernel) (by decide +kernel)
set_option maxRecDepth 20000 in
theorem gX7_endsOf_X7_isNext : GoodIn wsX7_endsOf (wsV RX7 155 RX7 yX7_isNext wsX7_isNext) := goodIn_app (goodIn_of _ (by decide +kernel)) ggX7_endsOf_X7_isNext
set_option maxRecDepth 20000 in
theorem ggX7_endsOf_X7_mayEnd : GoodIn wsX7_endsOf wsX7_mayEnd := goodIn_r _ [24, 1, 25, 26, 27, 28, 29, 30, 31, 32, 33, 34, 35, 36, 37, 38, 39, 40, 41, 42, 43, 44, 45, 46, 47, 48, 49, 50, 51, 52] (by decide +kernel) (by decide +kernel)
set_option maxRecDepth 20000 in
theorem gX7_endsOf_X7_mayEnd : GoodIn wsX7_endsOf (wsV RX7 158 RX7 yX7_mayEnd wsX7_mayEnd) := goodIn_app (goodIn_of _ (by decide +kernel)) ggX7_endsOf_X7_mayEnd
set_option maxRecDepth 20000 in
theorem ggX7_hopsOf_X7_endsOf : GoodIn wsX7_hopsOf wsX7_endsOf := goodIn_r _ [7, 8, 9, 1, 2, 10, 11, 12, 6, 13, 14, 15, 16, 17, 18, 19, 20, 21, 22, 23, 24, 25, 26, 27, 28, 29, 30, 31, 32, 33, 34, 35, 36, 37, 38, 39, 40, 41, 42, 43, 44, 45, 46, 47, 48, 49, 50, 51, 52, 53, 54, 55, 56] (by decide +kernel) (by decide +kernel)
set_option maxRecDepth 20000 in
theorem gX7_hopsOf_X7_endsOf : GoodIn wsX7_hopsOf (wsV RX7 161 RX7 yX7_endsOf wsX7_endsOf) := goodIn_app (goodIn_of _ (by decide +kernel)) ggX7_hopsOf_X7_endsOf
set_option maxRecDepth 20000 in
theorem ggX7_hopsOf_X7_isNext : GoodIn wsX7_hopsOf wsX7_isNext := goodIn_r _ [23, 24, 30, 31, 32, 33, 34, 35, 36, 37, 38, 39, 40, 41, 42, 43, 44, 45, 46, 47, 48, 49, 50, 51, 52, 53, 54, 55, 56] (by decide +kernel) (by decide +kernel)
set_option maxRecDepth 20000 in
theorem gX7_hopsOf_X7_isNext : GoodIn wsX7_hopsOf (wsV RX7 155 RX7 yX7_isNext wsX7_isNext) := goodIn_app (goodIn_of _ (by decide +kernel)) ggX7_hopsOf_X7_isNext
set_option maxRecDepth 20000 in
theorem ggX7_allMoves_X7_endsOf : GoodIn wsX7_allMoves wsX7_endsOf := goodIn_r _ [5, 6, 7, 8, 9, 10, 11, 12, 4, 13, 14, 15, 16, 17, 18, 19, 20, 21, 22, 23, 24, 25, 26, 27, 28, 29, 30, 31, 32, 33, 34, 35, 36, 37, 38, 39, 40, 41, 42, 43, 44, 45, 46, 47, 48, 49, 50, 51, 52, 53, 54, 55, 56] (by decide +kernel) (by decide +kernel)
set_option maxRecDepth 20000 in
theorem gX7_allMoves_X7_endsOf : GoodIn wsX7_allMoves (wsV RX7 161 RX7 yX7_endsOf wsX7_endsOf) := goodIn_app (goodIn_of _ (by decide +kernel)) ggX7_allMoves_X7_endsOf
set_option maxRecDepth 20000 in
theorem ggX7_ends_X7_isCell : GoodIn wsX7_ends wsX7_isCell := goodIn_r _ [4, 5, 6, 3, 7] (by decide +kernel) (by decide +kernel)
set_option maxRecDepth 20000 in
theorem gX7_ends_X7_isCell : GoodIn wsX7_ends (va_wsS RX7 124 yX7_isCell wsX7_isCell) := goodIn_app (goodIn_of _ (by decide +kernel)) ggX7_ends_X7_isCell
set_option maxRecDepth 20000 in
theorem ggX7_ends_X7_can : GoodIn wsX7_ends wsX7_can := goodIn_r _ [11, 12, 41, 42, 43, 44, 45, 46, 47, 48, 49, 50, 51, 52, 53, 54, 55, 56, 57, 58, 59, 60, 61, 62, 63, 64, 65, 66, 67] (by decide +kernel) (by decide +kernel)
set_option maxRecDepth 20000 in
theorem gX7_ends_X7_can : GoodIn wsX7_ends (wsV RX7 96 RX7 yX7_can wsX7_can) := goodIn_app (goodIn_of _ (by decide +kernel)) ggX7_ends_X7_can
set_option maxRecDepth 20000 in
theorem ggX7_ends_X7_endsOf : GoodIn wsX7_ends wsX7_endsOf := goodIn_r _ [16, 17, 18, 19, 20, 21, 22, 23, 3, 24, 25, 26, 27, 28, 29, 30, 31, 32, 33, 34, 35, 36, 37, 38, 39, 40, 41, 42, 43, 44, 45, 46, 47, 48, 49, 50, 51, 52, 53, 54, 55, 56, 57, 58, 59, 60, 61, 62, 63, 64, 65, 66, 67] (by decide +kernel) (by decide +kernel)
set_option maxRecDepth 20000 in
theorem gX7_ends_X7_endsOf : GoodIn wsX7_ends (wsV RX7 161 RX7 yX7_endsOf wsX7_endsOf) := goodIn_app (goodIn_of _ (by decide +kernel)) ggX7_ends_X7_endsOf
set_option maxRecDepth 20000 in
theorem ggX7_endAt_X7_isCell : GoodIn wsX7_endAt wsX7_isCell := goodIn_r _ [5, 6, 7, 4, 8] (by decide +kernel) (by decide +kernel)
set_option maxRecDepth 20000 in
theorem gX7_endAt_X7_isCell : GoodIn wsX7_endAt (va_wsS RX7 124 yX7_isCell wsX7_isCell) := goodIn_app (goodIn_of _ (by decide +kernel)) ggX7_endAt_X7_isCell
set_option maxRecDepth 20000 in
theorem ggX7_endAt_X7_endsOf : GoodIn wsX7_endAt wsX7_endsOf := goodIn_r _ [12, 13, 14, 1, 15, 16, 17, 18, 4, 19, 20, 21, 22, 23, 24, 25, 26, 27, 28, 29, 30, 31, 32, 33, 34, 35, 41, 42, 43, 44, 45, 46, 47, 48, 49, 50, 51, 52, 53, 54, 55, 56, 57, 58, 59, 60, 61, 62, 63, 64, 65, 66, 67] (by decide +kernel) (by decide +kernel)
set_option maxRecDepth 20000 in
theorem gX7_endAt_X7_endsOf : GoodIn wsX7_endAt (wsV RX7 161 RX7 yX7_endsOf wsX7_endsOf) := goodIn_app (goodIn_of _ (by decide +kernel)) ggX7_endAt_X7_endsOf
set_option maxRecDepth 20000 in
theorem ggX7_endAt_X7_isIn : GoodIn wsX7_endAt wsX7_isIn := goodIn_r _ [8] (by decide +kernel) (by decide +kernel)
set_option maxRecDepth 20000 in
theorem gX7_endAt_X7_isIn : GoodIn wsX7_endAt (va_wsS RX7 89 yX7_isIn wsX7_isIn) := goodIn_app (goodIn_of _ (by decide +kernel)) ggX7_endAt_X7_isIn
set_option maxRecDepth 20000 in
theorem ggX7_endAt_X7_can : GoodIn wsX7_endAt wsX7_can := goodIn_r _ [39, 40, 41, 42, 43, 44, 45, 46, 47, 48, 49, 50, 51, 52, 53, 54, 55, 56, 57, 58, 59, 60, 61, 62, 63, 64, 65, 66, 67] (by decide +kernel) (by decide +kernel)
set_option maxRecDepth 20000 in
theorem gX7_endAt_X7_can : GoodIn wsX7_endAt (wsV RX7 96 RX7 yX7_can wsX7_can) := goodIn_app (goodIn_of _ (by decide +kernel)) ggX7_endAt_X7_can
set_option maxRecDepth 20000 in
theorem ggX7_moves_X7_allMoves : GoodIn wsX7_moves wsX7_allMoves := goodIn_r _ [6, 7, 8, 9, 5, 10, 11, 12, 13, 14, 15, 16, 17, 18, 19, 20, 21, 22, 23, 24, 25, 26, 27, 28, 29, 30, 31, 32, 33, 34, 35, 36, 37, 38, 39, 40, 41, 42, 43, 44, 45, 46, 47, 48, 49, 50, 51, 52, 53, 54, 55, 56, 57, 58, 59, 60, 61] (by decide +kernel) (by decide +kernel)
set_option maxRecDepth 20000 in
theorem gX7_moves_X7_allMoves : GoodIn wsX7_moves (wsV RX7 140 RX7 yX7_allMoves wsX7_allMoves) := goodIn_app (goodIn_of _ (by decide +kernel)) ggX7_moves_X7_allMoves
set_option maxRecDepth 20000 in
theorem ggX7_chainAt_X7_isCell : GoodIn wsX7_chainAt wsX7_isCell := goodIn_r _ [5, 6, 7, 4, 8] (by decide +kernel) (by decide +kernel)
set_option maxRecDepth 20000 in
theorem gX7_chainAt_X7_isCell : GoodIn wsX7_chainAt (va_wsS RX7 124 yX7_isCell wsX7_isCell) := goodIn_app (goodIn_of _ (by decide +kernel)) ggX7_chainAt_X7_isCell
set_option maxRecDepth 20000 in
theorem ggX7_chainAt_X7_can : GoodIn wsX7_chainAt wsX7_can := goodIn_r _ [12, 13, 45, 46, 47, 48, 49, 50, 51, 52, 53, 54, 55, 56, 57, 58, 59, 60, 61, 62, 63, 64, 65, 66, 67, 68, 69, 70, 71] (by decide +kernel) (by decide +kernel)
set_option maxRecDepth 20000 in
theorem gX7_chainAt_X7_can : GoodIn wsX7_chainAt (wsV RX7 96 RX7 yX7_can wsX7_can) := goodIn_app (goodIn_of _ (by decide +kernel)) ggX7_chainAt_X7_can
set_option maxRecDepth 20000 in
theorem ggX7_chainAt_X7_hopsOf : GoodIn wsX7_chainAt wsX7_hopsOf := goodIn_r _ [17, 18, 1, 19, 20, 21, 4, 22, 23, 24, 25, 26, 27, 28, 29, 30, 31, 32, 33, 34, 35, 36, 37, 38, 39, 40, 41, 42, 43, 44, 45, 46, 47, 48, 49, 50, 51, 52, 53, 54, 55, 56, 57, 58, 59, 60, 61, 62, 63, 64, 65, 66, 67, 68, 69, 70, 71] (by decide +kernel) (by decide +kernel)
set_option maxRecDepth 20000 in
theorem gX7_chainAt_X7_hopsOf : GoodIn wsX7_chainAt (wsV RX7 127 RX7 yX7_hopsOf wsX7_hopsOf) := goodIn_app (goodIn_of _ (by decide +kernel)) ggX7_chainAt_X7_hopsOf
set_option maxRecDepth 20000 in
theorem ggX7_chainAt_X7_hopsFrom : GoodIn wsX7_chainAt wsX7_hopsFrom := goodIn_r _ [28, 1, 29, 30, 31, 32, 4, 33, 34, 24, 45, 46, 47, 48, 49, 50, 51, 52, 53, 54, 55, 56, 57, 58, 59, 60, 61, 62, 63, 64, 65, 66, 67, 68, 69, 70, 71] (by decide +kernel) (by decide +kernel)
set_option maxRecDepth 20000 in
theorem gX7_chainAt_X7_hopsFrom : GoodIn wsX7_chainAt (wsV RX7 152 RX7 yX7_hopsFrom wsX7_hopsFrom) := goodIn_app (goodIn_of _ (by decide +kernel)) ggX7_chainAt_X7_hopsFrom
set_option maxRecDepth 20000 in
theorem ggX7_chainAt_X7_behind : GoodIn wsX7_chainAt wsX7_behind := goodIn_r _ [33, 34, 24, 45, 46, 47, 48, 49, 50, 51, 52, 53, 54, 55, 56, 57, 58, 59, 60, 61, 62, 63, 64, 65, 66, 67, 68, 69, 70, 71] (by decide +kernel) (by decide +kernel)
set_option maxRecDepth 20000 in
theorem gX7_chainAt_X7_behind : GoodIn wsX7_chainAt (wsV RX7 148 RX7 yX7_behind wsX7_behind) := goodIn_app (goodIn_of _ (by decide +kernel)) ggX7_chainAt_X7_behind
set_option maxRecDepth 20000 in
theorem ggX7_hops_X7_areCells : GoodIn wsX7_hops wsX7_areCells := goodIn_r _ [5, 6, 7, 4, 8, 9, 10, 11, 12, 13, 14, 15, 16, 49, 50, 51, 52, 53, 54, 55, 56, 57, 58, 59, 60, 61, 62, 63, 64, 65, 66, 67, 68, 69, 70, 71, 72, 73, 74, 75] (by decide +kernel) (by decide +kernel)
set_option maxRecDepth 20000 in
theorem gX7_hops_X7_areCells : GoodIn wsX7_hops (wsV RX7 144 RX7 yX7_areCells wsX7_areCells) := goodIn_app (goodIn_of _ (by decide +kernel)) ggX7_hops_X7_areCells
set_option maxRecDepth 20000 in
theorem ggX7_hops_X7_hopsOf : GoodIn wsX7_hops wsX7_hopsOf := goodIn_r _ [20, 21, 22, 23, 24, 25, 4, 26, 27, 28, 29, 30, 31, 32, 33, 34, 35, 36, 37, 38, 39, 40, 41, 42, 43, 44, 45, 46, 47, 48, 49, 50, 51, 52, 53, 54, 55, 56, 57, 58, 59, 60, 61, 62, 63, 64, 65, 66, 67, 68, 69, 70, 71, 72, 73, 74, 75] (by decide +kernel) (by decide +kernel)
set_option maxRecDepth 20000 in
theorem gX7_hops_X7_hopsOf : GoodIn wsX7_hops (wsV RX7 127 RX7 yX7_hopsOf wsX7_hopsOf) := goodIn_app (goodIn_of _ (by decide +kernel)) ggX7_hops_X7_hopsOf
set_option maxRecDepth 20000 in
theorem ggX7_finished_X7_isIn : GoodIn wsX7_finished wsX7_isIn := goodIn_r _ [6] (by decide +kernel) (by decide +kernel)
set_option maxRecDepth 20000 in
theorem gX7_finished_X7_isIn : GoodIn wsX7_finished (va_wsS RX7 89 yX7_isIn wsX7_isIn) := goodIn_app (goodIn_of _ (by decide +kernel)) ggX7_finished_X7_isIn
set_option maxRecDepth 20000 in
theorem ggX7_finished_X7_can : GoodIn wsX7_finished wsX7_can := goodIn_r _ [10, 11, 12, 13, 14, 15, 16, 17, 18, 19, 20, 21, 22, 23, 24, 25, 26, 27, 28, 29, 30, 31, 32, 33, 34, 35, 36, 37, 38] (by decide +kernel) (by decide +kernel)
set_option maxRecDepth 20000 in
theorem gX7_finished_X7_can : GoodIn wsX7_finished (wsV RX7 96 RX7 yX7_can wsX7_can) := goodIn_app (goodIn_of _ (by decide +kernel)) ggX7_finished_X7_can
set_option maxRecDepth 20000 in
theorem ggX7_isOut_X7_isIn : GoodIn wsX7_isOut wsX7_isIn := goodIn_r _ [5] (by decide +kernel) (by decide +kernel)
set_option maxRecDepth 20000 in
theorem gX7_isOut_X7_isIn : GoodIn wsX7_isOut (va_wsS RX7 89 yX7_isIn wsX7_isIn) := goodIn_app (goodIn_of _ (by decide +kernel)) ggX7_isOut_X7_isIn
set_option maxRecDepth 20000 in
theorem ggX7_isOut_X7_can : GoodIn wsX7_isOut wsX7_can := goodIn_r _ [9, 10, 11, 12, 13, 14, 15, 16, 17, 18, 19, 20, 21, 22, 23, 24, 25, 26, 27, 28, 29, 30, 31, 32, 33, 34, 35, 36, 37] (by decide +kernel) (by decide +kernel)
set_option maxRecDepth 20000 in
theorem gX7_isOut_X7_can : GoodIn wsX7_isOut (wsV RX7 96 RX7 yX7_can wsX7_can) := goodIn_app (goodIn_of _ (by decide +kernel)) ggX7_isOut_X7_can
set_option maxRecDepth 20000 in
theorem ggX7_way_X7_isIn : GoodIn wsX7_way wsX7_isIn := goodIn_r _ [4] (by decide +kernel) (by decide +kernel)
set_option maxRecDepth 20000 in
theorem gX7_way_X7_isIn : GoodIn wsX7_way (va_wsS RX7 89 yX7_isIn wsX7_isIn) := goodIn_app (goodIn_of _ (by decide +kernel)) ggX7_way_X7_isIn
set_option maxRecDepth 20000 in
theorem ggX7_way_X7_can : GoodIn wsX7_way wsX7_can := goodIn_r _ [8, 9, 25, 26, 27, 28, 29, 30, 31, 32, 33, 34, 35, 36, 37, 38, 39, 40, 41, 42, 43, 44, 45, 46, 47, 48, 49, 50, 51] (by decide +kernel) (by decide +kernel)
set_option maxRecDepth 20000 in
theorem gX7_way_X7_can : GoodIn wsX7_way (wsV RX7 96 RX7 yX7_can wsX7_can) := goodIn_app (goodIn_of _ (by decide +kernel)) ggX7_way_X7_can
set_option maxRecDepth 20000 in
theorem ggX7_way_X7_plays : GoodIn wsX7_way wsX7_plays := goodIn_r _ [13, 14, 1, 2, 3, 4, 25, 26, 27, 28, 29, 30, 31, 32, 33, 34, 35, 36, 37, 38, 39, 40, 41, 42, 43, 44, 45, 46, 47, 48, 49, 50, 51] (by decide +kernel) (by decide +kernel)
set_option maxRecDepth 20000 in
theorem gX7_way_X7_plays : GoodIn wsX7_way (wsV RX7 100 RX7 yX7_plays wsX7_plays) := goodIn_app (goodIn_of _ (by decide +kernel)) ggX7_way_X7_plays
set_option maxRecDepth 20000 in
theorem ggX7_way_X7_wayOf : GoodIn wsX7_way wsX7_wayOf := goodIn_r _ [18, 19, 20, 21, 22, 23, 24, 25, 26, 27, 28, 29, 30, 31, 32, 33, 34, 35, 36, 37, 38, 39, 40, 41, 42, 43, 44, 45, 46, 47, 48, 49, 50, 51] (by decide +kernel) (by decide +kernel)
set_option maxRecDepth 20000 in
theorem gX7_way_X7_wayOf : GoodIn wsX7_way (wsV RX7 166 RX7 yX7_wayOf wsX7_wayOf) := goodIn_app (goodIn_of _ (by decide +kernel)) ggX7_way_X7_wayOf
set_option maxRecDepth 20000 in
theorem ggX7_best_X7_endsOf : GoodIn wsX7_best wsX7_endsOf := goodIn_r _ [9, 2, 4, 3, 10, 11, 12, 13, 8, 14, 15, 16, 17, 18, 19, 20, 21, 22, 23, 24, 25, 26, 27, 28, 29, 30, 38, 39, 40, 41, 42, 43, 44, 45, 46, 47, 48, 49, 50, 51, 52, 53, 54, 55, 56, 57, 58, 59, 60, 61, 62, 63, 64] (by decide +kernel) (by decide +kernel)
set_option maxRecDepth 20000 in
theorem gX7_best_X7_endsOf : GoodIn wsX7_best (wsV RX7 161 RX7 yX7_endsOf wsX7_endsOf) := goodIn_app (goodIn_of _ (by decide +kernel)) ggX7_best_X7_endsOf
set_option maxRecDepth 20000 in
theorem ggX7_best_X7_wayOf : GoodIn wsX7_best wsX7_wayOf := goodIn_r _ [34, 4, 35, 36, 1, 25, 37, 38, 39, 40, 41, 42, 43, 44, 45, 46, 47, 48, 49, 50, 51, 52, 53, 54, 55, 56, 57, 58, 59, 60, 61, 62, 63, 64] (by decide +kernel) (by decide +kernel)
set_option maxRecDepth 20000 in
theorem gX7_best_X7_wayOf : GoodIn wsX7_best (wsV RX7 166 RX7 yX7_wayOf wsX7_wayOf) := goodIn_app (goodIn_of _ (by decide +kernel)) ggX7_best_X7_wayOf
set_option maxRecDepth 20000 in
theorem ggX7_bestFrom_X7_best : GoodIn wsX7_bestFrom wsX7_best := goodIn_r _ [6, 7, 8, 9, 10, 11, 12, 13, 5, 14, 15, 16, 17, 18, 19, 20, 21, 22, 23, 24, 25, 26, 27, 28, 29, 30, 31, 32, 33, 34, 35, 36, 37, 38, 39, 40, 41, 42, 43, 44, 45, 46, 47, 48, 49, 50, 51, 52, 53, 54, 55, 56, 57, 58, 59, 60, 61, 62, 63, 64, 65, 66, 67, 68, 69] (by decide +kernel) (by decide +kernel)
set_option maxRecDepth 20000 in
theorem gX7_bestFrom_X7_best : GoodIn wsX7_bestFrom (wsV RX7 169 RX7 yX7_best wsX7_best) := goodIn_app (goodIn_of _ (by decide +kernel)) ggX7_bestFrom_X7_best
set_option maxRecDepth 20000 in
theorem ggX7_bestTo_X7_best : GoodIn wsX7_bestTo wsX7_best := goodIn_r _ [6, 7, 8, 9, 10, 11, 12, 13, 5, 14, 15, 16, 17, 18, 19, 20, 21, 22, 23, 24, 25, 26, 27, 28, 29, 30, 31, 32, 33, 34, 35, 36, 37, 38, 39, 40, 41, 42, 43, 44, 45, 46, 47, 48, 49, 50, 51, 52, 53, 54, 55, 56, 57, 58, 59, 60, 61, 62, 63, 64, 65, 66, 67, 68, 69] (by decide +kernel) (by decide +kernel)
set_option maxRecDepth 20000 in
theorem gX7_bestTo_X7_best : GoodIn wsX7_bestTo (wsV RX7 169 RX7 yX7_best wsX7_best) := goodIn_app (goodIn_of _ (by decide +kernel)) ggX7_bestTo_X7_best
abbrev vwCl : List vw_C := [(RX0, TX0, 6), (RX1, TX1, 2), (RX2, TX2, 8), (RX3, TX3, 5), (RX4, TX4, 7), (RX5, TX5, 4), (RX6, TX6, 8), (RX7, TX7, 27)]
end
section
theorem dX0_init_0 : decode cX0_init 0 = .ok (.aload_n 0, 1) := by decide +kernel
theorem dX0_init_1 : decode cX0_init 1 = .ok (.invokespecial 3, 3) := by decide +kernel
theorem dX0_init_4 : decode cX0_init 4 = .ok (.aload_n 0, 1) := by decide +kernel
theorem dX0_init_5 : decode cX0_init 5 = .ok (.sipush 300, 3) := by decide +kernel
theorem dX0_init_8 : decode cX0_init 8 = .ok (.newarray .int, 2) := by decide +kernel
theorem dX0_init_10 : decode cX0_init 10 = .ok (.putfield 9, 3) := by decide +kernel
theorem dX0_init_13 : decode cX0_init 13 = .ok (.aload_n 0, 1) := by decide +kernel
theorem dX0_init_14 : decode cX0_init 14 = .ok (.sipush 300, 3) := by decide +kernel
theorem dX0_init_17 : decode cX0_init 17 = .ok (.newarray .int, 2) := by decide +kernel
theorem dX0_init_19 : decode cX0_init 19 = .ok (.putfield 15, 3) := by decide +kernel
theorem dX0_init_22 : decode cX0_init 22 = .ok (.aload_n 0, 1) := by decide +kernel
theorem dX0_init_23 : decode cX0_init 23 = .ok (.sipush 300, 3) := by decide +kernel
theorem dX0_init_26 : decode cX0_init 26 = .ok (.newarray .int, 2) := by decide +kernel
theorem dX0_init_28 : decode cX0_init 28 = .ok (.putfield 18, 3) := by decide +kernel
theorem dX0_init_31 : decode cX0_init 31 = .ok (.aload_n 0, 1) := by decide +kernel
theorem dX0_init_32 : decode cX0_init 32 = .ok (.sipush 300, 3) := by decide +kernel
theorem dX0_init_35 : decode cX0_init 35 = .ok (.newarray .int, 2) := by decide +kernel
theorem dX0_init_37 : decode cX0_init 37 = .ok (.putfield 21, 3) := by decide +kernel
theorem dX0_init_40 : decode cX0_init 40 = .ok (.aload_n 0, 1) := by decide +kernel
theorem dX0_init_41 : decode cX0_init 41 = .ok (.sipush 300, 3) := by decide +kernel
theorem dX0_init_44 : decode cX0_init 44 = .ok (.newarray .int, 2) := by decide +kernel
theorem dX0_init_46 : decode cX0_init 46 = .ok (.putfield 24, 3) := by decide +kernel
theorem dX0_init_49 : decode cX0_init 49 = .ok (.return_, 1) := by decide +kernel
theorem dX0_size_0 : decode cX0_size 0 = .ok (.aload_n 0, 1) := by decide +kernel
theorem dX0_size_1 : decode cX0_size 1 = .ok (.getfield 27, 3) := by decide +kernel
theorem dX0_size_4 : decode cX0_size 4 = .ok (.ireturn, 1) := by decide +kernel
theorem dX0_clear_0 : decode cX0_clear 0 = .ok (.aload_n 0, 1) := by decide +kernel
theorem dX0_clear_1 : decode cX0_clear 1 = .ok (.iconst 0, 1) := by decide +kernel
theorem dX0_clear_2 : decode cX0_clear 2 = .ok (.putfield 27, 3) := by decide +kernel
theorem dX0_clear_5 : decode cX0_clear 5 = .ok (.return_, 1) := by decide +kernel
theorem dX0_add_0 : decode cX0_add 0 = .ok (.aload_n 0, 1) := by decide +kernel
theorem dX0_add_1 : decode cX0_add 1 = .ok (.getfield 27, 3) := by decide +kernel
theorem dX0_add_4 : decode cX0_add 4 = .ok (.sipush 300, 3) := by decide +kernel
theorem dX0_add_7 : decode cX0_add 7 = .ok (.if_icmp .ge 72, 3) := by decide +kernel
theorem dX0_add_10 : decode cX0_add 10 = .ok (.aload_n 0, 1) := by decide +kernel
theorem dX0_add_11 : decode cX0_add 11 = .ok (.getfield 9, 3) := by decide +kernel
theorem dX0_add_14 : decode cX0_add 14 = .ok (.aload_n 0, 1) := by decide +kernel
theorem dX0_add_15 : decode cX0_add 15 = .ok (.getfield 27, 3) := by decide +kernel
theorem dX0_add_18 : decode cX0_add 18 = .ok (.iload_n 1, 1) := by decide +kernel
theorem dX0_add_19 : decode cX0_add 19 = .ok (.iastore, 1) := by decide +kernel
theorem dX0_add_20 : decode cX0_add 20 = .ok (.aload_n 0, 1) := by decide +kernel
theorem dX0_add_21 : decode cX0_add 21 = .ok (.getfield 15, 3) := by decide +kernel
theorem dX0_add_24 : decode cX0_add 24 = .ok (.aload_n 0, 1) := by decide +kernel
theorem dX0_add_25 : decode cX0_add 25 = .ok (.getfield 27, 3) := by decide +kernel
theorem dX0_add_28 : decode cX0_add 28 = .ok (.iload_n 2, 1) := by decide +kernel
theorem dX0_add_29 : decode cX0_add 29 = .ok (.iastore, 1) := by decide +kernel
theorem dX0_add_30 : decode cX0_add 30 = .ok (.aload_n 0, 1) := by decide +kernel
theorem dX0_add_31 : decode cX0_add 31 = .ok (.getfield 18, 3) := by decide +kernel
theorem dX0_add_34 : decode cX0_add 34 = .ok (.aload_n 0, 1) := by decide +kernel
theorem dX0_add_35 : decode cX0_add 35 = .ok (.getfield 27, 3) := by decide +kernel
theorem dX0_add_38 : decode cX0_add 38 = .ok (.aload_n 3, 1) := by decide +kernel
theorem dX0_add_39 : decode cX0_add 39 = .ok (.invokevirtual 31, 3) := by decide +kernel
theorem dX0_add_42 : decode cX0_add 42 = .ok (.iastore, 1) := by decide +kernel
theorem dX0_add_43 : decode cX0_add 43 = .ok (.aload_n 0, 1) := by decide +kernel
theorem dX0_add_44 : decode cX0_add 44 = .ok (.getfield 21, 3) := by decide +kernel
theorem dX0_add_47 : decode cX0_add 47 = .ok (.aload_n 0, 1) := by decide +kernel
theorem dX0_add_48 : decode cX0_add 48 = .ok (.getfield 27, 3) := by decide +kernel
theorem dX0_add_51 : decode cX0_add 51 = .ok (.aload_n 3, 1) := by decide +kernel
theorem dX0_add_52 : decode cX0_add 52 = .ok (.invokevirtual 37, 3) := by decide +kernel
theorem dX0_add_55 : decode cX0_add 55 = .ok (.iastore, 1) := by decide +kernel
theorem dX0_add_56 : decode cX0_add 56 = .ok (.aload_n 0, 1) := by decide +kernel
theorem dX0_add_57 : decode cX0_add 57 = .ok (.getfield 24, 3) := by decide +kernel
theorem dX0_add_60 : decode cX0_add 60 = .ok (.aload_n 0, 1) := by decide +kernel
theorem dX0_add_61 : decode cX0_add 61 = .ok (.getfield 27, 3) := by decide +kernel
theorem dX0_add_64 : decode cX0_add 64 = .ok (.aload_n 3, 1) := by decide +kernel
theorem dX0_add_65 : decode cX0_add 65 = .ok (.invokevirtual 40, 3) := by decide +kernel
theorem dX0_add_68 : decode cX0_add 68 = .ok (.iastore, 1) := by decide +kernel
theorem dX0_add_69 : decode cX0_add 69 = .ok (.aload_n 0, 1) := by decide +kernel
theorem dX0_add_70 : decode cX0_add 70 = .ok (.dup, 1) := by decide +kernel
theorem dX0_add_71 : decode cX0_add 71 = .ok (.getfield 27, 3) := by decide +kernel
theorem dX0_add_74 : decode cX0_add 74 = .ok (.iconst 1, 1) := by decide +kernel
theorem dX0_add_75 : decode cX0_add 75 = .ok (.iadd, 1) := by decide +kernel
theorem dX0_add_76 : decode cX0_add 76 = .ok (.putfield 27, 3) := by decide +kernel
theorem dX0_add_79 : decode cX0_add 79 = .ok (.return_, 1) := by decide +kernel
theorem dX0_takeBack_0 : decode cX0_takeBack 0 = .ok (.aload_n 0, 1) := by decide +kernel
theorem dX0_takeBack_1 : decode cX0_takeBack 1 = .ok (.getfield 27, 3) := by decide +kernel
theorem dX0_takeBack_4 : decode cX0_takeBack 4 = .ok (.ifCond .le 66, 3) := by decide +kernel
theorem dX0_takeBack_7 : decode cX0_takeBack 7 = .ok (.aload_n 0, 1) := by decide +kernel
theorem dX0_takeBack_8 : decode cX0_takeBack 8 = .ok (.dup, 1) := by decide +kernel
theorem dX0_takeBack_9 : decode cX0_takeBack 9 = .ok (.getfield 27, 3) := by decide +kernel
theorem dX0_takeBack_12 : decode cX0_takeBack 12 = .ok (.iconst 1, 1) := by decide +kernel
theorem dX0_takeBack_13 : decode cX0_takeBack 13 = .ok (.isub, 1) := by decide +kernel
theorem dX0_takeBack_14 : decode cX0_takeBack 14 = .ok (.putfield 27, 3) := by decide +kernel
theorem dX0_takeBack_17 : decode cX0_takeBack 17 = .ok (.aload_n 1, 1) := by decide +kernel
theorem dX0_takeBack_18 : decode cX0_takeBack 18 = .ok (.aload_n 0, 1) := by decide +kernel
theorem dX0_takeBack_19 : decode cX0_takeBack 19 = .ok (.getfield 15, 3) := by decide +kernel
theorem dX0_takeBack_22 : decode cX0_takeBack 22 = .ok (.aload_n 0, 1) := by decide +kernel
theorem dX0_takeBack_23 : decode cX0_takeBack 23 = .ok (.getfield 27, 3) := by decide +kernel
theorem dX0_takeBack_26 : decode cX0_takeBack 26 = .ok (.iaload, 1) := by decide +kernel
theorem dX0_takeBack_27 : decode cX0_takeBack 27 = .ok (.aload_n 0, 1) := by decide +kernel
theorem dX0_takeBack_28 : decode cX0_takeBack 28 = .ok (.getfield 9, 3) := by decide +kernel
theorem dX0_takeBack_31 : decode cX0_takeBack 31 = .ok (.aload_n 0, 1) := by decide +kernel
theorem dX0_takeBack_32 : decode cX0_takeBack 32 = .ok (.getfield 27, 3) := by decide +kernel
theorem dX0_takeBack_35 : decode cX0_takeBack 35 = .ok (.iaload, 1) := by decide +kernel
theorem dX0_takeBack_36 : decode cX0_takeBack 36 = .ok (.invokevirtual 43, 3) := by decide +kernel
theorem dX0_takeBack_39 : decode cX0_takeBack 39 = .ok (.aload_n 2, 1) := by decide +kernel
theorem dX0_takeBack_40 : decode cX0_takeBack 40 = .ok (.aload_n 0, 1) := by decide +kernel
theorem dX0_takeBack_41 : decode cX0_takeBack 41 = .ok (.getfield 18, 3) := by decide +kernel
theorem dX0_takeBack_44 : decode cX0_takeBack 44 = .ok (.aload_n 0, 1) := by decide +kernel
theorem dX0_takeBack_45 : decode cX0_takeBack 45 = .ok (.getfield 27, 3) := by decide +kernel
theorem dX0_takeBack_48 : decode cX0_takeBack 48 = .ok (.iaload, 1) := by decide +kernel
theorem dX0_takeBack_49 : decode cX0_takeBack 49 = .ok (.aload_n 0, 1) := by decide +kernel
theorem dX0_takeBack_50 : decode cX0_takeBack 50 = .ok (.getfield 21, 3) := by decide +kernel
theorem dX0_takeBack_53 : decode cX0_takeBack 53 = .ok (.aload_n 0, 1) := by decide +kernel
theorem dX0_takeBack_54 : decode cX0_takeBack 54 = .ok (.getfield 27, 3) := by decide +kernel
theorem dX0_takeBack_57 : decode cX0_takeBack 57 = .ok (.iaload, 1) := by decide +kernel
theorem dX0_takeBack_58 : decode cX0_takeBack 58 = .ok (.aload_n 0, 1) := by decide +kernel
theorem dX0_takeBack_59 : decode cX0_takeBack 59 = .ok (.getfield 24, 3) := by decide +kernel
theorem dX0_takeBack_62 : decode cX0_takeBack 62 = .ok (.aload_n 0, 1) := by decide +kernel
theorem dX0_takeBack_63 : decode cX0_takeBack 63 = .ok (.getfield 27, 3) := by decide +kernel
theorem dX0_takeBack_66 : decode cX0_takeBack 66 = .ok (.iaload, 1) := by decide +kernel
theorem dX0_takeBack_67 : decode cX0_takeBack 67 = .ok (.invokevirtual 49, 3) := by decide +kernel
theorem dX0_takeBack_70 : decode cX0_takeBack 70 = .ok (.return_, 1) := by decide +kernel
theorem dX1_init_0 : decode cX1_init 0 = .ok (.aload_n 0, 1) := by decide +kernel
theorem dX1_init_1 : decode cX1_init 1 = .ok (.invokespecial 3, 3) := by decide +kernel
theorem dX1_init_4 : decode cX1_init 4 = .ok (.aload_n 0, 1) := by decide +kernel
theorem dX1_init_5 : decode cX1_init 5 = .ok (.bipush 121, 2) := by decide +kernel
theorem dX1_init_7 : decode cX1_init 7 = .ok (.newarray .int, 2) := by decide +kernel
theorem dX1_init_9 : decode cX1_init 9 = .ok (.putfield 9, 3) := by decide +kernel
theorem dX1_init_12 : decode cX1_init 12 = .ok (.aload_n 0, 1) := by decide +kernel
theorem dX1_init_13 : decode cX1_init 13 = .ok (.aload_n 1, 1) := by decide +kernel
theorem dX1_init_14 : decode cX1_init 14 = .ok (.putfield 15, 3) := by decide +kernel
theorem dX1_init_17 : decode cX1_init 17 = .ok (.aload_n 0, 1) := by decide +kernel
theorem dX1_init_18 : decode cX1_init 18 = .ok (.iconst 0, 1) := by decide +kernel
theorem dX1_init_19 : decode cX1_init 19 = .ok (.invokevirtual 19, 3) := by decide +kernel
theorem dX1_init_22 : decode cX1_init 22 = .ok (.return_, 1) := by decide +kernel
theorem dX1_setUp_0 : decode cX1_setUp 0 = .ok (.iconst 0, 1) := by decide +kernel
theorem dX1_setUp_1 : decode cX1_setUp 1 = .ok (.istore_n 2, 1) := by decide +kernel
theorem dX1_setUp_2 : decode cX1_setUp 2 = .ok (.iload_n 2, 1) := by decide +kernel
theorem dX1_setUp_3 : decode cX1_setUp 3 = .ok (.bipush 121, 2) := by decide +kernel
theorem dX1_setUp_5 : decode cX1_setUp 5 = .ok (.if_icmp .ge 43, 3) := by decide +kernel
theorem dX1_setUp_8 : decode cX1_setUp 8 = .ok (.aload_n 0, 1) := by decide +kernel
theorem dX1_setUp_9 : decode cX1_setUp 9 = .ok (.getfield 15, 3) := by decide +kernel
theorem dX1_setUp_12 : decode cX1_setUp 12 = .ok (.iload_n 2, 1) := by decide +kernel
theorem dX1_setUp_13 : decode cX1_setUp 13 = .ok (.invokevirtual 23, 3) := by decide +kernel
theorem dX1_setUp_16 : decode cX1_setUp 16 = .ok (.istore_n 3, 1) := by decide +kernel
theorem dX1_setUp_17 : decode cX1_setUp 17 = .ok (.aload_n 0, 1) := by decide +kernel
theorem dX1_setUp_18 : decode cX1_setUp 18 = .ok (.getfield 9, 3) := by decide +kernel
theorem dX1_setUp_21 : decode cX1_setUp 21 = .ok (.iload_n 2, 1) := by decide +kernel
theorem dX1_setUp_22 : decode cX1_setUp 22 = .ok (.iload_n 3, 1) := by decide +kernel
theorem dX1_setUp_23 : decode cX1_setUp 23 = .ok (.iconst (-1), 1) := by decide +kernel
theorem dX1_setUp_24 : decode cX1_setUp 24 = .ok (.if_icmp .eq 16, 3) := by decide +kernel
theorem dX1_setUp_27 : decode cX1_setUp 27 = .ok (.iload_n 1, 1) := by decide +kernel
theorem dX1_setUp_28 : decode cX1_setUp 28 = .ok (.iload_n 3, 1) := by decide +kernel
theorem dX1_setUp_29 : decode cX1_setUp 29 = .ok (.ishr, 1) := by decide +kernel
theorem dX1_setUp_30 : decode cX1_setUp 30 = .ok (.iconst 1, 1) := by decide +kernel
theorem dX1_setUp_31 : decode cX1_setUp 31 = .ok (.iand, 1) := by decide +kernel
theorem dX1_setUp_32 : decode cX1_setUp 32 = .ok (.iconst 1, 1) := by decide +kernel
theorem dX1_setUp_33 : decode cX1_setUp 33 = .ok (.if_icmp .ne 7, 3) := by decide +kernel
theorem dX1_setUp_36 : decode cX1_setUp 36 = .ok (.iload_n 3, 1) := by decide +kernel
theorem dX1_setUp_37 : decode cX1_setUp 37 = .ok (.goto 4, 3) := by decide +kernel
theorem dX1_setUp_40 : decode cX1_setUp 40 = .ok (.iconst (-1), 1) := by decide +kernel
theorem dX1_setUp_41 : decode cX1_setUp 41 = .ok (.iastore, 1) := by decide +kernel
theorem dX1_setUp_42 : decode cX1_setUp 42 = .ok (.iinc 2 1, 3) := by decide +kernel
theorem dX1_setUp_45 : decode cX1_setUp 45 = .ok (.goto (-43), 3) := by decide +kernel
theorem dX1_setUp_48 : decode cX1_setUp 48 = .ok (.return_, 1) := by decide +kernel
theorem dX1_owner_0 : decode cX1_owner 0 = .ok (.iload_n 1, 1) := by decide +kernel
theorem dX1_owner_1 : decode cX1_owner 1 = .ok (.invokestatic 29, 3) := by decide +kernel
theorem dX1_owner_4 : decode cX1_owner 4 = .ok (.ifCond .eq 12, 3) := by decide +kernel
theorem dX1_owner_7 : decode cX1_owner 7 = .ok (.aload_n 0, 1) := by decide +kernel
theorem dX1_owner_8 : decode cX1_owner 8 = .ok (.getfield 9, 3) := by decide +kernel
theorem dX1_owner_11 : decode cX1_owner 11 = .ok (.iload_n 1, 1) := by decide +kernel
theorem dX1_owner_12 : decode cX1_owner 12 = .ok (.iaload, 1) := by decide +kernel
theorem dX1_owner_13 : decode cX1_owner 13 = .ok (.goto 4, 3) := by decide +kernel
theorem dX1_owner_16 : decode cX1_owner 16 = .ok (.iconst (-1), 1) := by decide +kernel
theorem dX1_owner_17 : decode cX1_owner 17 = .ok (.ireturn, 1) := by decide +kernel
theorem dX1_isEmpty_0 : decode cX1_isEmpty 0 = .ok (.iload_n 1, 1) := by decide +kernel
theorem dX1_isEmpty_1 : decode cX1_isEmpty 1 = .ok (.invokestatic 29, 3) := by decide +kernel
theorem dX1_isEmpty_4 : decode cX1_isEmpty 4 = .ok (.ifCond .eq 17, 3) := by decide +kernel
theorem dX1_isEmpty_7 : decode cX1_isEmpty 7 = .ok (.aload_n 0, 1) := by decide +kernel
theorem dX1_isEmpty_8 : decode cX1_isEmpty 8 = .ok (.getfield 9, 3) := by decide +kernel
theorem dX1_isEmpty_11 : decode cX1_isEmpty 11 = .ok (.iload_n 1, 1) := by decide +kernel
theorem dX1_isEmpty_12 : decode cX1_isEmpty 12 = .ok (.iaload, 1) := by decide +kernel
theorem dX1_isEmpty_13 : decode cX1_isEmpty 13 = .ok (.iconst (-1), 1) := by decide +kernel
theorem dX1_isEmpty_14 : decode cX1_isEmpty 14 = .ok (.if_icmp .ne 7, 3) := by decide +kernel
theorem dX1_isEmpty_17 : decode cX1_isEmpty 17 = .ok (.iconst 1, 1) := by decide +kernel
theorem dX1_isEmpty_18 : decode cX1_isEmpty 18 = .ok (.goto 4, 3) := by decide +kernel
theorem dX1_isEmpty_21 : decode cX1_isEmpty 21 = .ok (.iconst 0, 1) := by decide +kernel
theorem dX1_isEmpty_22 : decode cX1_isEmpty 22 = .ok (.ireturn, 1) := by decide +kernel
theorem dX1_carry_0 : decode cX1_carry 0 = .ok (.iload_n 1, 1) := by decide +kernel
theorem dX1_carry_1 : decode cX1_carry 1 = .ok (.invokestatic 29, 3) := by decide +kernel
theorem dX1_carry_4 : decode cX1_carry 4 = .ok (.ifCond .eq 29, 3) := by decide +kernel
theorem dX1_carry_7 : decode cX1_carry 7 = .ok (.iload_n 2, 1) := by decide +kernel
theorem dX1_carry_8 : decode cX1_carry 8 = .ok (.invokestatic 29, 3) := by decide +kernel
theorem dX1_carry_11 : decode cX1_carry 11 = .ok (.ifCond .eq 22, 3) := by decide +kernel
theorem dX1_carry_14 : decode cX1_carry 14 = .ok (.aload_n 0, 1) := by decide +kernel
theorem dX1_carry_15 : decode cX1_carry 15 = .ok (.getfield 9, 3) := by decide +kernel
theorem dX1_carry_18 : decode cX1_carry 18 = .ok (.iload_n 2, 1) := by decide +kernel
theorem dX1_carry_19 : decode cX1_carry 19 = .ok (.aload_n 0, 1) := by decide +kernel
theorem dX1_carry_20 : decode cX1_carry 20 = .ok (.getfield 9, 3) := by decide +kernel
theorem dX1_carry_23 : decode cX1_carry 23 = .ok (.iload_n 1, 1) := by decide +kernel
theorem dX1_carry_24 : decode cX1_carry 24 = .ok (.iaload, 1) := by decide +kernel
theorem dX1_carry_25 : decode cX1_carry 25 = .ok (.iastore, 1) := by decide +kernel
theorem dX1_carry_26 : decode cX1_carry 26 = .ok (.aload_n 0, 1) := by decide +kernel
theorem dX1_carry_27 : decode cX1_carry 27 = .ok (.getfield 9, 3) := by decide +kernel
theorem dX1_carry_30 : decode cX1_carry 30 = .ok (.iload_n 1, 1) := by decide +kernel
theorem dX1_carry_31 : decode cX1_carry 31 = .ok (.iconst (-1), 1) := by decide +kernel
theorem dX1_carry_32 : decode cX1_carry 32 = .ok (.iastore, 1) := by decide +kernel
theorem dX1_carry_33 : decode cX1_carry 33 = .ok (.return_, 1) := by decide +kernel
theorem dX1_countInCamp_0 : decode cX1_countInCamp 0 = .ok (.iconst 0, 1) := by decide +kernel
theorem dX1_countInCamp_1 : decode cX1_countInCamp 1 = .ok (.istore_n 3, 1) := by decide +kernel
theorem dX1_countInCamp_2 : decode cX1_countInCamp 2 = .ok (.iconst 0, 1) := by decide +kernel
theorem dX1_countInCamp_3 : decode cX1_countInCamp 3 = .ok (.istore 4, 2) := by decide +kernel
theorem dX1_countInCamp_5 : decode cX1_countInCamp 5 = .ok (.iload 4, 2) := by decide +kernel
theorem dX1_countInCamp_7 : decode cX1_countInCamp 7 = .ok (.bipush 121, 2) := by decide +kernel
theorem dX1_countInCamp_9 : decode cX1_countInCamp 9 = .ok (.if_icmp .ge 36, 3) := by decide +kernel
theorem dX1_countInCamp_12 : decode cX1_countInCamp 12 = .ok (.aload_n 0, 1) := by decide +kernel
theorem dX1_countInCamp_13 : decode cX1_countInCamp 13 = .ok (.getfield 15, 3) := by decide +kernel
theorem dX1_countInCamp_16 : decode cX1_countInCamp 16 = .ok (.iload 4, 2) := by decide +kernel
theorem dX1_countInCamp_18 : decode cX1_countInCamp 18 = .ok (.invokevirtual 23, 3) := by decide +kernel
theorem dX1_countInCamp_21 : decode cX1_countInCamp 21 = .ok (.iload_n 1, 1) := by decide +kernel
theorem dX1_countInCamp_22 : decode cX1_countInCamp 22 = .ok (.if_icmp .ne 17, 3) := by decide +kernel
theorem dX1_countInCamp_25 : decode cX1_countInCamp 25 = .ok (.aload_n 0, 1) := by decide +kernel
theorem dX1_countInCamp_26 : decode cX1_countInCamp 26 = .ok (.getfield 9, 3) := by decide +kernel
theorem dX1_countInCamp_29 : decode cX1_countInCamp 29 = .ok (.iload 4, 2) := by decide +kernel
theorem dX1_countInCamp_31 : decode cX1_countInCamp 31 = .ok (.iaload, 1) := by decide +kernel
theorem dX1_countInCamp_32 : decode cX1_countInCamp 32 = .ok (.iload_n 2, 1) := by decide +kernel
theorem dX1_countInCamp_33 : decode cX1_countInCamp 33 = .ok (.if_icmp .ne 6, 3) := by decide +kernel
theorem dX1_countInCamp_36 : decode cX1_countInCamp 36 = .ok (.iinc 3 1, 3) := by decide +kernel
theorem dX1_countInCamp_39 : decode cX1_countInCamp 39 = .ok (.iinc 4 1, 3) := by decide +kernel
theorem dX1_countInCamp_42 : decode cX1_countInCamp 42 = .ok (.goto (-37), 3) := by decide +kernel
theorem dX1_countInCamp_45 : decode cX1_countInCamp 45 = .ok (.iload_n 3, 1) := by decide +kernel
theorem dX1_countInCamp_46 : decode cX1_countInCamp 46 = .ok (.ireturn, 1) := by decide +kernel
theorem dX2_init_0 : decode cX2_init 0 = .ok (.aload_n 0, 1) := by decide +kernel
theorem dX2_init_1 : decode cX2_init 1 = .ok (.invokespecial 3, 3) := by decide +kernel
theorem dX2_init_4 : decode cX2_init 4 = .ok (.aload_n 0, 1) := by decide +kernel
theorem dX2_init_5 : decode cX2_init 5 = .ok (.bipush 10, 2) := by decide +kernel
theorem dX2_init_7 : decode cX2_init 7 = .ok (.newarray .int, 2) := by decide +kernel
theorem dX2_init_9 : decode cX2_init 9 = .ok (.putfield 9, 3) := by decide +kernel
theorem dX2_init_12 : decode cX2_init 12 = .ok (.aload_n 0, 1) := by decide +kernel
theorem dX2_init_13 : decode cX2_init 13 = .ok (.bipush 10, 2) := by decide +kernel
theorem dX2_init_15 : decode cX2_init 15 = .ok (.newarray .int, 2) := by decide +kernel
theorem dX2_init_17 : decode cX2_init 17 = .ok (.putfield 15, 3) := by decide +kernel
theorem dX2_init_20 : decode cX2_init 20 = .ok (.aload_n 0, 1) := by decide +kernel
theorem dX2_init_21 : decode cX2_init 21 = .ok (.bipush 100, 2) := by decide +kernel
theorem dX2_init_23 : decode cX2_init 23 = .ok (.newarray .int, 2) := by decide +kernel
theorem dX2_init_25 : decode cX2_init 25 = .ok (.putfield 18, 3) := by decide +kernel
theorem dX2_init_28 : decode cX2_init 28 = .ok (.aload_n 0, 1) := by decide +kernel
theorem dX2_init_29 : decode cX2_init 29 = .ok (.sipush 1024, 3) := by decide +kernel
theorem dX2_init_32 : decode cX2_init 32 = .ok (.newarray .int, 2) := by decide +kernel
theorem dX2_init_34 : decode cX2_init 34 = .ok (.putfield 21, 3) := by decide +kernel
theorem dX2_init_37 : decode cX2_init 37 = .ok (.aload_n 0, 1) := by decide +kernel
theorem dX2_init_38 : decode cX2_init 38 = .ok (.sipush 1024, 3) := by decide +kernel
theorem dX2_init_41 : decode cX2_init 41 = .ok (.newarray .int, 2) := by decide +kernel
theorem dX2_init_43 : decode cX2_init 43 = .ok (.putfield 24, 3) := by decide +kernel
theorem dX2_init_46 : decode cX2_init 46 = .ok (.aload_n 0, 1) := by decide +kernel
theorem dX2_init_47 : decode cX2_init 47 = .ok (.bipush 100, 2) := by decide +kernel
theorem dX2_init_49 : decode cX2_init 49 = .ok (.newarray .int, 2) := by decide +kernel
theorem dX2_init_51 : decode cX2_init 51 = .ok (.putfield 27, 3) := by decide +kernel
theorem dX2_init_54 : decode cX2_init 54 = .ok (.aload_n 0, 1) := by decide +kernel
theorem dX2_init_55 : decode cX2_init 55 = .ok (.aload_n 1, 1) := by decide +kernel
theorem dX2_init_56 : decode cX2_init 56 = .ok (.putfield 30, 3) := by decide +kernel
theorem dX2_init_59 : decode cX2_init 59 = .ok (.aload_n 0, 1) := by decide +kernel
theorem dX2_init_60 : decode cX2_init 60 = .ok (.aload_n 2, 1) := by decide +kernel
theorem dX2_init_61 : decode cX2_init 61 = .ok (.putfield 34, 3) := by decide +kernel
theorem dX2_init_64 : decode cX2_init 64 = .ok (.return_, 1) := by decide +kernel
theorem dX2_leastSum_0 : decode cX2_leastSum 0 = .ok (.aload_n 0, 1) := by decide +kernel
theorem dX2_leastSum_1 : decode cX2_leastSum 1 = .ok (.iload_n 1, 1) := by decide +kernel
theorem dX2_leastSum_2 : decode cX2_leastSum 2 = .ok (.invokevirtual 38, 3) := by decide +kernel
theorem dX2_leastSum_5 : decode cX2_leastSum 5 = .ok (.aload_n 0, 1) := by decide +kernel
theorem dX2_leastSum_6 : decode cX2_leastSum 6 = .ok (.invokevirtual 42, 3) := by decide +kernel
theorem dX2_leastSum_9 : decode cX2_leastSum 9 = .ok (.aload_n 0, 1) := by decide +kernel
theorem dX2_leastSum_10 : decode cX2_leastSum 10 = .ok (.getfield 21, 3) := by decide +kernel
theorem dX2_leastSum_13 : decode cX2_leastSum 13 = .ok (.sipush 1023, 3) := by decide +kernel
theorem dX2_leastSum_16 : decode cX2_leastSum 16 = .ok (.iaload, 1) := by decide +kernel
theorem dX2_leastSum_17 : decode cX2_leastSum 17 = .ok (.ireturn, 1) := by decide +kernel
theorem dX2_weighAllButOne_0 : decode cX2_weighAllButOne 0 = .ok (.aload_n 0, 1) := by decide +kernel
theorem dX2_weighAllButOne_1 : decode cX2_weighAllButOne 1 = .ok (.iload_n 1, 1) := by decide +kernel
theorem dX2_weighAllButOne_2 : decode cX2_weighAllButOne 2 = .ok (.invokevirtual 38, 3) := by decide +kernel
theorem dX2_weighAllButOne_5 : decode cX2_weighAllButOne 5 = .ok (.aload_n 0, 1) := by decide +kernel
theorem dX2_weighAllButOne_6 : decode cX2_weighAllButOne 6 = .ok (.invokevirtual 42, 3) := by decide +kernel
theorem dX2_weighAllButOne_9 : decode cX2_weighAllButOne 9 = .ok (.aload_n 0, 1) := by decide +kernel
theorem dX2_weighAllButOne_10 : decode cX2_weighAllButOne 10 = .ok (.invokevirtual 45, 3) := by decide +kernel
theorem dX2_weighAllButOne_13 : decode cX2_weighAllButOne 13 = .ok (.iconst 0, 1) := by decide +kernel
theorem dX2_weighAllButOne_14 : decode cX2_weighAllButOne 14 = .ok (.istore_n 2, 1) := by decide +kernel
theorem dX2_weighAllButOne_15 : decode cX2_weighAllButOne 15 = .ok (.iload_n 2, 1) := by decide +kernel
theorem dX2_weighAllButOne_16 : decode cX2_weighAllButOne 16 = .ok (.aload_n 0, 1) := by decide +kernel
theorem dX2_weighAllButOne_17 : decode cX2_weighAllButOne 17 = .ok (.getfield 27, 3) := by decide +kernel
theorem dX2_weighAllButOne_20 : decode cX2_weighAllButOne 20 = .ok (.arraylength, 1) := by decide +kernel
theorem dX2_weighAllButOne_21 : decode cX2_weighAllButOne 21 = .ok (.if_icmp .ge 17, 3) := by decide +kernel
theorem dX2_weighAllButOne_24 : decode cX2_weighAllButOne 24 = .ok (.aload_n 0, 1) := by decide +kernel
theorem dX2_weighAllButOne_25 : decode cX2_weighAllButOne 25 = .ok (.getfield 27, 3) := by decide +kernel
theorem dX2_weighAllButOne_28 : decode cX2_weighAllButOne 28 = .ok (.iload_n 2, 1) := by decide +kernel
theorem dX2_weighAllButOne_29 : decode cX2_weighAllButOne 29 = .ok (.ldc 50, 2) := by decide +kernel
theorem dX2_weighAllButOne_31 : decode cX2_weighAllButOne 31 = .ok (.iastore, 1) := by decide +kernel
theorem dX2_weighAllButOne_32 : decode cX2_weighAllButOne 32 = .ok (.iinc 2 1, 3) := by decide +kernel
theorem dX2_weighAllButOne_35 : decode cX2_weighAllButOne 35 = .ok (.goto (-20), 3) := by decide +kernel
theorem dX2_weighAllButOne_38 : decode cX2_weighAllButOne 38 = .ok (.iconst 0, 1) := by decide +kernel
theorem dX2_weighAllButOne_39 : decode cX2_weighAllButOne 39 = .ok (.istore_n 2, 1) := by decide +kernel
theorem dX2_weighAllButOne_40 : decode cX2_weighAllButOne 40 = .ok (.iload_n 2, 1) := by decide +kernel
theorem dX2_weighAllButOne_41 : decode cX2_weighAllButOne 41 = .ok (.sipush 1023, 3) := by decide +kernel
theorem dX2_weighAllButOne_44 : decode cX2_weighAllButOne 44 = .ok (.if_icmp .ge 91, 3) := by decide +kernel
theorem dX2_weighAllButOne_47 : decode cX2_weighAllButOne 47 = .ok (.iload_n 2, 1) := by decide +kernel
theorem dX2_weighAllButOne_48 : decode cX2_weighAllButOne 48 = .ok (.invokestatic 51, 3) := by decide +kernel
theorem dX2_weighAllButOne_51 : decode cX2_weighAllButOne 51 = .ok (.istore_n 3, 1) := by decide +kernel
theorem dX2_weighAllButOne_52 : decode cX2_weighAllButOne 52 = .ok (.iconst 0, 1) := by decide +kernel
theorem dX2_weighAllButOne_53 : decode cX2_weighAllButOne 53 = .ok (.istore 4, 2) := by decide +kernel
theorem dX2_weighAllButOne_55 : decode cX2_weighAllButOne 55 = .ok (.iload 4, 2) := by decide +kernel
theorem dX2_weighAllButOne_57 : decode cX2_weighAllButOne 57 = .ok (.bipush 10, 2) := by decide +kernel
theorem dX2_weighAllButOne_59 : decode cX2_weighAllButOne 59 = .ok (.if_icmp .ge 70, 3) := by decide +kernel
theorem dX2_weighAllButOne_62 : decode cX2_weighAllButOne 62 = .ok (.iload_n 2, 1) := by decide +kernel
theorem dX2_weighAllButOne_63 : decode cX2_weighAllButOne 63 = .ok (.iload 4, 2) := by decide +kernel
theorem dX2_weighAllButOne_65 : decode cX2_weighAllButOne 65 = .ok (.ishr, 1) := by decide +kernel
theorem dX2_weighAllButOne_66 : decode cX2_weighAllButOne 66 = .ok (.iconst 1, 1) := by decide +kernel
theorem dX2_weighAllButOne_67 : decode cX2_weighAllButOne 67 = .ok (.iand, 1) := by decide +kernel
theorem dX2_weighAllButOne_68 : decode cX2_weighAllButOne 68 = .ok (.ifCond .ne 55, 3) := by decide +kernel
theorem dX2_weighAllButOne_71 : decode cX2_weighAllButOne 71 = .ok (.sipush 1023, 3) := by decide +kernel
theorem dX2_weighAllButOne_74 : decode cX2_weighAllButOne 74 = .ok (.iload_n 2, 1) := by decide +kernel
theorem dX2_weighAllButOne_75 : decode cX2_weighAllButOne 75 = .ok (.isub, 1) := by decide +kernel
theorem dX2_weighAllButOne_76 : decode cX2_weighAllButOne 76 = .ok (.iconst 1, 1) := by decide +kernel
theorem dX2_weighAllButOne_77 : decode cX2_weighAllButOne 77 = .ok (.iload 4, 2) := by decide +kernel
theorem dX2_weighAllButOne_79 : decode cX2_weighAllButOne 79 = .ok (.ishl, 1) := by decide +kernel
theorem dX2_weighAllButOne_80 : decode cX2_weighAllButOne 80 = .ok (.isub, 1) := by decide +kernel
theorem dX2_weighAllButOne_81 : decode cX2_weighAllButOne 81 = .ok (.istore 5, 2) := by decide +kernel
theorem dX2_weighAllButOne_83 : decode cX2_weighAllButOne 83 = .ok (.iload_n 3, 1) := by decide +kernel
theorem dX2_weighAllButOne_84 : decode cX2_weighAllButOne 84 = .ok (.bipush 10, 2) := by decide +kernel
theorem dX2_weighAllButOne_86 : decode cX2_weighAllButOne 86 = .ok (.imul, 1) := by decide +kernel
theorem dX2_weighAllButOne_87 : decode cX2_weighAllButOne 87 = .ok (.iload 4, 2) := by decide +kernel
theorem dX2_weighAllButOne_89 : decode cX2_weighAllButOne 89 = .ok (.iadd, 1) := by decide +kernel
theorem dX2_weighAllButOne_90 : decode cX2_weighAllButOne 90 = .ok (.istore 6, 2) := by decide +kernel
theorem dX2_weighAllButOne_92 : decode cX2_weighAllButOne 92 = .ok (.aload_n 0, 1) := by decide +kernel
theorem dX2_weighAllButOne_93 : decode cX2_weighAllButOne 93 = .ok (.getfield 27, 3) := by decide +kernel
theorem dX2_weighAllButOne_96 : decode cX2_weighAllButOne 96 = .ok (.iload 6, 2) := by decide +kernel
theorem dX2_weighAllButOne_98 : decode cX2_weighAllButOne 98 = .ok (.aload_n 0, 1) := by decide +kernel
theorem dX2_weighAllButOne_99 : decode cX2_weighAllButOne 99 = .ok (.getfield 27, 3) := by decide +kernel
theorem dX2_weighAllButOne_102 : decode cX2_weighAllButOne 102 = .ok (.iload 6, 2) := by decide +kernel
theorem dX2_weighAllButOne_104 : decode cX2_weighAllButOne 104 = .ok (.iaload, 1) := by decide +kernel
theorem dX2_weighAllButOne_105 : decode cX2_weighAllButOne 105 = .ok (.aload_n 0, 1) := by decide +kernel
theorem dX2_weighAllButOne_106 : decode cX2_weighAllButOne 106 = .ok (.getfield 21, 3) := by decide +kernel
theorem dX2_weighAllButOne_109 : decode cX2_weighAllButOne 109 = .ok (.iload_n 2, 1) := by decide +kernel
theorem dX2_weighAllButOne_110 : decode cX2_weighAllButOne 110 = .ok (.iaload, 1) := by decide +kernel
theorem dX2_weighAllButOne_111 : decode cX2_weighAllButOne 111 = .ok (.aload_n 0, 1) := by decide +kernel
theorem dX2_weighAllButOne_112 : decode cX2_weighAllButOne 112 = .ok (.getfield 24, 3) := by decide +kernel
theorem dX2_weighAllButOne_115 : decode cX2_weighAllButOne 115 = .ok (.iload 5, 2) := by decide +kernel
theorem dX2_weighAllButOne_117 : decode cX2_weighAllButOne 117 = .ok (.iaload, 1) := by decide +kernel
theorem dX2_weighAllButOne_118 : decode cX2_weighAllButOne 118 = .ok (.iadd, 1) := by decide +kernel
theorem dX2_weighAllButOne_119 : decode cX2_weighAllButOne 119 = .ok (.invokestatic 55, 3) := by decide +kernel
theorem dX2_weighAllButOne_122 : decode cX2_weighAllButOne 122 = .ok (.iastore, 1) := by decide +kernel
theorem dX2_weighAllButOne_123 : decode cX2_weighAllButOne 123 = .ok (.iinc 4 1, 3) := by decide +kernel
theorem dX2_weighAllButOne_126 : decode cX2_weighAllButOne 126 = .ok (.goto (-71), 3) := by decide +kernel
theorem dX2_weighAllButOne_129 : decode cX2_weighAllButOne 129 = .ok (.iinc 2 1, 3) := by decide +kernel
theorem dX2_weighAllButOne_132 : decode cX2_weighAllButOne 132 = .ok (.goto (-92), 3) := by decide +kernel
theorem dX2_weighAllButOne_135 : decode cX2_weighAllButOne 135 = .ok (.return_, 1) := by decide +kernel
theorem dX2_sumWith_0 : decode cX2_sumWith 0 = .ok (.ldc 50, 2) := by decide +kernel
theorem dX2_sumWith_2 : decode cX2_sumWith 2 = .ok (.istore_n 3, 1) := by decide +kernel
theorem dX2_sumWith_3 : decode cX2_sumWith 3 = .ok (.iload_n 1, 1) := by decide +kernel
theorem dX2_sumWith_4 : decode cX2_sumWith 4 = .ok (.ifCond .lt 9, 3) := by decide +kernel
theorem dX2_sumWith_7 : decode cX2_sumWith 7 = .ok (.iload_n 1, 1) := by decide +kernel
theorem dX2_sumWith_8 : decode cX2_sumWith 8 = .ok (.bipush 10, 2) := by decide +kernel
theorem dX2_sumWith_10 : decode cX2_sumWith 10 = .ok (.if_icmp .lt 5, 3) := by decide +kernel
theorem dX2_sumWith_13 : decode cX2_sumWith 13 = .ok (.iload_n 3, 1) := by decide +kernel
theorem dX2_sumWith_14 : decode cX2_sumWith 14 = .ok (.ireturn, 1) := by decide +kernel
theorem dX2_sumWith_15 : decode cX2_sumWith 15 = .ok (.iconst 0, 1) := by decide +kernel
theorem dX2_sumWith_16 : decode cX2_sumWith 16 = .ok (.istore 4, 2) := by decide +kernel
theorem dX2_sumWith_18 : decode cX2_sumWith 18 = .ok (.iload 4, 2) := by decide +kernel
theorem dX2_sumWith_20 : decode cX2_sumWith 20 = .ok (.bipush 10, 2) := by decide +kernel
theorem dX2_sumWith_22 : decode cX2_sumWith 22 = .ok (.if_icmp .ge 46, 3) := by decide +kernel
theorem dX2_sumWith_25 : decode cX2_sumWith 25 = .ok (.aload_n 0, 1) := by decide +kernel
theorem dX2_sumWith_26 : decode cX2_sumWith 26 = .ok (.getfield 27, 3) := by decide +kernel
theorem dX2_sumWith_29 : decode cX2_sumWith 29 = .ok (.iload_n 1, 1) := by decide +kernel
theorem dX2_sumWith_30 : decode cX2_sumWith 30 = .ok (.bipush 10, 2) := by decide +kernel
theorem dX2_sumWith_32 : decode cX2_sumWith 32 = .ok (.imul, 1) := by decide +kernel
theorem dX2_sumWith_33 : decode cX2_sumWith 33 = .ok (.iload 4, 2) := by decide +kernel
theorem dX2_sumWith_35 : decode cX2_sumWith 35 = .ok (.iadd, 1) := by decide +kernel
theorem dX2_sumWith_36 : decode cX2_sumWith 36 = .ok (.iaload, 1) := by decide +kernel
theorem dX2_sumWith_37 : decode cX2_sumWith 37 = .ok (.istore 5, 2) := by decide +kernel
theorem dX2_sumWith_39 : decode cX2_sumWith 39 = .ok (.iload_n 3, 1) := by decide +kernel
theorem dX2_sumWith_40 : decode cX2_sumWith 40 = .ok (.iload 5, 2) := by decide +kernel
theorem dX2_sumWith_42 : decode cX2_sumWith 42 = .ok (.aload_n 0, 1) := by decide +kernel
theorem dX2_sumWith_43 : decode cX2_sumWith 43 = .ok (.getfield 30, 3) := by decide +kernel
theorem dX2_sumWith_46 : decode cX2_sumWith 46 = .ok (.iload_n 2, 1) := by decide +kernel
theorem dX2_sumWith_47 : decode cX2_sumWith 47 = .ok (.aload_n 0, 1) := by decide +kernel
theorem dX2_sumWith_48 : decode cX2_sumWith 48 = .ok (.getfield 15, 3) := by decide +kernel
theorem dX2_sumWith_51 : decode cX2_sumWith 51 = .ok (.iload 4, 2) := by decide +kernel
theorem dX2_sumWith_53 : decode cX2_sumWith 53 = .ok (.iaload, 1) := by decide +kernel
theorem dX2_sumWith_54 : decode cX2_sumWith 54 = .ok (.invokevirtual 61, 3) := by decide +kernel
theorem dX2_sumWith_57 : decode cX2_sumWith 57 = .ok (.iadd, 1) := by decide +kernel
theorem dX2_sumWith_58 : decode cX2_sumWith 58 = .ok (.invokestatic 55, 3) := by decide +kernel
theorem dX2_sumWith_61 : decode cX2_sumWith 61 = .ok (.istore_n 3, 1) := by decide +kernel
theorem dX2_sumWith_62 : decode cX2_sumWith 62 = .ok (.iinc 4 1, 3) := by decide +kernel
theorem dX2_sumWith_65 : decode cX2_sumWith 65 = .ok (.goto (-47), 3) := by decide +kernel
theorem dX2_sumWith_68 : decode cX2_sumWith 68 = .ok (.iload_n 3, 1) := by decide +kernel
theorem dX2_sumWith_69 : decode cX2_sumWith 69 = .ok (.ireturn, 1) := by decide +kernel
theorem dX2_marbleCell_0 : decode cX2_marbleCell 0 = .ok (.iload_n 1, 1) := by decide +kernel
theorem dX2_marbleCell_1 : decode cX2_marbleCell 1 = .ok (.ifCond .lt 18, 3) := by decide +kernel
theorem dX2_marbleCell_4 : decode cX2_marbleCell 4 = .ok (.iload_n 1, 1) := by decide +kernel
theorem dX2_marbleCell_5 : decode cX2_marbleCell 5 = .ok (.bipush 10, 2) := by decide +kernel
theorem dX2_marbleCell_7 : decode cX2_marbleCell 7 = .ok (.if_icmp .ge 12, 3) := by decide +kernel
theorem dX2_marbleCell_10 : decode cX2_marbleCell 10 = .ok (.aload_n 0, 1) := by decide +kernel
theorem dX2_marbleCell_11 : decode cX2_marbleCell 11 = .ok (.getfield 9, 3) := by decide +kernel
theorem dX2_marbleCell_14 : decode cX2_marbleCell 14 = .ok (.iload_n 1, 1) := by decide +kernel
theorem dX2_marbleCell_15 : decode cX2_marbleCell 15 = .ok (.iaload, 1) := by decide +kernel
theorem dX2_marbleCell_16 : decode cX2_marbleCell 16 = .ok (.goto 4, 3) := by decide +kernel
theorem dX2_marbleCell_19 : decode cX2_marbleCell 19 = .ok (.iconst (-1), 1) := by decide +kernel
theorem dX2_marbleCell_20 : decode cX2_marbleCell 20 = .ok (.ireturn, 1) := by decide +kernel
theorem dX2_measure_0 : decode cX2_measure 0 = .ok (.aload_n 0, 1) := by decide +kernel
theorem dX2_measure_1 : decode cX2_measure 1 = .ok (.iload_n 1, 1) := by decide +kernel
theorem dX2_measure_2 : decode cX2_measure 2 = .ok (.invokevirtual 65, 3) := by decide +kernel
theorem dX2_measure_5 : decode cX2_measure 5 = .ok (.iconst 0, 1) := by decide +kernel
theorem dX2_measure_6 : decode cX2_measure 6 = .ok (.istore_n 2, 1) := by decide +kernel
theorem dX2_measure_7 : decode cX2_measure 7 = .ok (.iload_n 2, 1) := by decide +kernel
theorem dX2_measure_8 : decode cX2_measure 8 = .ok (.bipush 10, 2) := by decide +kernel
theorem dX2_measure_10 : decode cX2_measure 10 = .ok (.if_icmp .ge 53, 3) := by decide +kernel
theorem dX2_measure_13 : decode cX2_measure 13 = .ok (.iconst 0, 1) := by decide +kernel
theorem dX2_measure_14 : decode cX2_measure 14 = .ok (.istore_n 3, 1) := by decide +kernel
theorem dX2_measure_15 : decode cX2_measure 15 = .ok (.iload_n 3, 1) := by decide +kernel
theorem dX2_measure_16 : decode cX2_measure 16 = .ok (.bipush 10, 2) := by decide +kernel
theorem dX2_measure_18 : decode cX2_measure 18 = .ok (.if_icmp .ge 39, 3) := by decide +kernel
theorem dX2_measure_21 : decode cX2_measure 21 = .ok (.aload_n 0, 1) := by decide +kernel
theorem dX2_measure_22 : decode cX2_measure 22 = .ok (.getfield 18, 3) := by decide +kernel
theorem dX2_measure_25 : decode cX2_measure 25 = .ok (.iload_n 2, 1) := by decide +kernel
theorem dX2_measure_26 : decode cX2_measure 26 = .ok (.bipush 10, 2) := by decide +kernel
theorem dX2_measure_28 : decode cX2_measure 28 = .ok (.imul, 1) := by decide +kernel
theorem dX2_measure_29 : decode cX2_measure 29 = .ok (.iload_n 3, 1) := by decide +kernel
theorem dX2_measure_30 : decode cX2_measure 30 = .ok (.iadd, 1) := by decide +kernel
theorem dX2_measure_31 : decode cX2_measure 31 = .ok (.aload_n 0, 1) := by decide +kernel
theorem dX2_measure_32 : decode cX2_measure 32 = .ok (.getfield 30, 3) := by decide +kernel
theorem dX2_measure_35 : decode cX2_measure 35 = .ok (.aload_n 0, 1) := by decide +kernel
theorem dX2_measure_36 : decode cX2_measure 36 = .ok (.getfield 9, 3) := by decide +kernel
theorem dX2_measure_39 : decode cX2_measure 39 = .ok (.iload_n 2, 1) := by decide +kernel
theorem dX2_measure_40 : decode cX2_measure 40 = .ok (.iaload, 1) := by decide +kernel
theorem dX2_measure_41 : decode cX2_measure 41 = .ok (.aload_n 0, 1) := by decide +kernel
theorem dX2_measure_42 : decode cX2_measure 42 = .ok (.getfield 15, 3) := by decide +kernel
theorem dX2_measure_45 : decode cX2_measure 45 = .ok (.iload_n 3, 1) := by decide +kernel
theorem dX2_measure_46 : decode cX2_measure 46 = .ok (.iaload, 1) := by decide +kernel
theorem dX2_measure_47 : decode cX2_measure 47 = .ok (.invokevirtual 61, 3) := by decide +kernel
theorem dX2_measure_50 : decode cX2_measure 50 = .ok (.iastore, 1) := by decide +kernel
theorem dX2_measure_51 : decode cX2_measure 51 = .ok (.iinc 3 1, 3) := by decide +kernel
theorem dX2_measure_54 : decode cX2_measure 54 = .ok (.goto (-39), 3) := by decide +kernel
theorem dX2_measure_57 : decode cX2_measure 57 = .ok (.iinc 2 1, 3) := by decide +kernel
theorem dX2_measure_60 : decode cX2_measure 60 = .ok (.goto (-53), 3) := by decide +kernel
theorem dX2_measure_63 : decode cX2_measure 63 = .ok (.return_, 1) := by decide +kernel
theorem dX2_collect_0 : decode cX2_collect 0 = .ok (.iload_n 1, 1) := by decide +kernel
theorem dX2_collect_1 : decode cX2_collect 1 = .ok (.invokestatic 68, 3) := by decide +kernel
theorem dX2_collect_4 : decode cX2_collect 4 = .ok (.istore_n 2, 1) := by decide +kernel
theorem dX2_collect_5 : decode cX2_collect 5 = .ok (.iconst 0, 1) := by decide +kernel
theorem dX2_collect_6 : decode cX2_collect 6 = .ok (.istore_n 3, 1) := by decide +kernel
theorem dX2_collect_7 : decode cX2_collect 7 = .ok (.iconst 0, 1) := by decide +kernel
theorem dX2_collect_8 : decode cX2_collect 8 = .ok (.istore 4, 2) := by decide +kernel
theorem dX2_collect_10 : decode cX2_collect 10 = .ok (.iconst 0, 1) := by decide +kernel
theorem dX2_collect_11 : decode cX2_collect 11 = .ok (.istore 5, 2) := by decide +kernel
theorem dX2_collect_13 : decode cX2_collect 13 = .ok (.iload 5, 2) := by decide +kernel
theorem dX2_collect_15 : decode cX2_collect 15 = .ok (.bipush 121, 2) := by decide +kernel
theorem dX2_collect_17 : decode cX2_collect 17 = .ok (.if_icmp .ge 71, 3) := by decide +kernel
theorem dX2_collect_20 : decode cX2_collect 20 = .ok (.aload_n 0, 1) := by decide +kernel
theorem dX2_collect_21 : decode cX2_collect 21 = .ok (.getfield 34, 3) := by decide +kernel
theorem dX2_collect_24 : decode cX2_collect 24 = .ok (.iload 5, 2) := by decide +kernel
theorem dX2_collect_26 : decode cX2_collect 26 = .ok (.invokevirtual 71, 3) := by decide +kernel
theorem dX2_collect_29 : decode cX2_collect 29 = .ok (.iload_n 1, 1) := by decide +kernel
theorem dX2_collect_30 : decode cX2_collect 30 = .ok (.if_icmp .ne 20, 3) := by decide +kernel
theorem dX2_collect_33 : decode cX2_collect 33 = .ok (.iload_n 3, 1) := by decide +kernel
theorem dX2_collect_34 : decode cX2_collect 34 = .ok (.bipush 10, 2) := by decide +kernel
theorem dX2_collect_36 : decode cX2_collect 36 = .ok (.if_icmp .ge 14, 3) := by decide +kernel
theorem dX2_collect_39 : decode cX2_collect 39 = .ok (.aload_n 0, 1) := by decide +kernel
theorem dX2_collect_40 : decode cX2_collect 40 = .ok (.getfield 9, 3) := by decide +kernel
theorem dX2_collect_43 : decode cX2_collect 43 = .ok (.iload_n 3, 1) := by decide +kernel
theorem dX2_collect_44 : decode cX2_collect 44 = .ok (.iload 5, 2) := by decide +kernel
theorem dX2_collect_46 : decode cX2_collect 46 = .ok (.iastore, 1) := by decide +kernel
theorem dX2_collect_47 : decode cX2_collect 47 = .ok (.iinc 3 1, 3) := by decide +kernel
theorem dX2_collect_50 : decode cX2_collect 50 = .ok (.aload_n 0, 1) := by decide +kernel
theorem dX2_collect_51 : decode cX2_collect 51 = .ok (.getfield 30, 3) := by decide +kernel
theorem dX2_collect_54 : decode cX2_collect 54 = .ok (.iload 5, 2) := by decide +kernel
theorem dX2_collect_56 : decode cX2_collect 56 = .ok (.invokevirtual 76, 3) := by decide +kernel
theorem dX2_collect_59 : decode cX2_collect 59 = .ok (.iload_n 2, 1) := by decide +kernel
theorem dX2_collect_60 : decode cX2_collect 60 = .ok (.if_icmp .ne 22, 3) := by decide +kernel
theorem dX2_collect_63 : decode cX2_collect 63 = .ok (.iload 4, 2) := by decide +kernel
theorem dX2_collect_65 : decode cX2_collect 65 = .ok (.bipush 10, 2) := by decide +kernel
theorem dX2_collect_67 : decode cX2_collect 67 = .ok (.if_icmp .ge 15, 3) := by decide +kernel
theorem dX2_collect_70 : decode cX2_collect 70 = .ok (.aload_n 0, 1) := by decide +kernel
theorem dX2_collect_71 : decode cX2_collect 71 = .ok (.getfield 15, 3) := by decide +kernel
theorem dX2_collect_74 : decode cX2_collect 74 = .ok (.iload 4, 2) := by decide +kernel
theorem dX2_collect_76 : decode cX2_collect 76 = .ok (.iload 5, 2) := by decide +kernel
theorem dX2_collect_78 : decode cX2_collect 78 = .ok (.iastore, 1) := by decide +kernel
theorem dX2_collect_79 : decode cX2_collect 79 = .ok (.iinc 4 1, 3) := by decide +kernel
theorem dX2_collect_82 : decode cX2_collect 82 = .ok (.iinc 5 1, 3) := by decide +kernel
theorem dX2_collect_85 : decode cX2_collect 85 = .ok (.goto (-72), 3) := by decide +kernel
theorem dX2_collect_88 : decode cX2_collect 88 = .ok (.return_, 1) := by decide +kernel
theorem dX2_sumFirst_0 : decode cX2_sumFirst 0 = .ok (.aload_n 0, 1) := by decide +kernel
theorem dX2_sumFirst_1 : decode cX2_sumFirst 1 = .ok (.getfield 21, 3) := by decide +kernel
theorem dX2_sumFirst_4 : decode cX2_sumFirst 4 = .ok (.iconst 0, 1) := by decide +kernel
theorem dX2_sumFirst_5 : decode cX2_sumFirst 5 = .ok (.iconst 0, 1) := by decide +kernel
theorem dX2_sumFirst_6 : decode cX2_sumFirst 6 = .ok (.iastore, 1) := by decide +kernel
theorem dX2_sumFirst_7 : decode cX2_sumFirst 7 = .ok (.iconst 1, 1) := by decide +kernel
theorem dX2_sumFirst_8 : decode cX2_sumFirst 8 = .ok (.istore_n 1, 1) := by decide +kernel
theorem dX2_sumFirst_9 : decode cX2_sumFirst 9 = .ok (.iload_n 1, 1) := by decide +kernel
theorem dX2_sumFirst_10 : decode cX2_sumFirst 10 = .ok (.sipush 1024, 3) := by decide +kernel
theorem dX2_sumFirst_13 : decode cX2_sumFirst 13 = .ok (.if_icmp .ge 30, 3) := by decide +kernel
theorem dX2_sumFirst_16 : decode cX2_sumFirst 16 = .ok (.aload_n 0, 1) := by decide +kernel
theorem dX2_sumFirst_17 : decode cX2_sumFirst 17 = .ok (.getfield 21, 3) := by decide +kernel
theorem dX2_sumFirst_20 : decode cX2_sumFirst 20 = .ok (.iload_n 1, 1) := by decide +kernel
theorem dX2_sumFirst_21 : decode cX2_sumFirst 21 = .ok (.aload_n 0, 1) := by decide +kernel
theorem dX2_sumFirst_22 : decode cX2_sumFirst 22 = .ok (.aload_n 0, 1) := by decide +kernel
theorem dX2_sumFirst_23 : decode cX2_sumFirst 23 = .ok (.getfield 21, 3) := by decide +kernel
theorem dX2_sumFirst_26 : decode cX2_sumFirst 26 = .ok (.iload_n 1, 1) := by decide +kernel
theorem dX2_sumFirst_27 : decode cX2_sumFirst 27 = .ok (.iload_n 1, 1) := by decide +kernel
theorem dX2_sumFirst_28 : decode cX2_sumFirst 28 = .ok (.invokestatic 51, 3) := by decide +kernel
theorem dX2_sumFirst_31 : decode cX2_sumFirst 31 = .ok (.iconst 1, 1) := by decide +kernel
theorem dX2_sumFirst_32 : decode cX2_sumFirst 32 = .ok (.isub, 1) := by decide +kernel
theorem dX2_sumFirst_33 : decode cX2_sumFirst 33 = .ok (.invokevirtual 79, 3) := by decide +kernel
theorem dX2_sumFirst_36 : decode cX2_sumFirst 36 = .ok (.iastore, 1) := by decide +kernel
theorem dX2_sumFirst_37 : decode cX2_sumFirst 37 = .ok (.iinc 1 1, 3) := by decide +kernel
theorem dX2_sumFirst_40 : decode cX2_sumFirst 40 = .ok (.goto (-31), 3) := by decide +kernel
theorem dX2_sumFirst_43 : decode cX2_sumFirst 43 = .ok (.return_, 1) := by decide +kernel
theorem dX2_sumLast_0 : decode cX2_sumLast 0 = .ok (.aload_n 0, 1) := by decide +kernel
theorem dX2_sumLast_1 : decode cX2_sumLast 1 = .ok (.getfield 24, 3) := by decide +kernel
theorem dX2_sumLast_4 : decode cX2_sumLast 4 = .ok (.iconst 0, 1) := by decide +kernel
theorem dX2_sumLast_5 : decode cX2_sumLast 5 = .ok (.iconst 0, 1) := by decide +kernel
theorem dX2_sumLast_6 : decode cX2_sumLast 6 = .ok (.iastore, 1) := by decide +kernel
theorem dX2_sumLast_7 : decode cX2_sumLast 7 = .ok (.iconst 1, 1) := by decide +kernel
theorem dX2_sumLast_8 : decode cX2_sumLast 8 = .ok (.istore_n 1, 1) := by decide +kernel
theorem dX2_sumLast_9 : decode cX2_sumLast 9 = .ok (.iload_n 1, 1) := by decide +kernel
theorem dX2_sumLast_10 : decode cX2_sumLast 10 = .ok (.sipush 1024, 3) := by decide +kernel
theorem dX2_sumLast_13 : decode cX2_sumLast 13 = .ok (.if_icmp .ge 31, 3) := by decide +kernel
theorem dX2_sumLast_16 : decode cX2_sumLast 16 = .ok (.aload_n 0, 1) := by decide +kernel
theorem dX2_sumLast_17 : decode cX2_sumLast 17 = .ok (.getfield 24, 3) := by decide +kernel
theorem dX2_sumLast_20 : decode cX2_sumLast 20 = .ok (.iload_n 1, 1) := by decide +kernel
theorem dX2_sumLast_21 : decode cX2_sumLast 21 = .ok (.aload_n 0, 1) := by decide +kernel
theorem dX2_sumLast_22 : decode cX2_sumLast 22 = .ok (.aload_n 0, 1) := by decide +kernel
theorem dX2_sumLast_23 : decode cX2_sumLast 23 = .ok (.getfield 24, 3) := by decide +kernel
theorem dX2_sumLast_26 : decode cX2_sumLast 26 = .ok (.iload_n 1, 1) := by decide +kernel
theorem dX2_sumLast_27 : decode cX2_sumLast 27 = .ok (.bipush 10, 2) := by decide +kernel
theorem dX2_sumLast_29 : decode cX2_sumLast 29 = .ok (.iload_n 1, 1) := by decide +kernel
theorem dX2_sumLast_30 : decode cX2_sumLast 30 = .ok (.invokestatic 51, 3) := by decide +kernel
theorem dX2_sumLast_33 : decode cX2_sumLast 33 = .ok (.isub, 1) := by decide +kernel
theorem dX2_sumLast_34 : decode cX2_sumLast 34 = .ok (.invokevirtual 79, 3) := by decide +kernel
theorem dX2_sumLast_37 : decode cX2_sumLast 37 = .ok (.iastore, 1) := by decide +kernel
theorem dX2_sumLast_38 : decode cX2_sumLast 38 = .ok (.iinc 1 1, 3) := by decide +kernel
theorem dX2_sumLast_41 : decode cX2_sumLast 41 = .ok (.goto (-32), 3) := by decide +kernel
theorem dX2_sumLast_44 : decode cX2_sumLast 44 = .ok (.return_, 1) := by decide +kernel
theorem dX2_leastWith_0 : decode cX2_leastWith 0 = .ok (.ldc 50, 2) := by decide +kernel
theorem dX2_leastWith_2 : decode cX2_leastWith 2 = .ok (.istore 4, 2) := by decide +kernel
theorem dX2_leastWith_4 : decode cX2_leastWith 4 = .ok (.iconst 0, 1) := by decide +kernel
theorem dX2_leastWith_5 : decode cX2_leastWith 5 = .ok (.istore 5, 2) := by decide +kernel
theorem dX2_leastWith_7 : decode cX2_leastWith 7 = .ok (.iload 5, 2) := by decide +kernel
theorem dX2_leastWith_9 : decode cX2_leastWith 9 = .ok (.bipush 10, 2) := by decide +kernel
theorem dX2_leastWith_11 : decode cX2_leastWith 11 = .ok (.if_icmp .ge 51, 3) := by decide +kernel
theorem dX2_leastWith_14 : decode cX2_leastWith 14 = .ok (.iload_n 2, 1) := by decide +kernel
theorem dX2_leastWith_15 : decode cX2_leastWith 15 = .ok (.iload 5, 2) := by decide +kernel
theorem dX2_leastWith_17 : decode cX2_leastWith 17 = .ok (.ishr, 1) := by decide +kernel
theorem dX2_leastWith_18 : decode cX2_leastWith 18 = .ok (.iconst 1, 1) := by decide +kernel
theorem dX2_leastWith_19 : decode cX2_leastWith 19 = .ok (.iand, 1) := by decide +kernel
theorem dX2_leastWith_20 : decode cX2_leastWith 20 = .ok (.iconst 1, 1) := by decide +kernel
theorem dX2_leastWith_21 : decode cX2_leastWith 21 = .ok (.if_icmp .ne 35, 3) := by decide +kernel
theorem dX2_leastWith_24 : decode cX2_leastWith 24 = .ok (.aload_n 1, 1) := by decide +kernel
theorem dX2_leastWith_25 : decode cX2_leastWith 25 = .ok (.iload_n 2, 1) := by decide +kernel
theorem dX2_leastWith_26 : decode cX2_leastWith 26 = .ok (.iconst 1, 1) := by decide +kernel
theorem dX2_leastWith_27 : decode cX2_leastWith 27 = .ok (.iload 5, 2) := by decide +kernel
theorem dX2_leastWith_29 : decode cX2_leastWith 29 = .ok (.ishl, 1) := by decide +kernel
theorem dX2_leastWith_30 : decode cX2_leastWith 30 = .ok (.isub, 1) := by decide +kernel
theorem dX2_leastWith_31 : decode cX2_leastWith 31 = .ok (.iaload, 1) := by decide +kernel
theorem dX2_leastWith_32 : decode cX2_leastWith 32 = .ok (.istore 6, 2) := by decide +kernel
theorem dX2_leastWith_34 : decode cX2_leastWith 34 = .ok (.iload 4, 2) := by decide +kernel
theorem dX2_leastWith_36 : decode cX2_leastWith 36 = .ok (.iload 6, 2) := by decide +kernel
theorem dX2_leastWith_38 : decode cX2_leastWith 38 = .ok (.aload_n 0, 1) := by decide +kernel
theorem dX2_leastWith_39 : decode cX2_leastWith 39 = .ok (.getfield 18, 3) := by decide +kernel
theorem dX2_leastWith_42 : decode cX2_leastWith 42 = .ok (.iload_n 3, 1) := by decide +kernel
theorem dX2_leastWith_43 : decode cX2_leastWith 43 = .ok (.bipush 10, 2) := by decide +kernel
theorem dX2_leastWith_45 : decode cX2_leastWith 45 = .ok (.imul, 1) := by decide +kernel
theorem dX2_leastWith_46 : decode cX2_leastWith 46 = .ok (.iload 5, 2) := by decide +kernel
theorem dX2_leastWith_48 : decode cX2_leastWith 48 = .ok (.iadd, 1) := by decide +kernel
theorem dX2_leastWith_49 : decode cX2_leastWith 49 = .ok (.iaload, 1) := by decide +kernel
theorem dX2_leastWith_50 : decode cX2_leastWith 50 = .ok (.iadd, 1) := by decide +kernel
theorem dX2_leastWith_51 : decode cX2_leastWith 51 = .ok (.invokestatic 55, 3) := by decide +kernel
theorem dX2_leastWith_54 : decode cX2_leastWith 54 = .ok (.istore 4, 2) := by decide +kernel
theorem dX2_leastWith_56 : decode cX2_leastWith 56 = .ok (.iinc 5 1, 3) := by decide +kernel
theorem dX2_leastWith_59 : decode cX2_leastWith 59 = .ok (.goto (-52), 3) := by decide +kernel
theorem dX2_leastWith_62 : decode cX2_leastWith 62 = .ok (.iload 4, 2) := by decide +kernel
theorem dX2_leastWith_64 : decode cX2_leastWith 64 = .ok (.ireturn, 1) := by decide +kernel
theorem dX3_init_0 : decode cX3_init 0 = .ok (.aload_n 0, 1) := by decide +kernel
theorem dX3_init_1 : decode cX3_init 1 = .ok (.invokespecial 3, 3) := by decide +kernel
theorem dX3_init_4 : decode cX3_init 4 = .ok (.aload_n 0, 1) := by decide +kernel
theorem dX3_init_5 : decode cX3_init 5 = .ok (.bipush 121, 2) := by decide +kernel
theorem dX3_init_7 : decode cX3_init 7 = .ok (.newarray .int, 2) := by decide +kernel
theorem dX3_init_9 : decode cX3_init 9 = .ok (.putfield 9, 3) := by decide +kernel
theorem dX3_init_12 : decode cX3_init 12 = .ok (.aload_n 0, 1) := by decide +kernel
theorem dX3_init_13 : decode cX3_init 13 = .ok (.bipush 121, 2) := by decide +kernel
theorem dX3_init_15 : decode cX3_init 15 = .ok (.newarray .int, 2) := by decide +kernel
theorem dX3_init_17 : decode cX3_init 17 = .ok (.putfield 15, 3) := by decide +kernel
theorem dX3_init_20 : decode cX3_init 20 = .ok (.aload_n 0, 1) := by decide +kernel
theorem dX3_init_21 : decode cX3_init 21 = .ok (.bipush 121, 2) := by decide +kernel
theorem dX3_init_23 : decode cX3_init 23 = .ok (.newarray .int, 2) := by decide +kernel
theorem dX3_init_25 : decode cX3_init 25 = .ok (.putfield 18, 3) := by decide +kernel
theorem dX3_init_28 : decode cX3_init 28 = .ok (.aload_n 0, 1) := by decide +kernel
theorem dX3_init_29 : decode cX3_init 29 = .ok (.aload_n 1, 1) := by decide +kernel
theorem dX3_init_30 : decode cX3_init 30 = .ok (.putfield 21, 3) := by decide +kernel
theorem dX3_init_33 : decode cX3_init 33 = .ok (.aload_n 0, 1) := by decide +kernel
theorem dX3_init_34 : decode cX3_init 34 = .ok (.aload_n 2, 1) := by decide +kernel
theorem dX3_init_35 : decode cX3_init 35 = .ok (.putfield 25, 3) := by decide +kernel
theorem dX3_init_38 : decode cX3_init 38 = .ok (.return_, 1) := by decide +kernel
theorem dX3_search_0 : decode cX3_search 0 = .ok (.iload_n 1, 1) := by decide +kernel
theorem dX3_search_1 : decode cX3_search 1 = .ok (.iconst (-1), 1) := by decide +kernel
theorem dX3_search_2 : decode cX3_search 2 = .ok (.if_icmp .eq 15, 3) := by decide +kernel
theorem dX3_search_5 : decode cX3_search 5 = .ok (.aload_n 0, 1) := by decide +kernel
theorem dX3_search_6 : decode cX3_search 6 = .ok (.getfield 25, 3) := by decide +kernel
theorem dX3_search_9 : decode cX3_search 9 = .ok (.iload_n 2, 1) := by decide +kernel
theorem dX3_search_10 : decode cX3_search 10 = .ok (.invokevirtual 29, 3) := by decide +kernel
theorem dX3_search_13 : decode cX3_search 13 = .ok (.iload_n 1, 1) := by decide +kernel
theorem dX3_search_14 : decode cX3_search 14 = .ok (.if_icmp .eq 25, 3) := by decide +kernel
theorem dX3_search_17 : decode cX3_search 17 = .ok (.iconst 0, 1) := by decide +kernel
theorem dX3_search_18 : decode cX3_search 18 = .ok (.istore_n 3, 1) := by decide +kernel
theorem dX3_search_19 : decode cX3_search 19 = .ok (.iload_n 3, 1) := by decide +kernel
theorem dX3_search_20 : decode cX3_search 20 = .ok (.bipush 121, 2) := by decide +kernel
theorem dX3_search_22 : decode cX3_search 22 = .ok (.if_icmp .ge 16, 3) := by decide +kernel
theorem dX3_search_25 : decode cX3_search 25 = .ok (.aload_n 0, 1) := by decide +kernel
theorem dX3_search_26 : decode cX3_search 26 = .ok (.getfield 9, 3) := by decide +kernel
theorem dX3_search_29 : decode cX3_search 29 = .ok (.iload_n 3, 1) := by decide +kernel
theorem dX3_search_30 : decode cX3_search 30 = .ok (.iconst (-1), 1) := by decide +kernel
theorem dX3_search_31 : decode cX3_search 31 = .ok (.iastore, 1) := by decide +kernel
theorem dX3_search_32 : decode cX3_search 32 = .ok (.iinc 3 1, 3) := by decide +kernel
theorem dX3_search_35 : decode cX3_search 35 = .ok (.goto (-16), 3) := by decide +kernel
theorem dX3_search_38 : decode cX3_search 38 = .ok (.return_, 1) := by decide +kernel
theorem dX3_search_39 : decode cX3_search 39 = .ok (.aload_n 0, 1) := by decide +kernel
theorem dX3_search_40 : decode cX3_search 40 = .ok (.iload_n 2, 1) := by decide +kernel
theorem dX3_search_41 : decode cX3_search 41 = .ok (.iload_n 2, 1) := by decide +kernel
theorem dX3_search_42 : decode cX3_search 42 = .ok (.invokevirtual 35, 3) := by decide +kernel
theorem dX3_search_45 : decode cX3_search 45 = .ok (.iconst 0, 1) := by decide +kernel
theorem dX3_search_46 : decode cX3_search 46 = .ok (.istore_n 3, 1) := by decide +kernel
theorem dX3_search_47 : decode cX3_search 47 = .ok (.iload_n 3, 1) := by decide +kernel
theorem dX3_search_48 : decode cX3_search 48 = .ok (.bipush 121, 2) := by decide +kernel
theorem dX3_search_50 : decode cX3_search 50 = .ok (.if_icmp .ge 56, 3) := by decide +kernel
theorem dX3_search_53 : decode cX3_search 53 = .ok (.aload_n 0, 1) := by decide +kernel
theorem dX3_search_54 : decode cX3_search 54 = .ok (.getfield 15, 3) := by decide +kernel
theorem dX3_search_57 : decode cX3_search 57 = .ok (.iload_n 3, 1) := by decide +kernel
theorem dX3_search_58 : decode cX3_search 58 = .ok (.iaload, 1) := by decide +kernel
theorem dX3_search_59 : decode cX3_search 59 = .ok (.ifCond .le 17, 3) := by decide +kernel
theorem dX3_search_62 : decode cX3_search 62 = .ok (.aload_n 0, 1) := by decide +kernel
theorem dX3_search_63 : decode cX3_search 63 = .ok (.iload_n 1, 1) := by decide +kernel
theorem dX3_search_64 : decode cX3_search 64 = .ok (.iload_n 2, 1) := by decide +kernel
theorem dX3_search_65 : decode cX3_search 65 = .ok (.iload_n 3, 1) := by decide +kernel
theorem dX3_search_66 : decode cX3_search 66 = .ok (.invokevirtual 39, 3) := by decide +kernel
theorem dX3_search_69 : decode cX3_search 69 = .ok (.ifCond .eq 7, 3) := by decide +kernel
theorem dX3_search_72 : decode cX3_search 72 = .ok (.iconst 1, 1) := by decide +kernel
theorem dX3_search_73 : decode cX3_search 73 = .ok (.goto 4, 3) := by decide +kernel
theorem dX3_search_76 : decode cX3_search 76 = .ok (.iconst 0, 1) := by decide +kernel
theorem dX3_search_77 : decode cX3_search 77 = .ok (.istore 4, 2) := by decide +kernel
theorem dX3_search_79 : decode cX3_search 79 = .ok (.aload_n 0, 1) := by decide +kernel
theorem dX3_search_80 : decode cX3_search 80 = .ok (.getfield 9, 3) := by decide +kernel
theorem dX3_search_83 : decode cX3_search 83 = .ok (.iload_n 3, 1) := by decide +kernel
theorem dX3_search_84 : decode cX3_search 84 = .ok (.iload 4, 2) := by decide +kernel
theorem dX3_search_86 : decode cX3_search 86 = .ok (.ifCond .eq 12, 3) := by decide +kernel
theorem dX3_search_89 : decode cX3_search 89 = .ok (.aload_n 0, 1) := by decide +kernel
theorem dX3_search_90 : decode cX3_search 90 = .ok (.getfield 15, 3) := by decide +kernel
theorem dX3_search_93 : decode cX3_search 93 = .ok (.iload_n 3, 1) := by decide +kernel
theorem dX3_search_94 : decode cX3_search 94 = .ok (.iaload, 1) := by decide +kernel
theorem dX3_search_95 : decode cX3_search 95 = .ok (.goto 4, 3) := by decide +kernel
theorem dX3_search_98 : decode cX3_search 98 = .ok (.iconst (-1), 1) := by decide +kernel
theorem dX3_search_99 : decode cX3_search 99 = .ok (.iastore, 1) := by decide +kernel
theorem dX3_search_100 : decode cX3_search 100 = .ok (.iinc 3 1, 3) := by decide +kernel
theorem dX3_search_103 : decode cX3_search 103 = .ok (.goto (-56), 3) := by decide +kernel
theorem dX3_search_106 : decode cX3_search 106 = .ok (.iconst 0, 1) := by decide +kernel
theorem dX3_search_107 : decode cX3_search 107 = .ok (.istore_n 3, 1) := by decide +kernel
theorem dX3_search_108 : decode cX3_search 108 = .ok (.iload_n 3, 1) := by decide +kernel
theorem dX3_search_109 : decode cX3_search 109 = .ok (.bipush 6, 2) := by decide +kernel
theorem dX3_search_111 : decode cX3_search 111 = .ok (.if_icmp .ge 51, 3) := by decide +kernel
theorem dX3_search_114 : decode cX3_search 114 = .ok (.aload_n 0, 1) := by decide +kernel
theorem dX3_search_115 : decode cX3_search 115 = .ok (.getfield 21, 3) := by decide +kernel
theorem dX3_search_118 : decode cX3_search 118 = .ok (.iload_n 2, 1) := by decide +kernel
theorem dX3_search_119 : decode cX3_search 119 = .ok (.iload_n 3, 1) := by decide +kernel
theorem dX3_search_120 : decode cX3_search 120 = .ok (.invokevirtual 45, 3) := by decide +kernel
theorem dX3_search_123 : decode cX3_search 123 = .ok (.istore 4, 2) := by decide +kernel
theorem dX3_search_125 : decode cX3_search 125 = .ok (.aload_n 0, 1) := by decide +kernel
theorem dX3_search_126 : decode cX3_search 126 = .ok (.getfield 25, 3) := by decide +kernel
theorem dX3_search_129 : decode cX3_search 129 = .ok (.iload 4, 2) := by decide +kernel
theorem dX3_search_131 : decode cX3_search 131 = .ok (.invokevirtual 49, 3) := by decide +kernel
theorem dX3_search_134 : decode cX3_search 134 = .ok (.ifCond .eq 22, 3) := by decide +kernel
theorem dX3_search_137 : decode cX3_search 137 = .ok (.aload_n 0, 1) := by decide +kernel
theorem dX3_search_138 : decode cX3_search 138 = .ok (.iload_n 1, 1) := by decide +kernel
theorem dX3_search_139 : decode cX3_search 139 = .ok (.iload_n 2, 1) := by decide +kernel
theorem dX3_search_140 : decode cX3_search 140 = .ok (.iload 4, 2) := by decide +kernel
theorem dX3_search_142 : decode cX3_search 142 = .ok (.invokevirtual 39, 3) := by decide +kernel
theorem dX3_search_145 : decode cX3_search 145 = .ok (.ifCond .eq 11, 3) := by decide +kernel
theorem dX3_search_148 : decode cX3_search 148 = .ok (.aload_n 0, 1) := by decide +kernel
theorem dX3_search_149 : decode cX3_search 149 = .ok (.getfield 9, 3) := by decide +kernel
theorem dX3_search_152 : decode cX3_search 152 = .ok (.iload 4, 2) := by decide +kernel
theorem dX3_search_154 : decode cX3_search 154 = .ok (.iconst 0, 1) := by decide +kernel
theorem dX3_search_155 : decode cX3_search 155 = .ok (.iastore, 1) := by decide +kernel
theorem dX3_search_156 : decode cX3_search 156 = .ok (.iinc 3 1, 3) := by decide +kernel
theorem dX3_search_159 : decode cX3_search 159 = .ok (.goto (-51), 3) := by decide +kernel
theorem dX3_search_162 : decode cX3_search 162 = .ok (.return_, 1) := by decide +kernel
theorem dX3_hopsTo_0 : decode cX3_hopsTo 0 = .ok (.iload_n 1, 1) := by decide +kernel
theorem dX3_hopsTo_1 : decode cX3_hopsTo 1 = .ok (.invokestatic 53, 3) := by decide +kernel
theorem dX3_hopsTo_4 : decode cX3_hopsTo 4 = .ok (.ifCond .eq 12, 3) := by decide +kernel
theorem dX3_hopsTo_7 : decode cX3_hopsTo 7 = .ok (.aload_n 0, 1) := by decide +kernel
theorem dX3_hopsTo_8 : decode cX3_hopsTo 8 = .ok (.getfield 9, 3) := by decide +kernel
theorem dX3_hopsTo_11 : decode cX3_hopsTo 11 = .ok (.iload_n 1, 1) := by decide +kernel
theorem dX3_hopsTo_12 : decode cX3_hopsTo 12 = .ok (.iaload, 1) := by decide +kernel
theorem dX3_hopsTo_13 : decode cX3_hopsTo 13 = .ok (.goto 4, 3) := by decide +kernel
theorem dX3_hopsTo_16 : decode cX3_hopsTo 16 = .ok (.iconst (-1), 1) := by decide +kernel
theorem dX3_hopsTo_17 : decode cX3_hopsTo 17 = .ok (.ireturn, 1) := by decide +kernel
theorem dX3_countEnds_0 : decode cX3_countEnds 0 = .ok (.iconst 0, 1) := by decide +kernel
theorem dX3_countEnds_1 : decode cX3_countEnds 1 = .ok (.istore_n 1, 1) := by decide +kernel
theorem dX3_countEnds_2 : decode cX3_countEnds 2 = .ok (.iconst 0, 1) := by decide +kernel
theorem dX3_countEnds_3 : decode cX3_countEnds 3 = .ok (.istore_n 2, 1) := by decide +kernel
theorem dX3_countEnds_4 : decode cX3_countEnds 4 = .ok (.iload_n 2, 1) := by decide +kernel
theorem dX3_countEnds_5 : decode cX3_countEnds 5 = .ok (.bipush 121, 2) := by decide +kernel
theorem dX3_countEnds_7 : decode cX3_countEnds 7 = .ok (.if_icmp .ge 22, 3) := by decide +kernel
theorem dX3_countEnds_10 : decode cX3_countEnds 10 = .ok (.aload_n 0, 1) := by decide +kernel
theorem dX3_countEnds_11 : decode cX3_countEnds 11 = .ok (.getfield 9, 3) := by decide +kernel
theorem dX3_countEnds_14 : decode cX3_countEnds 14 = .ok (.iload_n 2, 1) := by decide +kernel
theorem dX3_countEnds_15 : decode cX3_countEnds 15 = .ok (.iaload, 1) := by decide +kernel
theorem dX3_countEnds_16 : decode cX3_countEnds 16 = .ok (.iconst (-1), 1) := by decide +kernel
theorem dX3_countEnds_17 : decode cX3_countEnds 17 = .ok (.if_icmp .eq 6, 3) := by decide +kernel
theorem dX3_countEnds_20 : decode cX3_countEnds 20 = .ok (.iinc 1 1, 3) := by decide +kernel
theorem dX3_countEnds_23 : decode cX3_countEnds 23 = .ok (.iinc 2 1, 3) := by decide +kernel
theorem dX3_countEnds_26 : decode cX3_countEnds 26 = .ok (.goto (-22), 3) := by decide +kernel
theorem dX3_countEnds_29 : decode cX3_countEnds 29 = .ok (.iload_n 1, 1) := by decide +kernel
theorem dX3_countEnds_30 : decode cX3_countEnds 30 = .ok (.ireturn, 1) := by decide +kernel
theorem dX3_end_0 : decode cX3_end 0 = .ok (.iconst 0, 1) := by decide +kernel
theorem dX3_end_1 : decode cX3_end 1 = .ok (.istore_n 2, 1) := by decide +kernel
theorem dX3_end_2 : decode cX3_end 2 = .ok (.iconst 0, 1) := by decide +kernel
theorem dX3_end_3 : decode cX3_end 3 = .ok (.istore_n 3, 1) := by decide +kernel
theorem dX3_end_4 : decode cX3_end 4 = .ok (.iload_n 3, 1) := by decide +kernel
theorem dX3_end_5 : decode cX3_end 5 = .ok (.bipush 121, 2) := by decide +kernel
theorem dX3_end_7 : decode cX3_end 7 = .ok (.if_icmp .ge 29, 3) := by decide +kernel
theorem dX3_end_10 : decode cX3_end 10 = .ok (.aload_n 0, 1) := by decide +kernel
theorem dX3_end_11 : decode cX3_end 11 = .ok (.getfield 9, 3) := by decide +kernel
theorem dX3_end_14 : decode cX3_end 14 = .ok (.iload_n 3, 1) := by decide +kernel
theorem dX3_end_15 : decode cX3_end 15 = .ok (.iaload, 1) := by decide +kernel
theorem dX3_end_16 : decode cX3_end 16 = .ok (.iconst (-1), 1) := by decide +kernel
theorem dX3_end_17 : decode cX3_end 17 = .ok (.if_icmp .eq 13, 3) := by decide +kernel
theorem dX3_end_20 : decode cX3_end 20 = .ok (.iload_n 2, 1) := by decide +kernel
theorem dX3_end_21 : decode cX3_end 21 = .ok (.iload_n 1, 1) := by decide +kernel
theorem dX3_end_22 : decode cX3_end 22 = .ok (.if_icmp .ne 5, 3) := by decide +kernel
theorem dX3_end_25 : decode cX3_end 25 = .ok (.iload_n 3, 1) := by decide +kernel
theorem dX3_end_26 : decode cX3_end 26 = .ok (.ireturn, 1) := by decide +kernel
theorem dX3_end_27 : decode cX3_end 27 = .ok (.iinc 2 1, 3) := by decide +kernel
theorem dX3_end_30 : decode cX3_end 30 = .ok (.iinc 3 1, 3) := by decide +kernel
theorem dX3_end_33 : decode cX3_end 33 = .ok (.goto (-29), 3) := by decide +kernel
theorem dX3_end_36 : decode cX3_end 36 = .ok (.iconst (-1), 1) := by decide +kernel
theorem dX3_end_37 : decode cX3_end 37 = .ok (.ireturn, 1) := by decide +kernel
theorem dX3_cellBehind_0 : decode cX3_cellBehind 0 = .ok (.aload_n 0, 1) := by decide +kernel
theorem dX3_cellBehind_1 : decode cX3_cellBehind 1 = .ok (.iload_n 2, 1) := by decide +kernel
theorem dX3_cellBehind_2 : decode cX3_cellBehind 2 = .ok (.iload_n 1, 1) := by decide +kernel
theorem dX3_cellBehind_3 : decode cX3_cellBehind 3 = .ok (.invokevirtual 35, 3) := by decide +kernel
theorem dX3_cellBehind_6 : decode cX3_cellBehind 6 = .ok (.iload_n 1, 1) := by decide +kernel
theorem dX3_cellBehind_7 : decode cX3_cellBehind 7 = .ok (.istore 4, 2) := by decide +kernel
theorem dX3_cellBehind_9 : decode cX3_cellBehind 9 = .ok (.iconst 0, 1) := by decide +kernel
theorem dX3_cellBehind_10 : decode cX3_cellBehind 10 = .ok (.istore 5, 2) := by decide +kernel
theorem dX3_cellBehind_12 : decode cX3_cellBehind 12 = .ok (.iload 5, 2) := by decide +kernel
theorem dX3_cellBehind_14 : decode cX3_cellBehind 14 = .ok (.iload_n 3, 1) := by decide +kernel
theorem dX3_cellBehind_15 : decode cX3_cellBehind 15 = .ok (.if_icmp .gt 24, 3) := by decide +kernel
theorem dX3_cellBehind_18 : decode cX3_cellBehind 18 = .ok (.iload 4, 2) := by decide +kernel
theorem dX3_cellBehind_20 : decode cX3_cellBehind 20 = .ok (.iconst (-1), 1) := by decide +kernel
theorem dX3_cellBehind_21 : decode cX3_cellBehind 21 = .ok (.if_icmp .eq 18, 3) := by decide +kernel
theorem dX3_cellBehind_24 : decode cX3_cellBehind 24 = .ok (.aload_n 0, 1) := by decide +kernel
theorem dX3_cellBehind_25 : decode cX3_cellBehind 25 = .ok (.iload 4, 2) := by decide +kernel
theorem dX3_cellBehind_27 : decode cX3_cellBehind 27 = .ok (.iload_n 1, 1) := by decide +kernel
theorem dX3_cellBehind_28 : decode cX3_cellBehind 28 = .ok (.invokevirtual 56, 3) := by decide +kernel
theorem dX3_cellBehind_31 : decode cX3_cellBehind 31 = .ok (.istore 4, 2) := by decide +kernel
theorem dX3_cellBehind_33 : decode cX3_cellBehind 33 = .ok (.iinc 5 1, 3) := by decide +kernel
theorem dX3_cellBehind_36 : decode cX3_cellBehind 36 = .ok (.goto (-24), 3) := by decide +kernel
theorem dX3_cellBehind_39 : decode cX3_cellBehind 39 = .ok (.iload 4, 2) := by decide +kernel
theorem dX3_cellBehind_41 : decode cX3_cellBehind 41 = .ok (.ireturn, 1) := by decide +kernel
theorem dX3_lowestNearer_0 : decode cX3_lowestNearer 0 = .ok (.iconst (-1), 1) := by decide +kernel
theorem dX3_lowestNearer_1 : decode cX3_lowestNearer 1 = .ok (.istore_n 3, 1) := by decide +kernel
theorem dX3_lowestNearer_2 : decode cX3_lowestNearer 2 = .ok (.iconst 0, 1) := by decide +kernel
theorem dX3_lowestNearer_3 : decode cX3_lowestNearer 3 = .ok (.istore 4, 2) := by decide +kernel
theorem dX3_lowestNearer_5 : decode cX3_lowestNearer 5 = .ok (.iload 4, 2) := by decide +kernel
theorem dX3_lowestNearer_7 : decode cX3_lowestNearer 7 = .ok (.bipush 6, 2) := by decide +kernel
theorem dX3_lowestNearer_9 : decode cX3_lowestNearer 9 = .ok (.if_icmp .ge 69, 3) := by decide +kernel
theorem dX3_lowestNearer_12 : decode cX3_lowestNearer 12 = .ok (.aload_n 0, 1) := by decide +kernel
theorem dX3_lowestNearer_13 : decode cX3_lowestNearer 13 = .ok (.iload_n 1, 1) := by decide +kernel
theorem dX3_lowestNearer_14 : decode cX3_lowestNearer 14 = .ok (.iload 4, 2) := by decide +kernel
theorem dX3_lowestNearer_16 : decode cX3_lowestNearer 16 = .ok (.iload_n 2, 1) := by decide +kernel
theorem dX3_lowestNearer_17 : decode cX3_lowestNearer 17 = .ok (.invokevirtual 59, 3) := by decide +kernel
theorem dX3_lowestNearer_20 : decode cX3_lowestNearer 20 = .ok (.istore 5, 2) := by decide +kernel
theorem dX3_lowestNearer_22 : decode cX3_lowestNearer 22 = .ok (.iload 5, 2) := by decide +kernel
theorem dX3_lowestNearer_24 : decode cX3_lowestNearer 24 = .ok (.iconst (-1), 1) := by decide +kernel
theorem dX3_lowestNearer_25 : decode cX3_lowestNearer 25 = .ok (.if_icmp .eq 25, 3) := by decide +kernel
theorem dX3_lowestNearer_28 : decode cX3_lowestNearer 28 = .ok (.aload_n 0, 1) := by decide +kernel
theorem dX3_lowestNearer_29 : decode cX3_lowestNearer 29 = .ok (.getfield 15, 3) := by decide +kernel
theorem dX3_lowestNearer_32 : decode cX3_lowestNearer 32 = .ok (.iload 5, 2) := by decide +kernel
theorem dX3_lowestNearer_34 : decode cX3_lowestNearer 34 = .ok (.iaload, 1) := by decide +kernel
theorem dX3_lowestNearer_35 : decode cX3_lowestNearer 35 = .ok (.aload_n 0, 1) := by decide +kernel
theorem dX3_lowestNearer_36 : decode cX3_lowestNearer 36 = .ok (.getfield 15, 3) := by decide +kernel
theorem dX3_lowestNearer_39 : decode cX3_lowestNearer 39 = .ok (.iload_n 1, 1) := by decide +kernel
theorem dX3_lowestNearer_40 : decode cX3_lowestNearer 40 = .ok (.iaload, 1) := by decide +kernel
theorem dX3_lowestNearer_41 : decode cX3_lowestNearer 41 = .ok (.iconst 1, 1) := by decide +kernel
theorem dX3_lowestNearer_42 : decode cX3_lowestNearer 42 = .ok (.isub, 1) := by decide +kernel
theorem dX3_lowestNearer_43 : decode cX3_lowestNearer 43 = .ok (.if_icmp .ne 7, 3) := by decide +kernel
theorem dX3_lowestNearer_46 : decode cX3_lowestNearer 46 = .ok (.iconst 1, 1) := by decide +kernel
theorem dX3_lowestNearer_47 : decode cX3_lowestNearer 47 = .ok (.goto 4, 3) := by decide +kernel
theorem dX3_lowestNearer_50 : decode cX3_lowestNearer 50 = .ok (.iconst 0, 1) := by decide +kernel
theorem dX3_lowestNearer_51 : decode cX3_lowestNearer 51 = .ok (.istore 6, 2) := by decide +kernel
theorem dX3_lowestNearer_53 : decode cX3_lowestNearer 53 = .ok (.iload 6, 2) := by decide +kernel
theorem dX3_lowestNearer_55 : decode cX3_lowestNearer 55 = .ok (.ifCond .eq 17, 3) := by decide +kernel
theorem dX3_lowestNearer_58 : decode cX3_lowestNearer 58 = .ok (.iload_n 3, 1) := by decide +kernel
theorem dX3_lowestNearer_59 : decode cX3_lowestNearer 59 = .ok (.iconst (-1), 1) := by decide +kernel
theorem dX3_lowestNearer_60 : decode cX3_lowestNearer 60 = .ok (.if_icmp .eq 9, 3) := by decide +kernel
theorem dX3_lowestNearer_63 : decode cX3_lowestNearer 63 = .ok (.iload 5, 2) := by decide +kernel
theorem dX3_lowestNearer_65 : decode cX3_lowestNearer 65 = .ok (.iload_n 3, 1) := by decide +kernel
theorem dX3_lowestNearer_66 : decode cX3_lowestNearer 66 = .ok (.if_icmp .ge 6, 3) := by decide +kernel
theorem dX3_lowestNearer_69 : decode cX3_lowestNearer 69 = .ok (.iload 5, 2) := by decide +kernel
theorem dX3_lowestNearer_71 : decode cX3_lowestNearer 71 = .ok (.istore_n 3, 1) := by decide +kernel
theorem dX3_lowestNearer_72 : decode cX3_lowestNearer 72 = .ok (.iinc 4 1, 3) := by decide +kernel
theorem dX3_lowestNearer_75 : decode cX3_lowestNearer 75 = .ok (.goto (-70), 3) := by decide +kernel
theorem dX3_lowestNearer_78 : decode cX3_lowestNearer 78 = .ok (.iload_n 3, 1) := by decide +kernel
theorem dX3_lowestNearer_79 : decode cX3_lowestNearer 79 = .ok (.ireturn, 1) := by decide +kernel
theorem dX3_spread_0 : decode cX3_spread 0 = .ok (.iconst 0, 1) := by decide +kernel
theorem dX3_spread_1 : decode cX3_spread 1 = .ok (.istore_n 3, 1) := by decide +kernel
theorem dX3_spread_2 : decode cX3_spread 2 = .ok (.iload_n 3, 1) := by decide +kernel
theorem dX3_spread_3 : decode cX3_spread 3 = .ok (.bipush 121, 2) := by decide +kernel
theorem dX3_spread_5 : decode cX3_spread 5 = .ok (.if_icmp .ge 16, 3) := by decide +kernel
theorem dX3_spread_8 : decode cX3_spread 8 = .ok (.aload_n 0, 1) := by decide +kernel
theorem dX3_spread_9 : decode cX3_spread 9 = .ok (.getfield 15, 3) := by decide +kernel
theorem dX3_spread_12 : decode cX3_spread 12 = .ok (.iload_n 3, 1) := by decide +kernel
theorem dX3_spread_13 : decode cX3_spread 13 = .ok (.iconst (-1), 1) := by decide +kernel
theorem dX3_spread_14 : decode cX3_spread 14 = .ok (.iastore, 1) := by decide +kernel
theorem dX3_spread_15 : decode cX3_spread 15 = .ok (.iinc 3 1, 3) := by decide +kernel
theorem dX3_spread_18 : decode cX3_spread 18 = .ok (.goto (-16), 3) := by decide +kernel
theorem dX3_spread_21 : decode cX3_spread 21 = .ok (.iload_n 1, 1) := by decide +kernel
theorem dX3_spread_22 : decode cX3_spread 22 = .ok (.invokestatic 53, 3) := by decide +kernel
theorem dX3_spread_25 : decode cX3_spread 25 = .ok (.ifCond .ne 4, 3) := by decide +kernel
theorem dX3_spread_28 : decode cX3_spread 28 = .ok (.return_, 1) := by decide +kernel
theorem dX3_spread_29 : decode cX3_spread 29 = .ok (.aload_n 0, 1) := by decide +kernel
theorem dX3_spread_30 : decode cX3_spread 30 = .ok (.getfield 15, 3) := by decide +kernel
theorem dX3_spread_33 : decode cX3_spread 33 = .ok (.iload_n 1, 1) := by decide +kernel
theorem dX3_spread_34 : decode cX3_spread 34 = .ok (.iconst 0, 1) := by decide +kernel
theorem dX3_spread_35 : decode cX3_spread 35 = .ok (.iastore, 1) := by decide +kernel
theorem dX3_spread_36 : decode cX3_spread 36 = .ok (.aload_n 0, 1) := by decide +kernel
theorem dX3_spread_37 : decode cX3_spread 37 = .ok (.getfield 18, 3) := by decide +kernel
theorem dX3_spread_40 : decode cX3_spread 40 = .ok (.iconst 0, 1) := by decide +kernel
theorem dX3_spread_41 : decode cX3_spread 41 = .ok (.iload_n 1, 1) := by decide +kernel
theorem dX3_spread_42 : decode cX3_spread 42 = .ok (.iastore, 1) := by decide +kernel
theorem dX3_spread_43 : decode cX3_spread 43 = .ok (.iconst 1, 1) := by decide +kernel
theorem dX3_spread_44 : decode cX3_spread 44 = .ok (.istore_n 3, 1) := by decide +kernel
theorem dX3_spread_45 : decode cX3_spread 45 = .ok (.iconst 0, 1) := by decide +kernel
theorem dX3_spread_46 : decode cX3_spread 46 = .ok (.istore 4, 2) := by decide +kernel
theorem dX3_spread_48 : decode cX3_spread 48 = .ok (.iload 4, 2) := by decide +kernel
theorem dX3_spread_50 : decode cX3_spread 50 = .ok (.iload_n 3, 1) := by decide +kernel
theorem dX3_spread_51 : decode cX3_spread 51 = .ok (.if_icmp .ge 102, 3) := by decide +kernel
theorem dX3_spread_54 : decode cX3_spread 54 = .ok (.iload 4, 2) := by decide +kernel
theorem dX3_spread_56 : decode cX3_spread 56 = .ok (.bipush 121, 2) := by decide +kernel
theorem dX3_spread_58 : decode cX3_spread 58 = .ok (.if_icmp .ge 95, 3) := by decide +kernel
theorem dX3_spread_61 : decode cX3_spread 61 = .ok (.aload_n 0, 1) := by decide +kernel
theorem dX3_spread_62 : decode cX3_spread 62 = .ok (.getfield 18, 3) := by decide +kernel
theorem dX3_spread_65 : decode cX3_spread 65 = .ok (.iload 4, 2) := by decide +kernel
theorem dX3_spread_67 : decode cX3_spread 67 = .ok (.iaload, 1) := by decide +kernel
theorem dX3_spread_68 : decode cX3_spread 68 = .ok (.istore 5, 2) := by decide +kernel
theorem dX3_spread_70 : decode cX3_spread 70 = .ok (.iconst 0, 1) := by decide +kernel
theorem dX3_spread_71 : decode cX3_spread 71 = .ok (.istore 6, 2) := by decide +kernel
theorem dX3_spread_73 : decode cX3_spread 73 = .ok (.iload 6, 2) := by decide +kernel
theorem dX3_spread_75 : decode cX3_spread 75 = .ok (.bipush 6, 2) := by decide +kernel
theorem dX3_spread_77 : decode cX3_spread 77 = .ok (.if_icmp .ge 70, 3) := by decide +kernel
theorem dX3_spread_80 : decode cX3_spread 80 = .ok (.aload_n 0, 1) := by decide +kernel
theorem dX3_spread_81 : decode cX3_spread 81 = .ok (.iload 5, 2) := by decide +kernel
theorem dX3_spread_83 : decode cX3_spread 83 = .ok (.iload 6, 2) := by decide +kernel
theorem dX3_spread_85 : decode cX3_spread 85 = .ok (.iload_n 2, 1) := by decide +kernel
theorem dX3_spread_86 : decode cX3_spread 86 = .ok (.invokevirtual 59, 3) := by decide +kernel
theorem dX3_spread_89 : decode cX3_spread 89 = .ok (.istore 7, 2) := by decide +kernel
theorem dX3_spread_91 : decode cX3_spread 91 = .ok (.iload 7, 2) := by decide +kernel
theorem dX3_spread_93 : decode cX3_spread 93 = .ok (.iconst (-1), 1) := by decide +kernel
theorem dX3_spread_94 : decode cX3_spread 94 = .ok (.if_icmp .eq 47, 3) := by decide +kernel
theorem dX3_spread_97 : decode cX3_spread 97 = .ok (.aload_n 0, 1) := by decide +kernel
theorem dX3_spread_98 : decode cX3_spread 98 = .ok (.getfield 15, 3) := by decide +kernel
theorem dX3_spread_101 : decode cX3_spread 101 = .ok (.iload 7, 2) := by decide +kernel
theorem dX3_spread_103 : decode cX3_spread 103 = .ok (.iaload, 1) := by decide +kernel
theorem dX3_spread_104 : decode cX3_spread 104 = .ok (.iconst (-1), 1) := by decide +kernel
theorem dX3_spread_105 : decode cX3_spread 105 = .ok (.if_icmp .ne 36, 3) := by decide +kernel
theorem dX3_spread_108 : decode cX3_spread 108 = .ok (.iload_n 3, 1) := by decide +kernel
theorem dX3_spread_109 : decode cX3_spread 109 = .ok (.bipush 121, 2) := by decide +kernel
theorem dX3_spread_111 : decode cX3_spread 111 = .ok (.if_icmp .ge 30, 3) := by decide +kernel
theorem dX3_spread_114 : decode cX3_spread 114 = .ok (.aload_n 0, 1) := by decide +kernel
theorem dX3_spread_115 : decode cX3_spread 115 = .ok (.getfield 15, 3) := by decide +kernel
theorem dX3_spread_118 : decode cX3_spread 118 = .ok (.iload 7, 2) := by decide +kernel
theorem dX3_spread_120 : decode cX3_spread 120 = .ok (.aload_n 0, 1) := by decide +kernel
theorem dX3_spread_121 : decode cX3_spread 121 = .ok (.getfield 15, 3) := by decide +kernel
theorem dX3_spread_124 : decode cX3_spread 124 = .ok (.iload 5, 2) := by decide +kernel
theorem dX3_spread_126 : decode cX3_spread 126 = .ok (.iaload, 1) := by decide +kernel
theorem dX3_spread_127 : decode cX3_spread 127 = .ok (.iconst 1, 1) := by decide +kernel
theorem dX3_spread_128 : decode cX3_spread 128 = .ok (.iadd, 1) := by decide +kernel
theorem dX3_spread_129 : decode cX3_spread 129 = .ok (.iastore, 1) := by decide +kernel
theorem dX3_spread_130 : decode cX3_spread 130 = .ok (.aload_n 0, 1) := by decide +kernel
theorem dX3_spread_131 : decode cX3_spread 131 = .ok (.getfield 18, 3) := by decide +kernel
theorem dX3_spread_134 : decode cX3_spread 134 = .ok (.iload_n 3, 1) := by decide +kernel
theorem dX3_spread_135 : decode cX3_spread 135 = .ok (.iload 7, 2) := by decide +kernel
theorem dX3_spread_137 : decode cX3_spread 137 = .ok (.iastore, 1) := by decide +kernel
theorem dX3_spread_138 : decode cX3_spread 138 = .ok (.iinc 3 1, 3) := by decide +kernel
theorem dX3_spread_141 : decode cX3_spread 141 = .ok (.iinc 6 1, 3) := by decide +kernel
theorem dX3_spread_144 : decode cX3_spread 144 = .ok (.goto (-71), 3) := by decide +kernel
theorem dX3_spread_147 : decode cX3_spread 147 = .ok (.iinc 4 1, 3) := by decide +kernel
theorem dX3_spread_150 : decode cX3_spread 150 = .ok (.goto (-102), 3) := by decide +kernel
theorem dX3_spread_153 : decode cX3_spread 153 = .ok (.return_, 1) := by decide +kernel
theorem dX3_landing_0 : decode cX3_landing 0 = .ok (.aload_n 0, 1) := by decide +kernel
theorem dX3_landing_1 : decode cX3_landing 1 = .ok (.getfield 21, 3) := by decide +kernel
theorem dX3_landing_4 : decode cX3_landing 4 = .ok (.iload_n 1, 1) := by decide +kernel
theorem dX3_landing_5 : decode cX3_landing 5 = .ok (.iload_n 2, 1) := by decide +kernel
theorem dX3_landing_6 : decode cX3_landing 6 = .ok (.invokevirtual 45, 3) := by decide +kernel
theorem dX3_landing_9 : decode cX3_landing 9 = .ok (.istore 4, 2) := by decide +kernel
theorem dX3_landing_11 : decode cX3_landing 11 = .ok (.iload 4, 2) := by decide +kernel
theorem dX3_landing_13 : decode cX3_landing 13 = .ok (.iconst (-1), 1) := by decide +kernel
theorem dX3_landing_14 : decode cX3_landing 14 = .ok (.if_icmp .eq 21, 3) := by decide +kernel
theorem dX3_landing_17 : decode cX3_landing 17 = .ok (.iload 4, 2) := by decide +kernel
theorem dX3_landing_19 : decode cX3_landing 19 = .ok (.iload_n 3, 1) := by decide +kernel
theorem dX3_landing_20 : decode cX3_landing 20 = .ok (.if_icmp .eq 15, 3) := by decide +kernel
theorem dX3_landing_23 : decode cX3_landing 23 = .ok (.aload_n 0, 1) := by decide +kernel
theorem dX3_landing_24 : decode cX3_landing 24 = .ok (.getfield 25, 3) := by decide +kernel
theorem dX3_landing_27 : decode cX3_landing 27 = .ok (.iload 4, 2) := by decide +kernel
theorem dX3_landing_29 : decode cX3_landing 29 = .ok (.invokevirtual 49, 3) := by decide +kernel
theorem dX3_landing_32 : decode cX3_landing 32 = .ok (.ifCond .eq 5, 3) := by decide +kernel
theorem dX3_landing_35 : decode cX3_landing 35 = .ok (.iconst (-1), 1) := by decide +kernel
theorem dX3_landing_36 : decode cX3_landing 36 = .ok (.ireturn, 1) := by decide +kernel
theorem dX3_landing_37 : decode cX3_landing 37 = .ok (.aload_n 0, 1) := by decide +kernel
theorem dX3_landing_38 : decode cX3_landing 38 = .ok (.getfield 21, 3) := by decide +kernel
theorem dX3_landing_41 : decode cX3_landing 41 = .ok (.iload 4, 2) := by decide +kernel
theorem dX3_landing_43 : decode cX3_landing 43 = .ok (.iload_n 2, 1) := by decide +kernel
theorem dX3_landing_44 : decode cX3_landing 44 = .ok (.invokevirtual 45, 3) := by decide +kernel
theorem dX3_landing_47 : decode cX3_landing 47 = .ok (.istore 5, 2) := by decide +kernel
theorem dX3_landing_49 : decode cX3_landing 49 = .ok (.iload 5, 2) := by decide +kernel
theorem dX3_landing_51 : decode cX3_landing 51 = .ok (.iload_n 3, 1) := by decide +kernel
theorem dX3_landing_52 : decode cX3_landing 52 = .ok (.if_icmp .eq 15, 3) := by decide +kernel
theorem dX3_landing_55 : decode cX3_landing 55 = .ok (.aload_n 0, 1) := by decide +kernel
theorem dX3_landing_56 : decode cX3_landing 56 = .ok (.getfield 25, 3) := by decide +kernel
theorem dX3_landing_59 : decode cX3_landing 59 = .ok (.iload 5, 2) := by decide +kernel
theorem dX3_landing_61 : decode cX3_landing 61 = .ok (.invokevirtual 49, 3) := by decide +kernel
theorem dX3_landing_64 : decode cX3_landing 64 = .ok (.ifCond .eq 8, 3) := by decide +kernel
theorem dX3_landing_67 : decode cX3_landing 67 = .ok (.iload 5, 2) := by decide +kernel
theorem dX3_landing_69 : decode cX3_landing 69 = .ok (.goto 4, 3) := by decide +kernel
theorem dX3_landing_72 : decode cX3_landing 72 = .ok (.iconst (-1), 1) := by decide +kernel
theorem dX3_landing_73 : decode cX3_landing 73 = .ok (.ireturn, 1) := by decide +kernel
theorem dX3_mayEnd_0 : decode cX3_mayEnd 0 = .ok (.iload_n 1, 1) := by decide +kernel
theorem dX3_mayEnd_1 : decode cX3_mayEnd 1 = .ok (.invokestatic 63, 3) := by decide +kernel
theorem dX3_mayEnd_4 : decode cX3_mayEnd 4 = .ok (.istore 4, 2) := by decide +kernel
theorem dX3_mayEnd_6 : decode cX3_mayEnd 6 = .ok (.aload_n 0, 1) := by decide +kernel
theorem dX3_mayEnd_7 : decode cX3_mayEnd 7 = .ok (.getfield 21, 3) := by decide +kernel
theorem dX3_mayEnd_10 : decode cX3_mayEnd 10 = .ok (.iload_n 3, 1) := by decide +kernel
theorem dX3_mayEnd_11 : decode cX3_mayEnd 11 = .ok (.invokevirtual 66, 3) := by decide +kernel
theorem dX3_mayEnd_14 : decode cX3_mayEnd 14 = .ok (.istore 5, 2) := by decide +kernel
theorem dX3_mayEnd_16 : decode cX3_mayEnd 16 = .ok (.aload_n 0, 1) := by decide +kernel
theorem dX3_mayEnd_17 : decode cX3_mayEnd 17 = .ok (.getfield 21, 3) := by decide +kernel
theorem dX3_mayEnd_20 : decode cX3_mayEnd 20 = .ok (.iload_n 2, 1) := by decide +kernel
theorem dX3_mayEnd_21 : decode cX3_mayEnd 21 = .ok (.invokevirtual 66, 3) := by decide +kernel
theorem dX3_mayEnd_24 : decode cX3_mayEnd 24 = .ok (.iload 4, 2) := by decide +kernel
theorem dX3_mayEnd_26 : decode cX3_mayEnd 26 = .ok (.if_icmp .ne 16, 3) := by decide +kernel
theorem dX3_mayEnd_29 : decode cX3_mayEnd 29 = .ok (.iload 5, 2) := by decide +kernel
theorem dX3_mayEnd_31 : decode cX3_mayEnd 31 = .ok (.iload 4, 2) := by decide +kernel
theorem dX3_mayEnd_33 : decode cX3_mayEnd 33 = .ok (.if_icmp .ne 7, 3) := by decide +kernel
theorem dX3_mayEnd_36 : decode cX3_mayEnd 36 = .ok (.iconst 1, 1) := by decide +kernel
theorem dX3_mayEnd_37 : decode cX3_mayEnd 37 = .ok (.goto 4, 3) := by decide +kernel
theorem dX3_mayEnd_40 : decode cX3_mayEnd 40 = .ok (.iconst 0, 1) := by decide +kernel
theorem dX3_mayEnd_41 : decode cX3_mayEnd 41 = .ok (.ireturn, 1) := by decide +kernel
theorem dX3_mayEnd_42 : decode cX3_mayEnd 42 = .ok (.iload 5, 2) := by decide +kernel
theorem dX3_mayEnd_44 : decode cX3_mayEnd 44 = .ok (.iconst (-1), 1) := by decide +kernel
theorem dX3_mayEnd_45 : decode cX3_mayEnd 45 = .ok (.if_icmp .eq 16, 3) := by decide +kernel
theorem dX3_mayEnd_48 : decode cX3_mayEnd 48 = .ok (.iload 5, 2) := by decide +kernel
theorem dX3_mayEnd_50 : decode cX3_mayEnd 50 = .ok (.iload_n 1, 1) := by decide +kernel
theorem dX3_mayEnd_51 : decode cX3_mayEnd 51 = .ok (.if_icmp .eq 10, 3) := by decide +kernel
theorem dX3_mayEnd_54 : decode cX3_mayEnd 54 = .ok (.iload 5, 2) := by decide +kernel
theorem dX3_mayEnd_56 : decode cX3_mayEnd 56 = .ok (.iload 4, 2) := by decide +kernel
theorem dX3_mayEnd_58 : decode cX3_mayEnd 58 = .ok (.if_icmp .ne 7, 3) := by decide +kernel
theorem dX3_mayEnd_61 : decode cX3_mayEnd 61 = .ok (.iconst 1, 1) := by decide +kernel
theorem dX3_mayEnd_62 : decode cX3_mayEnd 62 = .ok (.goto 4, 3) := by decide +kernel
theorem dX3_mayEnd_65 : decode cX3_mayEnd 65 = .ok (.iconst 0, 1) := by decide +kernel
theorem dX3_mayEnd_66 : decode cX3_mayEnd 66 = .ok (.ireturn, 1) := by decide +kernel
theorem dX4_init_0 : decode cX4_init 0 = .ok (.aload_n 0, 1) := by decide +kernel
theorem dX4_init_1 : decode cX4_init 1 = .ok (.invokespecial 3, 3) := by decide +kernel
theorem dX4_init_4 : decode cX4_init 4 = .ok (.aload_n 0, 1) := by decide +kernel
theorem dX4_init_5 : decode cX4_init 5 = .ok (.bipush 6, 2) := by decide +kernel
theorem dX4_init_7 : decode cX4_init 7 = .ok (.newarray .int, 2) := by decide +kernel
theorem dX4_init_9 : decode cX4_init 9 = .ok (.putfield 9, 3) := by decide +kernel
theorem dX4_init_12 : decode cX4_init 12 = .ok (.aload_n 0, 1) := by decide +kernel
theorem dX4_init_13 : decode cX4_init 13 = .ok (.bipush 6, 2) := by decide +kernel
theorem dX4_init_15 : decode cX4_init 15 = .ok (.newarray .int, 2) := by decide +kernel
theorem dX4_init_17 : decode cX4_init 17 = .ok (.putfield 15, 3) := by decide +kernel
theorem dX4_init_20 : decode cX4_init 20 = .ok (.aload_n 0, 1) := by decide +kernel
theorem dX4_init_21 : decode cX4_init 21 = .ok (.aload_n 1, 1) := by decide +kernel
theorem dX4_init_22 : decode cX4_init 22 = .ok (.putfield 18, 3) := by decide +kernel
theorem dX4_init_25 : decode cX4_init 25 = .ok (.aload_n 0, 1) := by decide +kernel
theorem dX4_init_26 : decode cX4_init 26 = .ok (.iconst (-1), 1) := by decide +kernel
theorem dX4_init_27 : decode cX4_init 27 = .ok (.putfield 22, 3) := by decide +kernel
theorem dX4_init_30 : decode cX4_init 30 = .ok (.return_, 1) := by decide +kernel
theorem dX4_setUp_0 : decode cX4_setUp 0 = .ok (.aload_n 0, 1) := by decide +kernel
theorem dX4_setUp_1 : decode cX4_setUp 1 = .ok (.iload_n 1, 1) := by decide +kernel
theorem dX4_setUp_2 : decode cX4_setUp 2 = .ok (.putfield 26, 3) := by decide +kernel
theorem dX4_setUp_5 : decode cX4_setUp 5 = .ok (.aload_n 0, 1) := by decide +kernel
theorem dX4_setUp_6 : decode cX4_setUp 6 = .ok (.iconst 0, 1) := by decide +kernel
theorem dX4_setUp_7 : decode cX4_setUp 7 = .ok (.putfield 29, 3) := by decide +kernel
theorem dX4_setUp_10 : decode cX4_setUp 10 = .ok (.aload_n 0, 1) := by decide +kernel
theorem dX4_setUp_11 : decode cX4_setUp 11 = .ok (.iconst 0, 1) := by decide +kernel
theorem dX4_setUp_12 : decode cX4_setUp 12 = .ok (.putfield 32, 3) := by decide +kernel
theorem dX4_setUp_15 : decode cX4_setUp 15 = .ok (.aload_n 0, 1) := by decide +kernel
theorem dX4_setUp_16 : decode cX4_setUp 16 = .ok (.iconst (-1), 1) := by decide +kernel
theorem dX4_setUp_17 : decode cX4_setUp 17 = .ok (.putfield 22, 3) := by decide +kernel
theorem dX4_setUp_20 : decode cX4_setUp 20 = .ok (.iconst 5, 1) := by decide +kernel
theorem dX4_setUp_21 : decode cX4_setUp 21 = .ok (.istore_n 2, 1) := by decide +kernel
theorem dX4_setUp_22 : decode cX4_setUp 22 = .ok (.iload_n 2, 1) := by decide +kernel
theorem dX4_setUp_23 : decode cX4_setUp 23 = .ok (.ifCond .lt 29, 3) := by decide +kernel
theorem dX4_setUp_26 : decode cX4_setUp 26 = .ok (.aload_n 0, 1) := by decide +kernel
theorem dX4_setUp_27 : decode cX4_setUp 27 = .ok (.getfield 9, 3) := by decide +kernel
theorem dX4_setUp_30 : decode cX4_setUp 30 = .ok (.iload_n 2, 1) := by decide +kernel
theorem dX4_setUp_31 : decode cX4_setUp 31 = .ok (.iconst 0, 1) := by decide +kernel
theorem dX4_setUp_32 : decode cX4_setUp 32 = .ok (.iastore, 1) := by decide +kernel
theorem dX4_setUp_33 : decode cX4_setUp 33 = .ok (.aload_n 0, 1) := by decide +kernel
theorem dX4_setUp_34 : decode cX4_setUp 34 = .ok (.iload_n 2, 1) := by decide +kernel
theorem dX4_setUp_35 : decode cX4_setUp 35 = .ok (.invokevirtual 35, 3) := by decide +kernel
theorem dX4_setUp_38 : decode cX4_setUp 38 = .ok (.ifCond .eq 8, 3) := by decide +kernel
theorem dX4_setUp_41 : decode cX4_setUp 41 = .ok (.aload_n 0, 1) := by decide +kernel
theorem dX4_setUp_42 : decode cX4_setUp 42 = .ok (.iload_n 2, 1) := by decide +kernel
theorem dX4_setUp_43 : decode cX4_setUp 43 = .ok (.putfield 22, 3) := by decide +kernel
theorem dX4_setUp_46 : decode cX4_setUp 46 = .ok (.iinc 2 (-1), 3) := by decide +kernel
theorem dX4_setUp_49 : decode cX4_setUp 49 = .ok (.goto (-27), 3) := by decide +kernel
theorem dX4_setUp_52 : decode cX4_setUp 52 = .ok (.return_, 1) := by decide +kernel
theorem dX4_onTurn_0 : decode cX4_onTurn 0 = .ok (.aload_n 0, 1) := by decide +kernel
theorem dX4_onTurn_1 : decode cX4_onTurn 1 = .ok (.getfield 22, 3) := by decide +kernel
theorem dX4_onTurn_4 : decode cX4_onTurn 4 = .ok (.ireturn, 1) := by decide +kernel
theorem dX4_outSet_0 : decode cX4_outSet 0 = .ok (.aload_n 0, 1) := by decide +kernel
theorem dX4_outSet_1 : decode cX4_outSet 1 = .ok (.getfield 29, 3) := by decide +kernel
theorem dX4_outSet_4 : decode cX4_outSet 4 = .ok (.ireturn, 1) := by decide +kernel
theorem dX4_placedCount_0 : decode cX4_placedCount 0 = .ok (.aload_n 0, 1) := by decide +kernel
theorem dX4_placedCount_1 : decode cX4_placedCount 1 = .ok (.getfield 32, 3) := by decide +kernel
theorem dX4_placedCount_4 : decode cX4_placedCount 4 = .ok (.ireturn, 1) := by decide +kernel
theorem dX4_plays_0 : decode cX4_plays 0 = .ok (.iload_n 1, 1) := by decide +kernel
theorem dX4_plays_1 : decode cX4_plays 1 = .ok (.invokestatic 39, 3) := by decide +kernel
theorem dX4_plays_4 : decode cX4_plays 4 = .ok (.ifCond .eq 19, 3) := by decide +kernel
theorem dX4_plays_7 : decode cX4_plays 7 = .ok (.aload_n 0, 1) := by decide +kernel
theorem dX4_plays_8 : decode cX4_plays 8 = .ok (.getfield 26, 3) := by decide +kernel
theorem dX4_plays_11 : decode cX4_plays 11 = .ok (.iload_n 1, 1) := by decide +kernel
theorem dX4_plays_12 : decode cX4_plays 12 = .ok (.ishr, 1) := by decide +kernel
theorem dX4_plays_13 : decode cX4_plays 13 = .ok (.iconst 1, 1) := by decide +kernel
theorem dX4_plays_14 : decode cX4_plays 14 = .ok (.iand, 1) := by decide +kernel
theorem dX4_plays_15 : decode cX4_plays 15 = .ok (.iconst 1, 1) := by decide +kernel
theorem dX4_plays_16 : decode cX4_plays 16 = .ok (.if_icmp .ne 7, 3) := by decide +kernel
theorem dX4_plays_19 : decode cX4_plays 19 = .ok (.iconst 1, 1) := by decide +kernel
theorem dX4_plays_20 : decode cX4_plays 20 = .ok (.goto 4, 3) := by decide +kernel
theorem dX4_plays_23 : decode cX4_plays 23 = .ok (.iconst 0, 1) := by decide +kernel
theorem dX4_plays_24 : decode cX4_plays 24 = .ok (.ireturn, 1) := by decide +kernel
theorem dX4_hasDroppedOut_0 : decode cX4_hasDroppedOut 0 = .ok (.iload_n 1, 1) := by decide +kernel
theorem dX4_hasDroppedOut_1 : decode cX4_hasDroppedOut 1 = .ok (.invokestatic 39, 3) := by decide +kernel
theorem dX4_hasDroppedOut_4 : decode cX4_hasDroppedOut 4 = .ok (.ifCond .eq 19, 3) := by decide +kernel
theorem dX4_hasDroppedOut_7 : decode cX4_hasDroppedOut 7 = .ok (.aload_n 0, 1) := by decide +kernel
theorem dX4_hasDroppedOut_8 : decode cX4_hasDroppedOut 8 = .ok (.getfield 29, 3) := by decide +kernel
theorem dX4_hasDroppedOut_11 : decode cX4_hasDroppedOut 11 = .ok (.iload_n 1, 1) := by decide +kernel
theorem dX4_hasDroppedOut_12 : decode cX4_hasDroppedOut 12 = .ok (.ishr, 1) := by decide +kernel
theorem dX4_hasDroppedOut_13 : decode cX4_hasDroppedOut 13 = .ok (.iconst 1, 1) := by decide +kernel
theorem dX4_hasDroppedOut_14 : decode cX4_hasDroppedOut 14 = .ok (.iand, 1) := by decide +kernel
theorem dX4_hasDroppedOut_15 : decode cX4_hasDroppedOut 15 = .ok (.iconst 1, 1) := by decide +kernel
theorem dX4_hasDroppedOut_16 : decode cX4_hasDroppedOut 16 = .ok (.if_icmp .ne 7, 3) := by decide +kernel
theorem dX4_hasDroppedOut_19 : decode cX4_hasDroppedOut 19 = .ok (.iconst 1, 1) := by decide +kernel
theorem dX4_hasDroppedOut_20 : decode cX4_hasDroppedOut 20 = .ok (.goto 4, 3) := by decide +kernel
theorem dX4_hasDroppedOut_23 : decode cX4_hasDroppedOut 23 = .ok (.iconst 0, 1) := by decide +kernel
theorem dX4_hasDroppedOut_24 : decode cX4_hasDroppedOut 24 = .ok (.ireturn, 1) := by decide +kernel
theorem dX4_playerAtPlace_0 : decode cX4_playerAtPlace 0 = .ok (.iload_n 1, 1) := by decide +kernel
theorem dX4_playerAtPlace_1 : decode cX4_playerAtPlace 1 = .ok (.ifCond .lt 26, 3) := by decide +kernel
theorem dX4_playerAtPlace_4 : decode cX4_playerAtPlace 4 = .ok (.iload_n 1, 1) := by decide +kernel
theorem dX4_playerAtPlace_5 : decode cX4_playerAtPlace 5 = .ok (.aload_n 0, 1) := by decide +kernel
theorem dX4_playerAtPlace_6 : decode cX4_playerAtPlace 6 = .ok (.getfield 32, 3) := by decide +kernel
theorem dX4_playerAtPlace_9 : decode cX4_playerAtPlace 9 = .ok (.if_icmp .ge 18, 3) := by decide +kernel
theorem dX4_playerAtPlace_12 : decode cX4_playerAtPlace 12 = .ok (.iload_n 1, 1) := by decide +kernel
theorem dX4_playerAtPlace_13 : decode cX4_playerAtPlace 13 = .ok (.bipush 6, 2) := by decide +kernel
theorem dX4_playerAtPlace_15 : decode cX4_playerAtPlace 15 = .ok (.if_icmp .ge 12, 3) := by decide +kernel
theorem dX4_playerAtPlace_18 : decode cX4_playerAtPlace 18 = .ok (.aload_n 0, 1) := by decide +kernel
theorem dX4_playerAtPlace_19 : decode cX4_playerAtPlace 19 = .ok (.getfield 15, 3) := by decide +kernel
theorem dX4_playerAtPlace_22 : decode cX4_playerAtPlace 22 = .ok (.iload_n 1, 1) := by decide +kernel
theorem dX4_playerAtPlace_23 : decode cX4_playerAtPlace 23 = .ok (.iaload, 1) := by decide +kernel
theorem dX4_playerAtPlace_24 : decode cX4_playerAtPlace 24 = .ok (.goto 4, 3) := by decide +kernel
theorem dX4_playerAtPlace_27 : decode cX4_playerAtPlace 27 = .ok (.iconst (-1), 1) := by decide +kernel
theorem dX4_playerAtPlace_28 : decode cX4_playerAtPlace 28 = .ok (.ireturn, 1) := by decide +kernel
theorem dX4_countMove_0 : decode cX4_countMove 0 = .ok (.aload_n 0, 1) := by decide +kernel
theorem dX4_countMove_1 : decode cX4_countMove 1 = .ok (.getfield 22, 3) := by decide +kernel
theorem dX4_countMove_4 : decode cX4_countMove 4 = .ok (.invokestatic 39, 3) := by decide +kernel
theorem dX4_countMove_7 : decode cX4_countMove 7 = .ok (.ifCond .eq 16, 3) := by decide +kernel
theorem dX4_countMove_10 : decode cX4_countMove 10 = .ok (.aload_n 0, 1) := by decide +kernel
theorem dX4_countMove_11 : decode cX4_countMove 11 = .ok (.getfield 9, 3) := by decide +kernel
theorem dX4_countMove_14 : decode cX4_countMove 14 = .ok (.aload_n 0, 1) := by decide +kernel
theorem dX4_countMove_15 : decode cX4_countMove 15 = .ok (.getfield 22, 3) := by decide +kernel
theorem dX4_countMove_18 : decode cX4_countMove 18 = .ok (.dup2, 1) := by decide +kernel
theorem dX4_countMove_19 : decode cX4_countMove 19 = .ok (.iaload, 1) := by decide +kernel
theorem dX4_countMove_20 : decode cX4_countMove 20 = .ok (.iconst 1, 1) := by decide +kernel
theorem dX4_countMove_21 : decode cX4_countMove 21 = .ok (.iadd, 1) := by decide +kernel
theorem dX4_countMove_22 : decode cX4_countMove 22 = .ok (.iastore, 1) := by decide +kernel
theorem dX4_countMove_23 : decode cX4_countMove 23 = .ok (.return_, 1) := by decide +kernel
theorem dX4_placeFinishers_0 : decode cX4_placeFinishers 0 = .ok (.iconst 0, 1) := by decide +kernel
theorem dX4_placeFinishers_1 : decode cX4_placeFinishers 1 = .ok (.istore_n 2, 1) := by decide +kernel
theorem dX4_placeFinishers_2 : decode cX4_placeFinishers 2 = .ok (.iload_n 2, 1) := by decide +kernel
theorem dX4_placeFinishers_3 : decode cX4_placeFinishers 3 = .ok (.bipush 6, 2) := by decide +kernel
theorem dX4_placeFinishers_5 : decode cX4_placeFinishers 5 = .ok (.if_icmp .ge 55, 3) := by decide +kernel
theorem dX4_placeFinishers_8 : decode cX4_placeFinishers 8 = .ok (.aload_n 0, 1) := by decide +kernel
theorem dX4_placeFinishers_9 : decode cX4_placeFinishers 9 = .ok (.iload_n 2, 1) := by decide +kernel
theorem dX4_placeFinishers_10 : decode cX4_placeFinishers 10 = .ok (.invokevirtual 42, 3) := by decide +kernel
theorem dX4_placeFinishers_13 : decode cX4_placeFinishers 13 = .ok (.ifCond .eq 41, 3) := by decide +kernel
theorem dX4_placeFinishers_16 : decode cX4_placeFinishers 16 = .ok (.aload_n 0, 1) := by decide +kernel
theorem dX4_placeFinishers_17 : decode cX4_placeFinishers 17 = .ok (.iload_n 2, 1) := by decide +kernel
theorem dX4_placeFinishers_18 : decode cX4_placeFinishers 18 = .ok (.iload_n 1, 1) := by decide +kernel
theorem dX4_placeFinishers_19 : decode cX4_placeFinishers 19 = .ok (.invokevirtual 45, 3) := by decide +kernel
theorem dX4_placeFinishers_22 : decode cX4_placeFinishers 22 = .ok (.ifCond .eq 32, 3) := by decide +kernel
theorem dX4_placeFinishers_25 : decode cX4_placeFinishers 25 = .ok (.aload_n 0, 1) := by decide +kernel
theorem dX4_placeFinishers_26 : decode cX4_placeFinishers 26 = .ok (.getfield 32, 3) := by decide +kernel
theorem dX4_placeFinishers_29 : decode cX4_placeFinishers 29 = .ok (.bipush 6, 2) := by decide +kernel
theorem dX4_placeFinishers_31 : decode cX4_placeFinishers 31 = .ok (.if_icmp .ge 23, 3) := by decide +kernel
theorem dX4_placeFinishers_34 : decode cX4_placeFinishers 34 = .ok (.aload_n 0, 1) := by decide +kernel
theorem dX4_placeFinishers_35 : decode cX4_placeFinishers 35 = .ok (.getfield 15, 3) := by decide +kernel
theorem dX4_placeFinishers_38 : decode cX4_placeFinishers 38 = .ok (.aload_n 0, 1) := by decide +kernel
theorem dX4_placeFinishers_39 : decode cX4_placeFinishers 39 = .ok (.getfield 32, 3) := by decide +kernel
theorem dX4_placeFinishers_42 : decode cX4_placeFinishers 42 = .ok (.iload_n 2, 1) := by decide +kernel
theorem dX4_placeFinishers_43 : decode cX4_placeFinishers 43 = .ok (.iastore, 1) := by decide +kernel
theorem dX4_placeFinishers_44 : decode cX4_placeFinishers 44 = .ok (.aload_n 0, 1) := by decide +kernel
theorem dX4_placeFinishers_45 : decode cX4_placeFinishers 45 = .ok (.dup, 1) := by decide +kernel
theorem dX4_placeFinishers_46 : decode cX4_placeFinishers 46 = .ok (.getfield 32, 3) := by decide +kernel
theorem dX4_placeFinishers_49 : decode cX4_placeFinishers 49 = .ok (.iconst 1, 1) := by decide +kernel
theorem dX4_placeFinishers_50 : decode cX4_placeFinishers 50 = .ok (.iadd, 1) := by decide +kernel
theorem dX4_placeFinishers_51 : decode cX4_placeFinishers 51 = .ok (.putfield 32, 3) := by decide +kernel
theorem dX4_placeFinishers_54 : decode cX4_placeFinishers 54 = .ok (.iinc 2 1, 3) := by decide +kernel
theorem dX4_placeFinishers_57 : decode cX4_placeFinishers 57 = .ok (.goto (-55), 3) := by decide +kernel
theorem dX4_placeFinishers_60 : decode cX4_placeFinishers 60 = .ok (.return_, 1) := by decide +kernel
theorem dX4_goOn_0 : decode cX4_goOn 0 = .ok (.aload_n 0, 1) := by decide +kernel
theorem dX4_goOn_1 : decode cX4_goOn 1 = .ok (.getfield 22, 3) := by decide +kernel
theorem dX4_goOn_4 : decode cX4_goOn 4 = .ok (.istore_n 2, 1) := by decide +kernel
theorem dX4_goOn_5 : decode cX4_goOn 5 = .ok (.aload_n 0, 1) := by decide +kernel
theorem dX4_goOn_6 : decode cX4_goOn 6 = .ok (.iconst (-1), 1) := by decide +kernel
theorem dX4_goOn_7 : decode cX4_goOn 7 = .ok (.putfield 22, 3) := by decide +kernel
theorem dX4_goOn_10 : decode cX4_goOn 10 = .ok (.iconst 1, 1) := by decide +kernel
theorem dX4_goOn_11 : decode cX4_goOn 11 = .ok (.istore_n 3, 1) := by decide +kernel
theorem dX4_goOn_12 : decode cX4_goOn 12 = .ok (.iload_n 3, 1) := by decide +kernel
theorem dX4_goOn_13 : decode cX4_goOn 13 = .ok (.bipush 6, 2) := by decide +kernel
theorem dX4_goOn_15 : decode cX4_goOn 15 = .ok (.if_icmp .gt 69, 3) := by decide +kernel
theorem dX4_goOn_18 : decode cX4_goOn 18 = .ok (.aload_n 0, 1) := by decide +kernel
theorem dX4_goOn_19 : decode cX4_goOn 19 = .ok (.getfield 22, 3) := by decide +kernel
theorem dX4_goOn_22 : decode cX4_goOn 22 = .ok (.iconst (-1), 1) := by decide +kernel
theorem dX4_goOn_23 : decode cX4_goOn 23 = .ok (.if_icmp .ne 61, 3) := by decide +kernel
theorem dX4_goOn_26 : decode cX4_goOn 26 = .ok (.iload_n 2, 1) := by decide +kernel
theorem dX4_goOn_27 : decode cX4_goOn 27 = .ok (.iload_n 3, 1) := by decide +kernel
theorem dX4_goOn_28 : decode cX4_goOn 28 = .ok (.iadd, 1) := by decide +kernel
theorem dX4_goOn_29 : decode cX4_goOn 29 = .ok (.bipush 6, 2) := by decide +kernel
theorem dX4_goOn_31 : decode cX4_goOn 31 = .ok (.irem, 1) := by decide +kernel
theorem dX4_goOn_32 : decode cX4_goOn 32 = .ok (.istore 4, 2) := by decide +kernel
theorem dX4_goOn_34 : decode cX4_goOn 34 = .ok (.aload_n 0, 1) := by decide +kernel
theorem dX4_goOn_35 : decode cX4_goOn 35 = .ok (.iload 4, 2) := by decide +kernel
theorem dX4_goOn_37 : decode cX4_goOn 37 = .ok (.invokevirtual 42, 3) := by decide +kernel
theorem dX4_goOn_40 : decode cX4_goOn 40 = .ok (.ifCond .ne 6, 3) := by decide +kernel
theorem dX4_goOn_43 : decode cX4_goOn 43 = .ok (.goto 35, 3) := by decide +kernel
theorem dX4_goOn_46 : decode cX4_goOn 46 = .ok (.aload_n 0, 1) := by decide +kernel
theorem dX4_goOn_47 : decode cX4_goOn 47 = .ok (.iload 4, 2) := by decide +kernel
theorem dX4_goOn_49 : decode cX4_goOn 49 = .ok (.iload_n 1, 1) := by decide +kernel
theorem dX4_goOn_50 : decode cX4_goOn 50 = .ok (.invokevirtual 49, 3) := by decide +kernel
theorem dX4_goOn_53 : decode cX4_goOn 53 = .ok (.ifCond .eq 19, 3) := by decide +kernel
theorem dX4_goOn_56 : decode cX4_goOn 56 = .ok (.aload_n 0, 1) := by decide +kernel
theorem dX4_goOn_57 : decode cX4_goOn 57 = .ok (.dup, 1) := by decide +kernel
theorem dX4_goOn_58 : decode cX4_goOn 58 = .ok (.getfield 29, 3) := by decide +kernel
theorem dX4_goOn_61 : decode cX4_goOn 61 = .ok (.iconst 1, 1) := by decide +kernel
theorem dX4_goOn_62 : decode cX4_goOn 62 = .ok (.iload 4, 2) := by decide +kernel
theorem dX4_goOn_64 : decode cX4_goOn 64 = .ok (.ishl, 1) := by decide +kernel
theorem dX4_goOn_65 : decode cX4_goOn 65 = .ok (.ior, 1) := by decide +kernel
theorem dX4_goOn_66 : decode cX4_goOn 66 = .ok (.putfield 29, 3) := by decide +kernel
theorem dX4_goOn_69 : decode cX4_goOn 69 = .ok (.goto 9, 3) := by decide +kernel
theorem dX4_goOn_72 : decode cX4_goOn 72 = .ok (.aload_n 0, 1) := by decide +kernel
theorem dX4_goOn_73 : decode cX4_goOn 73 = .ok (.iload 4, 2) := by decide +kernel
theorem dX4_goOn_75 : decode cX4_goOn 75 = .ok (.putfield 22, 3) := by decide +kernel
theorem dX4_goOn_78 : decode cX4_goOn 78 = .ok (.iinc 3 1, 3) := by decide +kernel
theorem dX4_goOn_81 : decode cX4_goOn 81 = .ok (.goto (-69), 3) := by decide +kernel
theorem dX4_goOn_84 : decode cX4_goOn 84 = .ok (.return_, 1) := by decide +kernel
theorem dX4_restore_0 : decode cX4_restore 0 = .ok (.aload_n 0, 1) := by decide +kernel
theorem dX4_restore_1 : decode cX4_restore 1 = .ok (.iload_n 1, 1) := by decide +kernel
theorem dX4_restore_2 : decode cX4_restore 2 = .ok (.putfield 22, 3) := by decide +kernel
theorem dX4_restore_5 : decode cX4_restore 5 = .ok (.aload_n 0, 1) := by decide +kernel
theorem dX4_restore_6 : decode cX4_restore 6 = .ok (.iload_n 2, 1) := by decide +kernel
theorem dX4_restore_7 : decode cX4_restore 7 = .ok (.putfield 29, 3) := by decide +kernel
theorem dX4_restore_10 : decode cX4_restore 10 = .ok (.aload_n 0, 1) := by decide +kernel
theorem dX4_restore_11 : decode cX4_restore 11 = .ok (.iload_n 3, 1) := by decide +kernel
theorem dX4_restore_12 : decode cX4_restore 12 = .ok (.putfield 32, 3) := by decide +kernel
theorem dX4_restore_15 : decode cX4_restore 15 = .ok (.aload_n 0, 1) := by decide +kernel
theorem dX4_restore_16 : decode cX4_restore 16 = .ok (.getfield 22, 3) := by decide +kernel
theorem dX4_restore_19 : decode cX4_restore 19 = .ok (.invokestatic 39, 3) := by decide +kernel
theorem dX4_restore_22 : decode cX4_restore 22 = .ok (.ifCond .eq 16, 3) := by decide +kernel
theorem dX4_restore_25 : decode cX4_restore 25 = .ok (.aload_n 0, 1) := by decide +kernel
theorem dX4_restore_26 : decode cX4_restore 26 = .ok (.getfield 9, 3) := by decide +kernel
theorem dX4_restore_29 : decode cX4_restore 29 = .ok (.aload_n 0, 1) := by decide +kernel
theorem dX4_restore_30 : decode cX4_restore 30 = .ok (.getfield 22, 3) := by decide +kernel
theorem dX4_restore_33 : decode cX4_restore 33 = .ok (.dup2, 1) := by decide +kernel
theorem dX4_restore_34 : decode cX4_restore 34 = .ok (.iaload, 1) := by decide +kernel
theorem dX4_restore_35 : decode cX4_restore 35 = .ok (.iconst 1, 1) := by decide +kernel
theorem dX4_restore_36 : decode cX4_restore 36 = .ok (.isub, 1) := by decide +kernel
theorem dX4_restore_37 : decode cX4_restore 37 = .ok (.iastore, 1) := by decide +kernel
theorem dX4_restore_38 : decode cX4_restore 38 = .ok (.return_, 1) := by decide +kernel
theorem dX4_isStillIn_0 : decode cX4_isStillIn 0 = .ok (.aload_n 0, 1) := by decide +kernel
theorem dX4_isStillIn_1 : decode cX4_isStillIn 1 = .ok (.iload_n 1, 1) := by decide +kernel
theorem dX4_isStillIn_2 : decode cX4_isStillIn 2 = .ok (.invokevirtual 35, 3) := by decide +kernel
theorem dX4_isStillIn_5 : decode cX4_isStillIn 5 = .ok (.ifCond .eq 23, 3) := by decide +kernel
theorem dX4_isStillIn_8 : decode cX4_isStillIn 8 = .ok (.aload_n 0, 1) := by decide +kernel
theorem dX4_isStillIn_9 : decode cX4_isStillIn 9 = .ok (.iload_n 1, 1) := by decide +kernel
theorem dX4_isStillIn_10 : decode cX4_isStillIn 10 = .ok (.invokevirtual 52, 3) := by decide +kernel
theorem dX4_isStillIn_13 : decode cX4_isStillIn 13 = .ok (.ifCond .ne 15, 3) := by decide +kernel
theorem dX4_isStillIn_16 : decode cX4_isStillIn 16 = .ok (.aload_n 0, 1) := by decide +kernel
theorem dX4_isStillIn_17 : decode cX4_isStillIn 17 = .ok (.iload_n 1, 1) := by decide +kernel
theorem dX4_isStillIn_18 : decode cX4_isStillIn 18 = .ok (.invokevirtual 55, 3) := by decide +kernel
theorem dX4_isStillIn_21 : decode cX4_isStillIn 21 = .ok (.ifCond .ne 7, 3) := by decide +kernel
theorem dX4_isStillIn_24 : decode cX4_isStillIn 24 = .ok (.iconst 1, 1) := by decide +kernel
theorem dX4_isStillIn_25 : decode cX4_isStillIn 25 = .ok (.goto 4, 3) := by decide +kernel
theorem dX4_isStillIn_28 : decode cX4_isStillIn 28 = .ok (.iconst 0, 1) := by decide +kernel
theorem dX4_isStillIn_29 : decode cX4_isStillIn 29 = .ok (.ireturn, 1) := by decide +kernel
theorem dX4_isPlaced_0 : decode cX4_isPlaced 0 = .ok (.iconst 0, 1) := by decide +kernel
theorem dX4_isPlaced_1 : decode cX4_isPlaced 1 = .ok (.istore_n 2, 1) := by decide +kernel
theorem dX4_isPlaced_2 : decode cX4_isPlaced 2 = .ok (.iload_n 2, 1) := by decide +kernel
theorem dX4_isPlaced_3 : decode cX4_isPlaced 3 = .ok (.aload_n 0, 1) := by decide +kernel
theorem dX4_isPlaced_4 : decode cX4_isPlaced 4 = .ok (.getfield 32, 3) := by decide +kernel
theorem dX4_isPlaced_7 : decode cX4_isPlaced 7 = .ok (.if_icmp .ge 27, 3) := by decide +kernel
theorem dX4_isPlaced_10 : decode cX4_isPlaced 10 = .ok (.iload_n 2, 1) := by decide +kernel
theorem dX4_isPlaced_11 : decode cX4_isPlaced 11 = .ok (.bipush 6, 2) := by decide +kernel
theorem dX4_isPlaced_13 : decode cX4_isPlaced 13 = .ok (.if_icmp .ge 21, 3) := by decide +kernel
theorem dX4_isPlaced_16 : decode cX4_isPlaced 16 = .ok (.aload_n 0, 1) := by decide +kernel
theorem dX4_isPlaced_17 : decode cX4_isPlaced 17 = .ok (.getfield 15, 3) := by decide +kernel
theorem dX4_isPlaced_20 : decode cX4_isPlaced 20 = .ok (.iload_n 2, 1) := by decide +kernel
theorem dX4_isPlaced_21 : decode cX4_isPlaced 21 = .ok (.iaload, 1) := by decide +kernel
theorem dX4_isPlaced_22 : decode cX4_isPlaced 22 = .ok (.iload_n 1, 1) := by decide +kernel
theorem dX4_isPlaced_23 : decode cX4_isPlaced 23 = .ok (.if_icmp .ne 5, 3) := by decide +kernel
theorem dX4_isPlaced_26 : decode cX4_isPlaced 26 = .ok (.iconst 1, 1) := by decide +kernel
theorem dX4_isPlaced_27 : decode cX4_isPlaced 27 = .ok (.ireturn, 1) := by decide +kernel
theorem dX4_isPlaced_28 : decode cX4_isPlaced 28 = .ok (.iinc 2 1, 3) := by decide +kernel
theorem dX4_isPlaced_31 : decode cX4_isPlaced 31 = .ok (.goto (-29), 3) := by decide +kernel
theorem dX4_isPlaced_34 : decode cX4_isPlaced 34 = .ok (.iconst 0, 1) := by decide +kernel
theorem dX4_isPlaced_35 : decode cX4_isPlaced 35 = .ok (.ireturn, 1) := by decide +kernel
theorem dX4_fillsGoal_0 : decode cX4_fillsGoal 0 = .ok (.iload_n 1, 1) := by decide +kernel
theorem dX4_fillsGoal_1 : decode cX4_fillsGoal 1 = .ok (.invokestatic 58, 3) := by decide +kernel
theorem dX4_fillsGoal_4 : decode cX4_fillsGoal 4 = .ok (.istore_n 3, 1) := by decide +kernel
theorem dX4_fillsGoal_5 : decode cX4_fillsGoal 5 = .ok (.aload_n 0, 1) := by decide +kernel
theorem dX4_fillsGoal_6 : decode cX4_fillsGoal 6 = .ok (.getfield 18, 3) := by decide +kernel
theorem dX4_fillsGoal_9 : decode cX4_fillsGoal 9 = .ok (.iload_n 3, 1) := by decide +kernel
theorem dX4_fillsGoal_10 : decode cX4_fillsGoal 10 = .ok (.iconst (-1), 1) := by decide +kernel
theorem dX4_fillsGoal_11 : decode cX4_fillsGoal 11 = .ok (.invokevirtual 62, 3) := by decide +kernel
theorem dX4_fillsGoal_14 : decode cX4_fillsGoal 14 = .ok (.ifCond .ne 20, 3) := by decide +kernel
theorem dX4_fillsGoal_17 : decode cX4_fillsGoal 17 = .ok (.aload_n 0, 1) := by decide +kernel
theorem dX4_fillsGoal_18 : decode cX4_fillsGoal 18 = .ok (.getfield 18, 3) := by decide +kernel
theorem dX4_fillsGoal_21 : decode cX4_fillsGoal 21 = .ok (.iload_n 3, 1) := by decide +kernel
theorem dX4_fillsGoal_22 : decode cX4_fillsGoal 22 = .ok (.iload_n 1, 1) := by decide +kernel
theorem dX4_fillsGoal_23 : decode cX4_fillsGoal 23 = .ok (.invokevirtual 62, 3) := by decide +kernel
theorem dX4_fillsGoal_26 : decode cX4_fillsGoal 26 = .ok (.iload_n 2, 1) := by decide +kernel
theorem dX4_fillsGoal_27 : decode cX4_fillsGoal 27 = .ok (.if_icmp .lt 7, 3) := by decide +kernel
theorem dX4_fillsGoal_30 : decode cX4_fillsGoal 30 = .ok (.iconst 1, 1) := by decide +kernel
theorem dX4_fillsGoal_31 : decode cX4_fillsGoal 31 = .ok (.goto 4, 3) := by decide +kernel
theorem dX4_fillsGoal_34 : decode cX4_fillsGoal 34 = .ok (.iconst 0, 1) := by decide +kernel
theorem dX4_fillsGoal_35 : decode cX4_fillsGoal 35 = .ok (.ireturn, 1) := by decide +kernel
theorem dX4_isTooLate_0 : decode cX4_isTooLate 0 = .ok (.iload_n 2, 1) := by decide +kernel
theorem dX4_isTooLate_1 : decode cX4_isTooLate 1 = .ok (.ifCond .le 36, 3) := by decide +kernel
theorem dX4_isTooLate_4 : decode cX4_isTooLate 4 = .ok (.iload_n 1, 1) := by decide +kernel
theorem dX4_isTooLate_5 : decode cX4_isTooLate 5 = .ok (.invokestatic 39, 3) := by decide +kernel
theorem dX4_isTooLate_8 : decode cX4_isTooLate 8 = .ok (.ifCond .eq 29, 3) := by decide +kernel
theorem dX4_isTooLate_11 : decode cX4_isTooLate 11 = .ok (.aload_n 0, 1) := by decide +kernel
theorem dX4_isTooLate_12 : decode cX4_isTooLate 12 = .ok (.getfield 9, 3) := by decide +kernel
theorem dX4_isTooLate_15 : decode cX4_isTooLate 15 = .ok (.iload_n 1, 1) := by decide +kernel
theorem dX4_isTooLate_16 : decode cX4_isTooLate 16 = .ok (.iaload, 1) := by decide +kernel
theorem dX4_isTooLate_17 : decode cX4_isTooLate 17 = .ok (.iload_n 2, 1) := by decide +kernel
theorem dX4_isTooLate_18 : decode cX4_isTooLate 18 = .ok (.if_icmp .lt 19, 3) := by decide +kernel
theorem dX4_isTooLate_21 : decode cX4_isTooLate 21 = .ok (.aload_n 0, 1) := by decide +kernel
theorem dX4_isTooLate_22 : decode cX4_isTooLate 22 = .ok (.getfield 18, 3) := by decide +kernel
theorem dX4_isTooLate_25 : decode cX4_isTooLate 25 = .ok (.iload_n 1, 1) := by decide +kernel
theorem dX4_isTooLate_26 : decode cX4_isTooLate 26 = .ok (.iload_n 1, 1) := by decide +kernel
theorem dX4_isTooLate_27 : decode cX4_isTooLate 27 = .ok (.invokevirtual 62, 3) := by decide +kernel
theorem dX4_isTooLate_30 : decode cX4_isTooLate 30 = .ok (.ifCond .le 7, 3) := by decide +kernel
theorem dX4_isTooLate_33 : decode cX4_isTooLate 33 = .ok (.iconst 1, 1) := by decide +kernel
theorem dX4_isTooLate_34 : decode cX4_isTooLate 34 = .ok (.goto 4, 3) := by decide +kernel
theorem dX4_isTooLate_37 : decode cX4_isTooLate 37 = .ok (.iconst 0, 1) := by decide +kernel
theorem dX4_isTooLate_38 : decode cX4_isTooLate 38 = .ok (.ireturn, 1) := by decide +kernel
theorem dX5_init_0 : decode cX5_init 0 = .ok (.aload_n 0, 1) := by decide +kernel
theorem dX5_init_1 : decode cX5_init 1 = .ok (.invokespecial 3, 3) := by decide +kernel
theorem dX5_init_4 : decode cX5_init 4 = .ok (.aload_n 0, 1) := by decide +kernel
theorem dX5_init_5 : decode cX5_init 5 = .ok (.bipush 121, 2) := by decide +kernel
theorem dX5_init_7 : decode cX5_init 7 = .ok (.newarray .int, 2) := by decide +kernel
theorem dX5_init_9 : decode cX5_init 9 = .ok (.putfield 9, 3) := by decide +kernel
theorem dX5_init_12 : decode cX5_init 12 = .ok (.aload_n 0, 1) := by decide +kernel
theorem dX5_init_13 : decode cX5_init 13 = .ok (.bipush 121, 2) := by decide +kernel
theorem dX5_init_15 : decode cX5_init 15 = .ok (.newarray .int, 2) := by decide +kernel
theorem dX5_init_17 : decode cX5_init 17 = .ok (.putfield 15, 3) := by decide +kernel
theorem dX5_init_20 : decode cX5_init 20 = .ok (.aload_n 0, 1) := by decide +kernel
theorem dX5_init_21 : decode cX5_init 21 = .ok (.bipush 121, 2) := by decide +kernel
theorem dX5_init_23 : decode cX5_init 23 = .ok (.newarray .int, 2) := by decide +kernel
theorem dX5_init_25 : decode cX5_init 25 = .ok (.putfield 18, 3) := by decide +kernel
theorem dX5_init_28 : decode cX5_init 28 = .ok (.aload_n 0, 1) := by decide +kernel
theorem dX5_init_29 : decode cX5_init 29 = .ok (.sipush 726, 3) := by decide +kernel
theorem dX5_init_32 : decode cX5_init 32 = .ok (.newarray .int, 2) := by decide +kernel
theorem dX5_init_34 : decode cX5_init 34 = .ok (.putfield 21, 3) := by decide +kernel
theorem dX5_init_37 : decode cX5_init 37 = .ok (.iconst 0, 1) := by decide +kernel
theorem dX5_init_38 : decode cX5_init 38 = .ok (.istore_n 1, 1) := by decide +kernel
theorem dX5_init_39 : decode cX5_init 39 = .ok (.iload_n 1, 1) := by decide +kernel
theorem dX5_init_40 : decode cX5_init 40 = .ok (.bipush 17, 2) := by decide +kernel
theorem dX5_init_42 : decode cX5_init 42 = .ok (.if_icmp .ge 120, 3) := by decide +kernel
theorem dX5_init_45 : decode cX5_init 45 = .ok (.getstatic 24, 3) := by decide +kernel
theorem dX5_init_48 : decode cX5_init 48 = .ok (.iload_n 1, 1) := by decide +kernel
theorem dX5_init_49 : decode cX5_init 49 = .ok (.iaload, 1) := by decide +kernel
theorem dX5_init_50 : decode cX5_init 50 = .ok (.istore_n 2, 1) := by decide +kernel
theorem dX5_init_51 : decode cX5_init 51 = .ok (.iload_n 2, 1) := by decide +kernel
theorem dX5_init_52 : decode cX5_init 52 = .ok (.getstatic 24, 3) := by decide +kernel
theorem dX5_init_55 : decode cX5_init 55 = .ok (.iload_n 1, 1) := by decide +kernel
theorem dX5_init_56 : decode cX5_init 56 = .ok (.iconst 1, 1) := by decide +kernel
theorem dX5_init_57 : decode cX5_init 57 = .ok (.iadd, 1) := by decide +kernel
theorem dX5_init_58 : decode cX5_init 58 = .ok (.iaload, 1) := by decide +kernel
theorem dX5_init_59 : decode cX5_init 59 = .ok (.if_icmp .ge 97, 3) := by decide +kernel
theorem dX5_init_62 : decode cX5_init 62 = .ok (.getstatic 27, 3) := by decide +kernel
theorem dX5_init_65 : decode cX5_init 65 = .ok (.iload_n 1, 1) := by decide +kernel
theorem dX5_init_66 : decode cX5_init 66 = .ok (.iaload, 1) := by decide +kernel
theorem dX5_init_67 : decode cX5_init 67 = .ok (.iconst 2, 1) := by decide +kernel
theorem dX5_init_68 : decode cX5_init 68 = .ok (.iload_n 2, 1) := by decide +kernel
theorem dX5_init_69 : decode cX5_init 69 = .ok (.getstatic 24, 3) := by decide +kernel
theorem dX5_init_72 : decode cX5_init 72 = .ok (.iload_n 1, 1) := by decide +kernel
theorem dX5_init_73 : decode cX5_init 73 = .ok (.iaload, 1) := by decide +kernel
theorem dX5_init_74 : decode cX5_init 74 = .ok (.isub, 1) := by decide +kernel
theorem dX5_init_75 : decode cX5_init 75 = .ok (.imul, 1) := by decide +kernel
theorem dX5_init_76 : decode cX5_init 76 = .ok (.iadd, 1) := by decide +kernel
theorem dX5_init_77 : decode cX5_init 77 = .ok (.istore_n 3, 1) := by decide +kernel
theorem dX5_init_78 : decode cX5_init 78 = .ok (.aload_n 0, 1) := by decide +kernel
theorem dX5_init_79 : decode cX5_init 79 = .ok (.getfield 9, 3) := by decide +kernel
theorem dX5_init_82 : decode cX5_init 82 = .ok (.iload_n 2, 1) := by decide +kernel
theorem dX5_init_83 : decode cX5_init 83 = .ok (.iload_n 1, 1) := by decide +kernel
theorem dX5_init_84 : decode cX5_init 84 = .ok (.iastore, 1) := by decide +kernel
theorem dX5_init_85 : decode cX5_init 85 = .ok (.aload_n 0, 1) := by decide +kernel
theorem dX5_init_86 : decode cX5_init 86 = .ok (.getfield 15, 3) := by decide +kernel
theorem dX5_init_89 : decode cX5_init 89 = .ok (.iload_n 2, 1) := by decide +kernel
theorem dX5_init_90 : decode cX5_init 90 = .ok (.iload_n 3, 1) := by decide +kernel
theorem dX5_init_91 : decode cX5_init 91 = .ok (.iastore, 1) := by decide +kernel
theorem dX5_init_92 : decode cX5_init 92 = .ok (.aload_n 0, 1) := by decide +kernel
theorem dX5_init_93 : decode cX5_init 93 = .ok (.getfield 18, 3) := by decide +kernel
theorem dX5_init_96 : decode cX5_init 96 = .ok (.iload_n 2, 1) := by decide +kernel
theorem dX5_init_97 : decode cX5_init 97 = .ok (.iload_n 1, 1) := by decide +kernel
theorem dX5_init_98 : decode cX5_init 98 = .ok (.iload_n 3, 1) := by decide +kernel
theorem dX5_init_99 : decode cX5_init 99 = .ok (.invokestatic 30, 3) := by decide +kernel
theorem dX5_init_102 : decode cX5_init 102 = .ok (.iastore, 1) := by decide +kernel
theorem dX5_init_103 : decode cX5_init 103 = .ok (.iconst 0, 1) := by decide +kernel
theorem dX5_init_104 : decode cX5_init 104 = .ok (.istore 4, 2) := by decide +kernel
theorem dX5_init_106 : decode cX5_init 106 = .ok (.iload 4, 2) := by decide +kernel
theorem dX5_init_108 : decode cX5_init 108 = .ok (.bipush 6, 2) := by decide +kernel
theorem dX5_init_110 : decode cX5_init 110 = .ok (.if_icmp .ge 40, 3) := by decide +kernel
theorem dX5_init_113 : decode cX5_init 113 = .ok (.aload_n 0, 1) := by decide +kernel
theorem dX5_init_114 : decode cX5_init 114 = .ok (.getfield 21, 3) := by decide +kernel
theorem dX5_init_117 : decode cX5_init 117 = .ok (.iload_n 2, 1) := by decide +kernel
theorem dX5_init_118 : decode cX5_init 118 = .ok (.bipush 6, 2) := by decide +kernel
theorem dX5_init_120 : decode cX5_init 120 = .ok (.imul, 1) := by decide +kernel
theorem dX5_init_121 : decode cX5_init 121 = .ok (.iload 4, 2) := by decide +kernel
theorem dX5_init_123 : decode cX5_init 123 = .ok (.iadd, 1) := by decide +kernel
theorem dX5_init_124 : decode cX5_init 124 = .ok (.iload_n 1, 1) := by decide +kernel
theorem dX5_init_125 : decode cX5_init 125 = .ok (.getstatic 34, 3) := by decide +kernel
theorem dX5_init_128 : decode cX5_init 128 = .ok (.iload 4, 2) := by decide +kernel
theorem dX5_init_130 : decode cX5_init 130 = .ok (.iaload, 1) := by decide +kernel
theorem dX5_init_131 : decode cX5_init 131 = .ok (.iadd, 1) := by decide +kernel
theorem dX5_init_132 : decode cX5_init 132 = .ok (.iload_n 3, 1) := by decide +kernel
theorem dX5_init_133 : decode cX5_init 133 = .ok (.getstatic 37, 3) := by decide +kernel
theorem dX5_init_136 : decode cX5_init 136 = .ok (.iload 4, 2) := by decide +kernel
theorem dX5_init_138 : decode cX5_init 138 = .ok (.iaload, 1) := by decide +kernel
theorem dX5_init_139 : decode cX5_init 139 = .ok (.iadd, 1) := by decide +kernel
theorem dX5_init_140 : decode cX5_init 140 = .ok (.invokestatic 40, 3) := by decide +kernel
theorem dX5_init_143 : decode cX5_init 143 = .ok (.iastore, 1) := by decide +kernel
theorem dX5_init_144 : decode cX5_init 144 = .ok (.iinc 4 1, 3) := by decide +kernel
theorem dX5_init_147 : decode cX5_init 147 = .ok (.goto (-41), 3) := by decide +kernel
theorem dX5_init_150 : decode cX5_init 150 = .ok (.iinc 2 1, 3) := by decide +kernel
theorem dX5_init_153 : decode cX5_init 153 = .ok (.goto (-102), 3) := by decide +kernel
theorem dX5_init_156 : decode cX5_init 156 = .ok (.iinc 1 1, 3) := by decide +kernel
theorem dX5_init_159 : decode cX5_init 159 = .ok (.goto (-120), 3) := by decide +kernel
theorem dX5_init_162 : decode cX5_init 162 = .ok (.return_, 1) := by decide +kernel
theorem dX5_cellIn_0 : decode cX5_cellIn 0 = .ok (.iload_n 0, 1) := by decide +kernel
theorem dX5_cellIn_1 : decode cX5_cellIn 1 = .ok (.ifCond .lt 9, 3) := by decide +kernel
theorem dX5_cellIn_4 : decode cX5_cellIn 4 = .ok (.iload_n 0, 1) := by decide +kernel
theorem dX5_cellIn_5 : decode cX5_cellIn 5 = .ok (.bipush 17, 2) := by decide +kernel
theorem dX5_cellIn_7 : decode cX5_cellIn 7 = .ok (.if_icmp .lt 5, 3) := by decide +kernel
theorem dX5_cellIn_10 : decode cX5_cellIn 10 = .ok (.iconst (-1), 1) := by decide +kernel
theorem dX5_cellIn_11 : decode cX5_cellIn 11 = .ok (.ireturn, 1) := by decide +kernel
theorem dX5_cellIn_12 : decode cX5_cellIn 12 = .ok (.getstatic 27, 3) := by decide +kernel
theorem dX5_cellIn_15 : decode cX5_cellIn 15 = .ok (.iload_n 0, 1) := by decide +kernel
theorem dX5_cellIn_16 : decode cX5_cellIn 16 = .ok (.iaload, 1) := by decide +kernel
theorem dX5_cellIn_17 : decode cX5_cellIn 17 = .ok (.istore_n 2, 1) := by decide +kernel
theorem dX5_cellIn_18 : decode cX5_cellIn 18 = .ok (.getstatic 24, 3) := by decide +kernel
theorem dX5_cellIn_21 : decode cX5_cellIn 21 = .ok (.iload_n 0, 1) := by decide +kernel
theorem dX5_cellIn_22 : decode cX5_cellIn 22 = .ok (.iconst 1, 1) := by decide +kernel
theorem dX5_cellIn_23 : decode cX5_cellIn 23 = .ok (.iadd, 1) := by decide +kernel
theorem dX5_cellIn_24 : decode cX5_cellIn 24 = .ok (.iaload, 1) := by decide +kernel
theorem dX5_cellIn_25 : decode cX5_cellIn 25 = .ok (.getstatic 24, 3) := by decide +kernel
theorem dX5_cellIn_28 : decode cX5_cellIn 28 = .ok (.iload_n 0, 1) := by decide +kernel
theorem dX5_cellIn_29 : decode cX5_cellIn 29 = .ok (.iaload, 1) := by decide +kernel
theorem dX5_cellIn_30 : decode cX5_cellIn 30 = .ok (.isub, 1) := by decide +kernel
theorem dX5_cellIn_31 : decode cX5_cellIn 31 = .ok (.istore_n 3, 1) := by decide +kernel
theorem dX5_cellIn_32 : decode cX5_cellIn 32 = .ok (.iload_n 1, 1) := by decide +kernel
theorem dX5_cellIn_33 : decode cX5_cellIn 33 = .ok (.iload_n 2, 1) := by decide +kernel
theorem dX5_cellIn_34 : decode cX5_cellIn 34 = .ok (.if_icmp .lt 20, 3) := by decide +kernel
theorem dX5_cellIn_37 : decode cX5_cellIn 37 = .ok (.iload_n 1, 1) := by decide +kernel
theorem dX5_cellIn_38 : decode cX5_cellIn 38 = .ok (.iload_n 2, 1) := by decide +kernel
theorem dX5_cellIn_39 : decode cX5_cellIn 39 = .ok (.iconst 2, 1) := by decide +kernel
theorem dX5_cellIn_40 : decode cX5_cellIn 40 = .ok (.iload_n 3, 1) := by decide +kernel
theorem dX5_cellIn_41 : decode cX5_cellIn 41 = .ok (.imul, 1) := by decide +kernel
theorem dX5_cellIn_42 : decode cX5_cellIn 42 = .ok (.iadd, 1) := by decide +kernel
theorem dX5_cellIn_43 : decode cX5_cellIn 43 = .ok (.if_icmp .ge 11, 3) := by decide +kernel
theorem dX5_cellIn_46 : decode cX5_cellIn 46 = .ok (.iload_n 1, 1) := by decide +kernel
theorem dX5_cellIn_47 : decode cX5_cellIn 47 = .ok (.iload_n 2, 1) := by decide +kernel
theorem dX5_cellIn_48 : decode cX5_cellIn 48 = .ok (.isub, 1) := by decide +kernel
theorem dX5_cellIn_49 : decode cX5_cellIn 49 = .ok (.iconst 2, 1) := by decide +kernel
theorem dX5_cellIn_50 : decode cX5_cellIn 50 = .ok (.irem, 1) := by decide +kernel
theorem dX5_cellIn_51 : decode cX5_cellIn 51 = .ok (.ifCond .eq 5, 3) := by decide +kernel
theorem dX5_cellIn_54 : decode cX5_cellIn 54 = .ok (.iconst (-1), 1) := by decide +kernel
theorem dX5_cellIn_55 : decode cX5_cellIn 55 = .ok (.ireturn, 1) := by decide +kernel
theorem dX5_cellIn_56 : decode cX5_cellIn 56 = .ok (.getstatic 24, 3) := by decide +kernel
theorem dX5_cellIn_59 : decode cX5_cellIn 59 = .ok (.iload_n 0, 1) := by decide +kernel
theorem dX5_cellIn_60 : decode cX5_cellIn 60 = .ok (.iaload, 1) := by decide +kernel
theorem dX5_cellIn_61 : decode cX5_cellIn 61 = .ok (.iload_n 1, 1) := by decide +kernel
theorem dX5_cellIn_62 : decode cX5_cellIn 62 = .ok (.iload_n 2, 1) := by decide +kernel
theorem dX5_cellIn_63 : decode cX5_cellIn 63 = .ok (.isub, 1) := by decide +kernel
theorem dX5_cellIn_64 : decode cX5_cellIn 64 = .ok (.iconst 2, 1) := by decide +kernel
theorem dX5_cellIn_65 : decode cX5_cellIn 65 = .ok (.idiv, 1) := by decide +kernel
theorem dX5_cellIn_66 : decode cX5_cellIn 66 = .ok (.iadd, 1) := by decide +kernel
theorem dX5_cellIn_67 : decode cX5_cellIn 67 = .ok (.ireturn, 1) := by decide +kernel
theorem dX5_campAmong_0 : decode cX5_campAmong 0 = .ok (.iload_n 0, 1) := by decide +kernel
theorem dX5_campAmong_1 : decode cX5_campAmong 1 = .ok (.iconst 3, 1) := by decide +kernel
theorem dX5_campAmong_2 : decode cX5_campAmong 2 = .ok (.if_icmp .gt 5, 3) := by decide +kernel
theorem dX5_campAmong_5 : decode cX5_campAmong 5 = .ok (.iconst 0, 1) := by decide +kernel
theorem dX5_campAmong_6 : decode cX5_campAmong 6 = .ok (.ireturn, 1) := by decide +kernel
theorem dX5_campAmong_7 : decode cX5_campAmong 7 = .ok (.iload_n 0, 1) := by decide +kernel
theorem dX5_campAmong_8 : decode cX5_campAmong 8 = .ok (.bipush 13, 2) := by decide +kernel
theorem dX5_campAmong_10 : decode cX5_campAmong 10 = .ok (.if_icmp .lt 5, 3) := by decide +kernel
theorem dX5_campAmong_13 : decode cX5_campAmong 13 = .ok (.iconst 3, 1) := by decide +kernel
theorem dX5_campAmong_14 : decode cX5_campAmong 14 = .ok (.ireturn, 1) := by decide +kernel
theorem dX5_campAmong_15 : decode cX5_campAmong 15 = .ok (.iload_n 0, 1) := by decide +kernel
theorem dX5_campAmong_16 : decode cX5_campAmong 16 = .ok (.bipush 7, 2) := by decide +kernel
theorem dX5_campAmong_18 : decode cX5_campAmong 18 = .ok (.if_icmp .gt 29, 3) := by decide +kernel
theorem dX5_campAmong_21 : decode cX5_campAmong 21 = .ok (.iload_n 1, 1) := by decide +kernel
theorem dX5_campAmong_22 : decode cX5_campAmong 22 = .ok (.bipush 14, 2) := by decide +kernel
theorem dX5_campAmong_24 : decode cX5_campAmong 24 = .ok (.iload_n 0, 1) := by decide +kernel
theorem dX5_campAmong_25 : decode cX5_campAmong 25 = .ok (.iadd, 1) := by decide +kernel
theorem dX5_campAmong_26 : decode cX5_campAmong 26 = .ok (.if_icmp .lt 7, 3) := by decide +kernel
theorem dX5_campAmong_29 : decode cX5_campAmong 29 = .ok (.iconst 1, 1) := by decide +kernel
theorem dX5_campAmong_30 : decode cX5_campAmong 30 = .ok (.goto 16, 3) := by decide +kernel
theorem dX5_campAmong_33 : decode cX5_campAmong 33 = .ok (.iload_n 1, 1) := by decide +kernel
theorem dX5_campAmong_34 : decode cX5_campAmong 34 = .ok (.bipush 10, 2) := by decide +kernel
theorem dX5_campAmong_36 : decode cX5_campAmong 36 = .ok (.iload_n 0, 1) := by decide +kernel
theorem dX5_campAmong_37 : decode cX5_campAmong 37 = .ok (.isub, 1) := by decide +kernel
theorem dX5_campAmong_38 : decode cX5_campAmong 38 = .ok (.if_icmp .gt 7, 3) := by decide +kernel
theorem dX5_campAmong_41 : decode cX5_campAmong 41 = .ok (.iconst 5, 1) := by decide +kernel
theorem dX5_campAmong_42 : decode cX5_campAmong 42 = .ok (.goto 4, 3) := by decide +kernel
theorem dX5_campAmong_45 : decode cX5_campAmong 45 = .ok (.iconst (-1), 1) := by decide +kernel
theorem dX5_campAmong_46 : decode cX5_campAmong 46 = .ok (.ireturn, 1) := by decide +kernel
theorem dX5_campAmong_47 : decode cX5_campAmong 47 = .ok (.iload_n 0, 1) := by decide +kernel
theorem dX5_campAmong_48 : decode cX5_campAmong 48 = .ok (.bipush 9, 2) := by decide +kernel
theorem dX5_campAmong_50 : decode cX5_campAmong 50 = .ok (.if_icmp .lt 29, 3) := by decide +kernel
theorem dX5_campAmong_53 : decode cX5_campAmong 53 = .ok (.iload_n 1, 1) := by decide +kernel
theorem dX5_campAmong_54 : decode cX5_campAmong 54 = .ok (.bipush 30, 2) := by decide +kernel
theorem dX5_campAmong_56 : decode cX5_campAmong 56 = .ok (.iload_n 0, 1) := by decide +kernel
theorem dX5_campAmong_57 : decode cX5_campAmong 57 = .ok (.isub, 1) := by decide +kernel
theorem dX5_campAmong_58 : decode cX5_campAmong 58 = .ok (.if_icmp .lt 7, 3) := by decide +kernel
theorem dX5_campAmong_61 : decode cX5_campAmong 61 = .ok (.iconst 2, 1) := by decide +kernel
theorem dX5_campAmong_62 : decode cX5_campAmong 62 = .ok (.goto 16, 3) := by decide +kernel
theorem dX5_campAmong_65 : decode cX5_campAmong 65 = .ok (.iload_n 1, 1) := by decide +kernel
theorem dX5_campAmong_66 : decode cX5_campAmong 66 = .ok (.iload_n 0, 1) := by decide +kernel
theorem dX5_campAmong_67 : decode cX5_campAmong 67 = .ok (.bipush 6, 2) := by decide +kernel
theorem dX5_campAmong_69 : decode cX5_campAmong 69 = .ok (.isub, 1) := by decide +kernel
theorem dX5_campAmong_70 : decode cX5_campAmong 70 = .ok (.if_icmp .gt 7, 3) := by decide +kernel
theorem dX5_campAmong_73 : decode cX5_campAmong 73 = .ok (.iconst 4, 1) := by decide +kernel
theorem dX5_campAmong_74 : decode cX5_campAmong 74 = .ok (.goto 4, 3) := by decide +kernel
theorem dX5_campAmong_77 : decode cX5_campAmong 77 = .ok (.iconst (-1), 1) := by decide +kernel
theorem dX5_campAmong_78 : decode cX5_campAmong 78 = .ok (.ireturn, 1) := by decide +kernel
theorem dX5_campAmong_79 : decode cX5_campAmong 79 = .ok (.iconst (-1), 1) := by decide +kernel
theorem dX5_campAmong_80 : decode cX5_campAmong 80 = .ok (.ireturn, 1) := by decide +kernel
theorem dX5_camp_0 : decode cX5_camp 0 = .ok (.iload_n 1, 1) := by decide +kernel
theorem dX5_camp_1 : decode cX5_camp 1 = .ok (.invokestatic 43, 3) := by decide +kernel
theorem dX5_camp_4 : decode cX5_camp 4 = .ok (.ifCond .eq 12, 3) := by decide +kernel
theorem dX5_camp_7 : decode cX5_camp 7 = .ok (.aload_n 0, 1) := by decide +kernel
theorem dX5_camp_8 : decode cX5_camp 8 = .ok (.getfield 18, 3) := by decide +kernel
theorem dX5_camp_11 : decode cX5_camp 11 = .ok (.iload_n 1, 1) := by decide +kernel
theorem dX5_camp_12 : decode cX5_camp 12 = .ok (.iaload, 1) := by decide +kernel
theorem dX5_camp_13 : decode cX5_camp 13 = .ok (.goto 4, 3) := by decide +kernel
theorem dX5_camp_16 : decode cX5_camp 16 = .ok (.iconst (-1), 1) := by decide +kernel
theorem dX5_camp_17 : decode cX5_camp 17 = .ok (.ireturn, 1) := by decide +kernel
theorem dX5_next_0 : decode cX5_next 0 = .ok (.iload_n 1, 1) := by decide +kernel
theorem dX5_next_1 : decode cX5_next 1 = .ok (.invokestatic 43, 3) := by decide +kernel
theorem dX5_next_4 : decode cX5_next 4 = .ok (.ifCond .eq 13, 3) := by decide +kernel
theorem dX5_next_7 : decode cX5_next 7 = .ok (.iload_n 2, 1) := by decide +kernel
theorem dX5_next_8 : decode cX5_next 8 = .ok (.ifCond .lt 9, 3) := by decide +kernel
theorem dX5_next_11 : decode cX5_next 11 = .ok (.iload_n 2, 1) := by decide +kernel
theorem dX5_next_12 : decode cX5_next 12 = .ok (.bipush 6, 2) := by decide +kernel
theorem dX5_next_14 : decode cX5_next 14 = .ok (.if_icmp .lt 5, 3) := by decide +kernel
theorem dX5_next_17 : decode cX5_next 17 = .ok (.iconst (-1), 1) := by decide +kernel
theorem dX5_next_18 : decode cX5_next 18 = .ok (.ireturn, 1) := by decide +kernel
theorem dX5_next_19 : decode cX5_next 19 = .ok (.aload_n 0, 1) := by decide +kernel
theorem dX5_next_20 : decode cX5_next 20 = .ok (.getfield 21, 3) := by decide +kernel
theorem dX5_next_23 : decode cX5_next 23 = .ok (.iload_n 1, 1) := by decide +kernel
theorem dX5_next_24 : decode cX5_next 24 = .ok (.bipush 6, 2) := by decide +kernel
theorem dX5_next_26 : decode cX5_next 26 = .ok (.imul, 1) := by decide +kernel
theorem dX5_next_27 : decode cX5_next 27 = .ok (.iload_n 2, 1) := by decide +kernel
theorem dX5_next_28 : decode cX5_next 28 = .ok (.iadd, 1) := by decide +kernel
theorem dX5_next_29 : decode cX5_next 29 = .ok (.iaload, 1) := by decide +kernel
theorem dX5_next_30 : decode cX5_next 30 = .ok (.ireturn, 1) := by decide +kernel
theorem dX5_steps_0 : decode cX5_steps 0 = .ok (.iload_n 1, 1) := by decide +kernel
theorem dX5_steps_1 : decode cX5_steps 1 = .ok (.invokestatic 43, 3) := by decide +kernel
theorem dX5_steps_4 : decode cX5_steps 4 = .ok (.ifCond .eq 10, 3) := by decide +kernel
theorem dX5_steps_7 : decode cX5_steps 7 = .ok (.iload_n 2, 1) := by decide +kernel
theorem dX5_steps_8 : decode cX5_steps 8 = .ok (.invokestatic 43, 3) := by decide +kernel
theorem dX5_steps_11 : decode cX5_steps 11 = .ok (.ifCond .ne 5, 3) := by decide +kernel
theorem dX5_steps_14 : decode cX5_steps 14 = .ok (.iconst (-1), 1) := by decide +kernel
theorem dX5_steps_15 : decode cX5_steps 15 = .ok (.ireturn, 1) := by decide +kernel
theorem dX5_steps_16 : decode cX5_steps 16 = .ok (.aload_n 0, 1) := by decide +kernel
theorem dX5_steps_17 : decode cX5_steps 17 = .ok (.getfield 9, 3) := by decide +kernel
theorem dX5_steps_20 : decode cX5_steps 20 = .ok (.iload_n 1, 1) := by decide +kernel
theorem dX5_steps_21 : decode cX5_steps 21 = .ok (.iaload, 1) := by decide +kernel
theorem dX5_steps_22 : decode cX5_steps 22 = .ok (.aload_n 0, 1) := by decide +kernel
theorem dX5_steps_23 : decode cX5_steps 23 = .ok (.getfield 9, 3) := by decide +kernel
theorem dX5_steps_26 : decode cX5_steps 26 = .ok (.iload_n 2, 1) := by decide +kernel
theorem dX5_steps_27 : decode cX5_steps 27 = .ok (.iaload, 1) := by decide +kernel
theorem dX5_steps_28 : decode cX5_steps 28 = .ok (.isub, 1) := by decide +kernel
theorem dX5_steps_29 : decode cX5_steps 29 = .ok (.invokestatic 47, 3) := by decide +kernel
theorem dX5_steps_32 : decode cX5_steps 32 = .ok (.istore_n 3, 1) := by decide +kernel
theorem dX5_steps_33 : decode cX5_steps 33 = .ok (.aload_n 0, 1) := by decide +kernel
theorem dX5_steps_34 : decode cX5_steps 34 = .ok (.getfield 15, 3) := by decide +kernel
theorem dX5_steps_37 : decode cX5_steps 37 = .ok (.iload_n 1, 1) := by decide +kernel
theorem dX5_steps_38 : decode cX5_steps 38 = .ok (.iaload, 1) := by decide +kernel
theorem dX5_steps_39 : decode cX5_steps 39 = .ok (.aload_n 0, 1) := by decide +kernel
theorem dX5_steps_40 : decode cX5_steps 40 = .ok (.getfield 15, 3) := by decide +kernel
theorem dX5_steps_43 : decode cX5_steps 43 = .ok (.iload_n 2, 1) := by decide +kernel
theorem dX5_steps_44 : decode cX5_steps 44 = .ok (.iaload, 1) := by decide +kernel
theorem dX5_steps_45 : decode cX5_steps 45 = .ok (.isub, 1) := by decide +kernel
theorem dX5_steps_46 : decode cX5_steps 46 = .ok (.invokestatic 47, 3) := by decide +kernel
theorem dX5_steps_49 : decode cX5_steps 49 = .ok (.istore 4, 2) := by decide +kernel
theorem dX5_steps_51 : decode cX5_steps 51 = .ok (.iload_n 3, 1) := by decide +kernel
theorem dX5_steps_52 : decode cX5_steps 52 = .ok (.iload_n 3, 1) := by decide +kernel
theorem dX5_steps_53 : decode cX5_steps 53 = .ok (.iload 4, 2) := by decide +kernel
theorem dX5_steps_55 : decode cX5_steps 55 = .ok (.iadd, 1) := by decide +kernel
theorem dX5_steps_56 : decode cX5_steps 56 = .ok (.iconst 2, 1) := by decide +kernel
theorem dX5_steps_57 : decode cX5_steps 57 = .ok (.idiv, 1) := by decide +kernel
theorem dX5_steps_58 : decode cX5_steps 58 = .ok (.invokestatic 53, 3) := by decide +kernel
theorem dX5_steps_61 : decode cX5_steps 61 = .ok (.ireturn, 1) := by decide +kernel
theorem dJ6_bitCount_0f7a4_0 : decode cJ6_bitCount_0f7a4 0 = .ok (.iload_n 0, 1) := by decide +kernel
theorem dJ6_bitCount_0f7a4_1 : decode cJ6_bitCount_0f7a4 1 = .ok (.iload_n 0, 1) := by decide +kernel
theorem dJ6_bitCount_0f7a4_2 : decode cJ6_bitCount_0f7a4 2 = .ok (.iconst 1, 1) := by decide +kernel
theorem dJ6_bitCount_0f7a4_3 : decode cJ6_bitCount_0f7a4 3 = .ok (.iushr, 1) := by decide +kernel
theorem dJ6_bitCount_0f7a4_4 : decode cJ6_bitCount_0f7a4 4 = .ok (.ldc_w 265, 3) := by decide +kernel
theorem dJ6_bitCount_0f7a4_7 : decode cJ6_bitCount_0f7a4 7 = .ok (.iand, 1) := by decide +kernel
theorem dJ6_bitCount_0f7a4_8 : decode cJ6_bitCount_0f7a4 8 = .ok (.isub, 1) := by decide +kernel
theorem dJ6_bitCount_0f7a4_9 : decode cJ6_bitCount_0f7a4 9 = .ok (.istore_n 0, 1) := by decide +kernel
theorem dJ6_bitCount_0f7a4_10 : decode cJ6_bitCount_0f7a4 10 = .ok (.iload_n 0, 1) := by decide +kernel
theorem dJ6_bitCount_0f7a4_11 : decode cJ6_bitCount_0f7a4 11 = .ok (.ldc_w 266, 3) := by decide +kernel
theorem dJ6_bitCount_0f7a4_14 : decode cJ6_bitCount_0f7a4 14 = .ok (.iand, 1) := by decide +kernel
theorem dJ6_bitCount_0f7a4_15 : decode cJ6_bitCount_0f7a4 15 = .ok (.iload_n 0, 1) := by decide +kernel
theorem dJ6_bitCount_0f7a4_16 : decode cJ6_bitCount_0f7a4 16 = .ok (.iconst 2, 1) := by decide +kernel
theorem dJ6_bitCount_0f7a4_17 : decode cJ6_bitCount_0f7a4 17 = .ok (.iushr, 1) := by decide +kernel
theorem dJ6_bitCount_0f7a4_18 : decode cJ6_bitCount_0f7a4 18 = .ok (.ldc_w 266, 3) := by decide +kernel
theorem dJ6_bitCount_0f7a4_21 : decode cJ6_bitCount_0f7a4 21 = .ok (.iand, 1) := by decide +kernel
theorem dJ6_bitCount_0f7a4_22 : decode cJ6_bitCount_0f7a4 22 = .ok (.iadd, 1) := by decide +kernel
theorem dJ6_bitCount_0f7a4_23 : decode cJ6_bitCount_0f7a4 23 = .ok (.istore_n 0, 1) := by decide +kernel
theorem dJ6_bitCount_0f7a4_24 : decode cJ6_bitCount_0f7a4 24 = .ok (.iload_n 0, 1) := by decide +kernel
theorem dJ6_bitCount_0f7a4_25 : decode cJ6_bitCount_0f7a4 25 = .ok (.iload_n 0, 1) := by decide +kernel
theorem dJ6_bitCount_0f7a4_26 : decode cJ6_bitCount_0f7a4 26 = .ok (.iconst 4, 1) := by decide +kernel
theorem dJ6_bitCount_0f7a4_27 : decode cJ6_bitCount_0f7a4 27 = .ok (.iushr, 1) := by decide +kernel
theorem dJ6_bitCount_0f7a4_28 : decode cJ6_bitCount_0f7a4 28 = .ok (.iadd, 1) := by decide +kernel
theorem dJ6_bitCount_0f7a4_29 : decode cJ6_bitCount_0f7a4 29 = .ok (.ldc_w 267, 3) := by decide +kernel
theorem dJ6_bitCount_0f7a4_32 : decode cJ6_bitCount_0f7a4 32 = .ok (.iand, 1) := by decide +kernel
theorem dJ6_bitCount_0f7a4_33 : decode cJ6_bitCount_0f7a4 33 = .ok (.istore_n 0, 1) := by decide +kernel
theorem dJ6_bitCount_0f7a4_34 : decode cJ6_bitCount_0f7a4 34 = .ok (.iload_n 0, 1) := by decide +kernel
theorem dJ6_bitCount_0f7a4_35 : decode cJ6_bitCount_0f7a4 35 = .ok (.iload_n 0, 1) := by decide +kernel
theorem dJ6_bitCount_0f7a4_36 : decode cJ6_bitCount_0f7a4 36 = .ok (.bipush 8, 2) := by decide +kernel
theorem dJ6_bitCount_0f7a4_38 : decode cJ6_bitCount_0f7a4 38 = .ok (.iushr, 1) := by decide +kernel
theorem dJ6_bitCount_0f7a4_39 : decode cJ6_bitCount_0f7a4 39 = .ok (.iadd, 1) := by decide +kernel
theorem dJ6_bitCount_0f7a4_40 : decode cJ6_bitCount_0f7a4 40 = .ok (.istore_n 0, 1) := by decide +kernel
theorem dJ6_bitCount_0f7a4_41 : decode cJ6_bitCount_0f7a4 41 = .ok (.iload_n 0, 1) := by decide +kernel
theorem dJ6_bitCount_0f7a4_42 : decode cJ6_bitCount_0f7a4 42 = .ok (.iload_n 0, 1) := by decide +kernel
theorem dJ6_bitCount_0f7a4_43 : decode cJ6_bitCount_0f7a4 43 = .ok (.bipush 16, 2) := by decide +kernel
theorem dJ6_bitCount_0f7a4_45 : decode cJ6_bitCount_0f7a4 45 = .ok (.iushr, 1) := by decide +kernel
theorem dJ6_bitCount_0f7a4_46 : decode cJ6_bitCount_0f7a4 46 = .ok (.iadd, 1) := by decide +kernel
theorem dJ6_bitCount_0f7a4_47 : decode cJ6_bitCount_0f7a4 47 = .ok (.istore_n 0, 1) := by decide +kernel
theorem dJ6_bitCount_0f7a4_48 : decode cJ6_bitCount_0f7a4 48 = .ok (.iload_n 0, 1) := by decide +kernel
theorem dJ6_bitCount_0f7a4_49 : decode cJ6_bitCount_0f7a4 49 = .ok (.bipush 63, 2) := by decide +kernel
theorem dJ6_bitCount_0f7a4_51 : decode cJ6_bitCount_0f7a4 51 = .ok (.iand, 1) := by decide +kernel
theorem dJ6_bitCount_0f7a4_52 : decode cJ6_bitCount_0f7a4 52 = .ok (.ireturn, 1) := by decide +kernel
theorem dJ9_abs_0f7a4_0 : decode cJ9_abs_0f7a4 0 = .ok (.iload_n 0, 1) := by decide +kernel
theorem dJ9_abs_0f7a4_1 : decode cJ9_abs_0f7a4 1 = .ok (.ifCond .ge 8, 3) := by decide +kernel
theorem dJ9_abs_0f7a4_4 : decode cJ9_abs_0f7a4 4 = .ok (.iload_n 0, 1) := by decide +kernel
theorem dJ9_abs_0f7a4_5 : decode cJ9_abs_0f7a4 5 = .ok (.ineg, 1) := by decide +kernel
theorem dJ9_abs_0f7a4_6 : decode cJ9_abs_0f7a4 6 = .ok (.goto 4, 3) := by decide +kernel
theorem dJ9_abs_0f7a4_9 : decode cJ9_abs_0f7a4 9 = .ok (.iload_n 0, 1) := by decide +kernel
theorem dJ9_abs_0f7a4_10 : decode cJ9_abs_0f7a4 10 = .ok (.ireturn, 1) := by decide +kernel
theorem dJ9_max_7cf53_0 : decode cJ9_max_7cf53 0 = .ok (.iload_n 0, 1) := by decide +kernel
theorem dJ9_max_7cf53_1 : decode cJ9_max_7cf53 1 = .ok (.iload_n 1, 1) := by decide +kernel
theorem dJ9_max_7cf53_2 : decode cJ9_max_7cf53 2 = .ok (.if_icmp .lt 7, 3) := by decide +kernel
theorem dJ9_max_7cf53_5 : decode cJ9_max_7cf53 5 = .ok (.iload_n 0, 1) := by decide +kernel
theorem dJ9_max_7cf53_6 : decode cJ9_max_7cf53 6 = .ok (.goto 4, 3) := by decide +kernel
theorem dJ9_max_7cf53_9 : decode cJ9_max_7cf53 9 = .ok (.iload_n 1, 1) := by decide +kernel
theorem dJ9_max_7cf53_10 : decode cJ9_max_7cf53 10 = .ok (.ireturn, 1) := by decide +kernel
theorem dJ9_min_7cf53_0 : decode cJ9_min_7cf53 0 = .ok (.iload_n 0, 1) := by decide +kernel
theorem dJ9_min_7cf53_1 : decode cJ9_min_7cf53 1 = .ok (.iload_n 1, 1) := by decide +kernel
theorem dJ9_min_7cf53_2 : decode cJ9_min_7cf53 2 = .ok (.if_icmp .gt 7, 3) := by decide +kernel
theorem dJ9_min_7cf53_5 : decode cJ9_min_7cf53 5 = .ok (.iload_n 0, 1) := by decide +kernel
theorem dJ9_min_7cf53_6 : decode cJ9_min_7cf53 6 = .ok (.goto 4, 3) := by decide +kernel
theorem dJ9_min_7cf53_9 : decode cJ9_min_7cf53 9 = .ok (.iload_n 1, 1) := by decide +kernel
theorem dJ9_min_7cf53_10 : decode cJ9_min_7cf53 10 = .ok (.ireturn, 1) := by decide +kernel
end
section
theorem dX6_init_0 : decode cX6_init 0 = .ok (.aload_n 0, 1) := by decide +kernel
theorem dX6_init_1 : decode cX6_init 1 = .ok (.invokespecial 1, 3) := by decide +kernel
theorem dX6_init_4 : decode cX6_init 4 = .ok (.aload_n 0, 1) := by decide +kernel
theorem dX6_init_5 : decode cX6_init 5 = .ok (.new 7, 3) := by decide +kernel
theorem dX6_init_8 : decode cX6_init 8 = .ok (.dup, 1) := by decide +kernel
theorem dX6_init_9 : decode cX6_init 9 = .ok (.invokespecial 9, 3) := by decide +kernel
theorem dX6_init_12 : decode cX6_init 12 = .ok (.putfield 10, 3) := by decide +kernel
theorem dX6_init_15 : decode cX6_init 15 = .ok (.aload_n 0, 1) := by decide +kernel
theorem dX6_init_16 : decode cX6_init 16 = .ok (.new 16, 3) := by decide +kernel
theorem dX6_init_19 : decode cX6_init 19 = .ok (.dup, 1) := by decide +kernel
theorem dX6_init_20 : decode cX6_init 20 = .ok (.aload_n 0, 1) := by decide +kernel
theorem dX6_init_21 : decode cX6_init 21 = .ok (.getfield 10, 3) := by decide +kernel
theorem dX6_init_24 : decode cX6_init 24 = .ok (.invokespecial 18, 3) := by decide +kernel
theorem dX6_init_27 : decode cX6_init 27 = .ok (.putfield 21, 3) := by decide +kernel
theorem dX6_init_30 : decode cX6_init 30 = .ok (.aload_n 0, 1) := by decide +kernel
theorem dX6_init_31 : decode cX6_init 31 = .ok (.new 25, 3) := by decide +kernel
theorem dX6_init_34 : decode cX6_init 34 = .ok (.dup, 1) := by decide +kernel
theorem dX6_init_35 : decode cX6_init 35 = .ok (.aload_n 0, 1) := by decide +kernel
theorem dX6_init_36 : decode cX6_init 36 = .ok (.getfield 10, 3) := by decide +kernel
theorem dX6_init_39 : decode cX6_init 39 = .ok (.aload_n 0, 1) := by decide +kernel
theorem dX6_init_40 : decode cX6_init 40 = .ok (.getfield 21, 3) := by decide +kernel
theorem dX6_init_43 : decode cX6_init 43 = .ok (.invokespecial 27, 3) := by decide +kernel
theorem dX6_init_46 : decode cX6_init 46 = .ok (.putfield 30, 3) := by decide +kernel
theorem dX6_init_49 : decode cX6_init 49 = .ok (.aload_n 0, 1) := by decide +kernel
theorem dX6_init_50 : decode cX6_init 50 = .ok (.new 34, 3) := by decide +kernel
theorem dX6_init_53 : decode cX6_init 53 = .ok (.dup, 1) := by decide +kernel
theorem dX6_init_54 : decode cX6_init 54 = .ok (.aload_n 0, 1) := by decide +kernel
theorem dX6_init_55 : decode cX6_init 55 = .ok (.getfield 10, 3) := by decide +kernel
theorem dX6_init_58 : decode cX6_init 58 = .ok (.aload_n 0, 1) := by decide +kernel
theorem dX6_init_59 : decode cX6_init 59 = .ok (.getfield 21, 3) := by decide +kernel
theorem dX6_init_62 : decode cX6_init 62 = .ok (.invokespecial 36, 3) := by decide +kernel
theorem dX6_init_65 : decode cX6_init 65 = .ok (.putfield 37, 3) := by decide +kernel
theorem dX6_init_68 : decode cX6_init 68 = .ok (.aload_n 0, 1) := by decide +kernel
theorem dX6_init_69 : decode cX6_init 69 = .ok (.new 41, 3) := by decide +kernel
theorem dX6_init_72 : decode cX6_init 72 = .ok (.dup, 1) := by decide +kernel
theorem dX6_init_73 : decode cX6_init 73 = .ok (.aload_n 0, 1) := by decide +kernel
theorem dX6_init_74 : decode cX6_init 74 = .ok (.getfield 21, 3) := by decide +kernel
theorem dX6_init_77 : decode cX6_init 77 = .ok (.invokespecial 43, 3) := by decide +kernel
theorem dX6_init_80 : decode cX6_init 80 = .ok (.putfield 46, 3) := by decide +kernel
theorem dX6_init_83 : decode cX6_init 83 = .ok (.aload_n 0, 1) := by decide +kernel
theorem dX6_init_84 : decode cX6_init 84 = .ok (.new 50, 3) := by decide +kernel
theorem dX6_init_87 : decode cX6_init 87 = .ok (.dup, 1) := by decide +kernel
theorem dX6_init_88 : decode cX6_init 88 = .ok (.invokespecial 52, 3) := by decide +kernel
theorem dX6_init_91 : decode cX6_init 91 = .ok (.putfield 53, 3) := by decide +kernel
theorem dX6_init_94 : decode cX6_init 94 = .ok (.aload_n 0, 1) := by decide +kernel
theorem dX6_init_95 : decode cX6_init 95 = .ok (.bipush 10, 2) := by decide +kernel
theorem dX6_init_97 : decode cX6_init 97 = .ok (.putfield 57, 3) := by decide +kernel
theorem dX6_init_100 : decode cX6_init 100 = .ok (.aload_n 0, 1) := by decide +kernel
theorem dX6_init_101 : decode cX6_init 101 = .ok (.iconst 0, 1) := by decide +kernel
theorem dX6_init_102 : decode cX6_init 102 = .ok (.putfield 61, 3) := by decide +kernel
theorem dX6_init_105 : decode cX6_init 105 = .ok (.return_, 1) := by decide +kernel
theorem dX6_begin_0 : decode cX6_begin 0 = .ok (.iload_n 1, 1) := by decide +kernel
theorem dX6_begin_1 : decode cX6_begin 1 = .ok (.ifCond .lt 17, 3) := by decide +kernel
theorem dX6_begin_4 : decode cX6_begin 4 = .ok (.iload_n 1, 1) := by decide +kernel
theorem dX6_begin_5 : decode cX6_begin 5 = .ok (.bipush 63, 2) := by decide +kernel
theorem dX6_begin_7 : decode cX6_begin 7 = .ok (.if_icmp .gt 11, 3) := by decide +kernel
theorem dX6_begin_10 : decode cX6_begin 10 = .ok (.iload_n 1, 1) := by decide +kernel
theorem dX6_begin_11 : decode cX6_begin 11 = .ok (.invokestatic 64, 3) := by decide +kernel
theorem dX6_begin_14 : decode cX6_begin 14 = .ok (.iconst 2, 1) := by decide +kernel
theorem dX6_begin_15 : decode cX6_begin 15 = .ok (.if_icmp .ge 13, 3) := by decide +kernel
theorem dX6_begin_18 : decode cX6_begin 18 = .ok (.new 70, 3) := by decide +kernel
theorem dX6_begin_21 : decode cX6_begin 21 = .ok (.dup, 1) := by decide +kernel
theorem dX6_begin_22 : decode cX6_begin 22 = .ok (.ldc 72, 2) := by decide +kernel
theorem dX6_begin_24 : decode cX6_begin 24 = .ok (.invokespecial 74, 3) := by decide +kernel
theorem dX6_begin_27 : decode cX6_begin 27 = .ok (.athrow, 1) := by decide +kernel
theorem dX6_begin_28 : decode cX6_begin 28 = .ok (.aload_n 0, 1) := by decide +kernel
theorem dX6_begin_29 : decode cX6_begin 29 = .ok (.getfield 21, 3) := by decide +kernel
theorem dX6_begin_32 : decode cX6_begin 32 = .ok (.iload_n 1, 1) := by decide +kernel
theorem dX6_begin_33 : decode cX6_begin 33 = .ok (.invokevirtual 77, 3) := by decide +kernel
theorem dX6_begin_36 : decode cX6_begin 36 = .ok (.aload_n 0, 1) := by decide +kernel
theorem dX6_begin_37 : decode cX6_begin 37 = .ok (.getfield 46, 3) := by decide +kernel
theorem dX6_begin_40 : decode cX6_begin 40 = .ok (.iload_n 1, 1) := by decide +kernel
theorem dX6_begin_41 : decode cX6_begin 41 = .ok (.invokevirtual 81, 3) := by decide +kernel
theorem dX6_begin_44 : decode cX6_begin 44 = .ok (.aload_n 0, 1) := by decide +kernel
theorem dX6_begin_45 : decode cX6_begin 45 = .ok (.getfield 53, 3) := by decide +kernel
theorem dX6_begin_48 : decode cX6_begin 48 = .ok (.invokevirtual 82, 3) := by decide +kernel
theorem dX6_begin_51 : decode cX6_begin 51 = .ok (.return_, 1) := by decide +kernel
theorem dX6_setFill_0 : decode cX6_setFill 0 = .ok (.iload_n 1, 1) := by decide +kernel
theorem dX6_setFill_1 : decode cX6_setFill 1 = .ok (.iconst 1, 1) := by decide +kernel
theorem dX6_setFill_2 : decode cX6_setFill 2 = .ok (.if_icmp .lt 9, 3) := by decide +kernel
theorem dX6_setFill_5 : decode cX6_setFill 5 = .ok (.iload_n 1, 1) := by decide +kernel
theorem dX6_setFill_6 : decode cX6_setFill 6 = .ok (.bipush 10, 2) := by decide +kernel
theorem dX6_setFill_8 : decode cX6_setFill 8 = .ok (.if_icmp .le 13, 3) := by decide +kernel
theorem dX6_setFill_11 : decode cX6_setFill 11 = .ok (.new 70, 3) := by decide +kernel
theorem dX6_setFill_14 : decode cX6_setFill 14 = .ok (.dup, 1) := by decide +kernel
theorem dX6_setFill_15 : decode cX6_setFill 15 = .ok (.ldc 85, 2) := by decide +kernel
theorem dX6_setFill_17 : decode cX6_setFill 17 = .ok (.invokespecial 74, 3) := by decide +kernel
theorem dX6_setFill_20 : decode cX6_setFill 20 = .ok (.athrow, 1) := by decide +kernel
theorem dX6_setFill_21 : decode cX6_setFill 21 = .ok (.aload_n 0, 1) := by decide +kernel
theorem dX6_setFill_22 : decode cX6_setFill 22 = .ok (.getfield 57, 3) := by decide +kernel
theorem dX6_setFill_25 : decode cX6_setFill 25 = .ok (.istore_n 2, 1) := by decide +kernel
theorem dX6_setFill_26 : decode cX6_setFill 26 = .ok (.aload_n 0, 1) := by decide +kernel
theorem dX6_setFill_27 : decode cX6_setFill 27 = .ok (.iload_n 1, 1) := by decide +kernel
theorem dX6_setFill_28 : decode cX6_setFill 28 = .ok (.putfield 57, 3) := by decide +kernel
theorem dX6_setFill_31 : decode cX6_setFill 31 = .ok (.iload_n 2, 1) := by decide +kernel
theorem dX6_setFill_32 : decode cX6_setFill 32 = .ok (.ireturn, 1) := by decide +kernel
theorem dX6_setPatience_0 : decode cX6_setPatience 0 = .ok (.iload_n 1, 1) := by decide +kernel
theorem dX6_setPatience_1 : decode cX6_setPatience 1 = .ok (.ifCond .lt 9, 3) := by decide +kernel
theorem dX6_setPatience_4 : decode cX6_setPatience 4 = .ok (.iload_n 1, 1) := by decide +kernel
theorem dX6_setPatience_5 : decode cX6_setPatience 5 = .ok (.bipush 100, 2) := by decide +kernel
theorem dX6_setPatience_7 : decode cX6_setPatience 7 = .ok (.if_icmp .le 13, 3) := by decide +kernel
theorem dX6_setPatience_10 : decode cX6_setPatience 10 = .ok (.new 70, 3) := by decide +kernel
theorem dX6_setPatience_13 : decode cX6_setPatience 13 = .ok (.dup, 1) := by decide +kernel
theorem dX6_setPatience_14 : decode cX6_setPatience 14 = .ok (.ldc 87, 2) := by decide +kernel
theorem dX6_setPatience_16 : decode cX6_setPatience 16 = .ok (.invokespecial 74, 3) := by decide +kernel
theorem dX6_setPatience_19 : decode cX6_setPatience 19 = .ok (.athrow, 1) := by decide +kernel
theorem dX6_setPatience_20 : decode cX6_setPatience 20 = .ok (.aload_n 0, 1) := by decide +kernel
theorem dX6_setPatience_21 : decode cX6_setPatience 21 = .ok (.getfield 61, 3) := by decide +kernel
theorem dX6_setPatience_24 : decode cX6_setPatience 24 = .ok (.istore_n 2, 1) := by decide +kernel
theorem dX6_setPatience_25 : decode cX6_setPatience 25 = .ok (.aload_n 0, 1) := by decide +kernel
theorem dX6_setPatience_26 : decode cX6_setPatience 26 = .ok (.iload_n 1, 1) := by decide +kernel
theorem dX6_setPatience_27 : decode cX6_setPatience 27 = .ok (.putfield 61, 3) := by decide +kernel
theorem dX6_setPatience_30 : decode cX6_setPatience 30 = .ok (.iload_n 2, 1) := by decide +kernel
theorem dX6_setPatience_31 : decode cX6_setPatience 31 = .ok (.ireturn, 1) := by decide +kernel
theorem dX6_move_0 : decode cX6_move 0 = .ok (.iload_n 1, 1) := by decide +kernel
theorem dX6_move_1 : decode cX6_move 1 = .ok (.invokestatic 89, 3) := by decide +kernel
theorem dX6_move_4 : decode cX6_move 4 = .ok (.ifCond .eq 10, 3) := by decide +kernel
theorem dX6_move_7 : decode cX6_move 7 = .ok (.iload_n 2, 1) := by decide +kernel
theorem dX6_move_8 : decode cX6_move 8 = .ok (.invokestatic 89, 3) := by decide +kernel
theorem dX6_move_11 : decode cX6_move 11 = .ok (.ifCond .ne 13, 3) := by decide +kernel
theorem dX6_move_14 : decode cX6_move 14 = .ok (.new 93, 3) := by decide +kernel
theorem dX6_move_17 : decode cX6_move 17 = .ok (.dup, 1) := by decide +kernel
theorem dX6_move_18 : decode cX6_move 18 = .ok (.ldc 95, 2) := by decide +kernel
theorem dX6_move_20 : decode cX6_move 20 = .ok (.invokespecial 97, 3) := by decide +kernel
theorem dX6_move_23 : decode cX6_move 23 = .ok (.athrow, 1) := by decide +kernel
theorem dX6_move_24 : decode cX6_move 24 = .ok (.aload_n 0, 1) := by decide +kernel
theorem dX6_move_25 : decode cX6_move 25 = .ok (.invokevirtual 98, 3) := by decide +kernel
theorem dX6_move_28 : decode cX6_move 28 = .ok (.ifCond .ne 13, 3) := by decide +kernel
theorem dX6_move_31 : decode cX6_move 31 = .ok (.new 102, 3) := by decide +kernel
theorem dX6_move_34 : decode cX6_move 34 = .ok (.dup, 1) := by decide +kernel
theorem dX6_move_35 : decode cX6_move 35 = .ok (.ldc 104, 2) := by decide +kernel
theorem dX6_move_37 : decode cX6_move 37 = .ok (.invokespecial 106, 3) := by decide +kernel
theorem dX6_move_40 : decode cX6_move 40 = .ok (.athrow, 1) := by decide +kernel
theorem dX6_move_41 : decode cX6_move 41 = .ok (.aload_n 0, 1) := by decide +kernel
theorem dX6_move_42 : decode cX6_move 42 = .ok (.getfield 30, 3) := by decide +kernel
theorem dX6_move_45 : decode cX6_move 45 = .ok (.aload_n 0, 1) := by decide +kernel
theorem dX6_move_46 : decode cX6_move 46 = .ok (.getfield 46, 3) := by decide +kernel
theorem dX6_move_49 : decode cX6_move 49 = .ok (.invokevirtual 107, 3) := by decide +kernel
theorem dX6_move_52 : decode cX6_move 52 = .ok (.iload_n 1, 1) := by decide +kernel
theorem dX6_move_53 : decode cX6_move 53 = .ok (.invokevirtual 111, 3) := by decide +kernel
theorem dX6_move_56 : decode cX6_move 56 = .ok (.aload_n 0, 1) := by decide +kernel
theorem dX6_move_57 : decode cX6_move 57 = .ok (.getfield 30, 3) := by decide +kernel
theorem dX6_move_60 : decode cX6_move 60 = .ok (.iload_n 2, 1) := by decide +kernel
theorem dX6_move_61 : decode cX6_move 61 = .ok (.invokevirtual 115, 3) := by decide +kernel
theorem dX6_move_64 : decode cX6_move 64 = .ok (.istore_n 3, 1) := by decide +kernel
theorem dX6_move_65 : decode cX6_move 65 = .ok (.iload_n 3, 1) := by decide +kernel
theorem dX6_move_66 : decode cX6_move 66 = .ok (.iconst (-1), 1) := by decide +kernel
theorem dX6_move_67 : decode cX6_move 67 = .ok (.if_icmp .ne 13, 3) := by decide +kernel
theorem dX6_move_70 : decode cX6_move 70 = .ok (.new 70, 3) := by decide +kernel
theorem dX6_move_73 : decode cX6_move 73 = .ok (.dup, 1) := by decide +kernel
theorem dX6_move_74 : decode cX6_move 74 = .ok (.ldc 118, 2) := by decide +kernel
theorem dX6_move_76 : decode cX6_move 76 = .ok (.invokespecial 74, 3) := by decide +kernel
theorem dX6_move_79 : decode cX6_move 79 = .ok (.athrow, 1) := by decide +kernel
theorem dX6_move_80 : decode cX6_move 80 = .ok (.aload_n 0, 1) := by decide +kernel
theorem dX6_move_81 : decode cX6_move 81 = .ok (.getfield 53, 3) := by decide +kernel
theorem dX6_move_84 : decode cX6_move 84 = .ok (.iload_n 1, 1) := by decide +kernel
theorem dX6_move_85 : decode cX6_move 85 = .ok (.iload_n 2, 1) := by decide +kernel
theorem dX6_move_86 : decode cX6_move 86 = .ok (.aload_n 0, 1) := by decide +kernel
theorem dX6_move_87 : decode cX6_move 87 = .ok (.getfield 46, 3) := by decide +kernel
theorem dX6_move_90 : decode cX6_move 90 = .ok (.invokevirtual 120, 3) := by decide +kernel
theorem dX6_move_93 : decode cX6_move 93 = .ok (.aload_n 0, 1) := by decide +kernel
theorem dX6_move_94 : decode cX6_move 94 = .ok (.getfield 21, 3) := by decide +kernel
theorem dX6_move_97 : decode cX6_move 97 = .ok (.iload_n 1, 1) := by decide +kernel
theorem dX6_move_98 : decode cX6_move 98 = .ok (.iload_n 2, 1) := by decide +kernel
theorem dX6_move_99 : decode cX6_move 99 = .ok (.invokevirtual 124, 3) := by decide +kernel
theorem dX6_move_102 : decode cX6_move 102 = .ok (.aload_n 0, 1) := by decide +kernel
theorem dX6_move_103 : decode cX6_move 103 = .ok (.getfield 46, 3) := by decide +kernel
theorem dX6_move_106 : decode cX6_move 106 = .ok (.invokevirtual 127, 3) := by decide +kernel
theorem dX6_move_109 : decode cX6_move 109 = .ok (.aload_n 0, 1) := by decide +kernel
theorem dX6_move_110 : decode cX6_move 110 = .ok (.getfield 46, 3) := by decide +kernel
theorem dX6_move_113 : decode cX6_move 113 = .ok (.aload_n 0, 1) := by decide +kernel
theorem dX6_move_114 : decode cX6_move 114 = .ok (.getfield 57, 3) := by decide +kernel
theorem dX6_move_117 : decode cX6_move 117 = .ok (.invokevirtual 130, 3) := by decide +kernel
theorem dX6_move_120 : decode cX6_move 120 = .ok (.aload_n 0, 1) := by decide +kernel
theorem dX6_move_121 : decode cX6_move 121 = .ok (.getfield 46, 3) := by decide +kernel
theorem dX6_move_124 : decode cX6_move 124 = .ok (.aload_n 0, 1) := by decide +kernel
theorem dX6_move_125 : decode cX6_move 125 = .ok (.getfield 61, 3) := by decide +kernel
theorem dX6_move_128 : decode cX6_move 128 = .ok (.invokevirtual 133, 3) := by decide +kernel
theorem dX6_move_131 : decode cX6_move 131 = .ok (.iload_n 3, 1) := by decide +kernel
theorem dX6_move_132 : decode cX6_move 132 = .ok (.ireturn, 1) := by decide +kernel
theorem dX6_pass_0 : decode cX6_pass 0 = .ok (.aload_n 0, 1) := by decide +kernel
theorem dX6_pass_1 : decode cX6_pass 1 = .ok (.invokevirtual 98, 3) := by decide +kernel
theorem dX6_pass_4 : decode cX6_pass 4 = .ok (.ifCond .eq 10, 3) := by decide +kernel
theorem dX6_pass_7 : decode cX6_pass 7 = .ok (.aload_n 0, 1) := by decide +kernel
theorem dX6_pass_8 : decode cX6_pass 8 = .ok (.invokevirtual 136, 3) := by decide +kernel
theorem dX6_pass_11 : decode cX6_pass 11 = .ok (.ifCond .le 13, 3) := by decide +kernel
theorem dX6_pass_14 : decode cX6_pass 14 = .ok (.new 102, 3) := by decide +kernel
theorem dX6_pass_17 : decode cX6_pass 17 = .ok (.dup, 1) := by decide +kernel
theorem dX6_pass_18 : decode cX6_pass 18 = .ok (.ldc 139, 2) := by decide +kernel
theorem dX6_pass_20 : decode cX6_pass 20 = .ok (.invokespecial 106, 3) := by decide +kernel
theorem dX6_pass_23 : decode cX6_pass 23 = .ok (.athrow, 1) := by decide +kernel
theorem dX6_pass_24 : decode cX6_pass 24 = .ok (.aload_n 0, 1) := by decide +kernel
theorem dX6_pass_25 : decode cX6_pass 25 = .ok (.getfield 53, 3) := by decide +kernel
theorem dX6_pass_28 : decode cX6_pass 28 = .ok (.iconst (-1), 1) := by decide +kernel
theorem dX6_pass_29 : decode cX6_pass 29 = .ok (.iconst (-1), 1) := by decide +kernel
theorem dX6_pass_30 : decode cX6_pass 30 = .ok (.aload_n 0, 1) := by decide +kernel
theorem dX6_pass_31 : decode cX6_pass 31 = .ok (.getfield 46, 3) := by decide +kernel
theorem dX6_pass_34 : decode cX6_pass 34 = .ok (.invokevirtual 120, 3) := by decide +kernel
theorem dX6_pass_37 : decode cX6_pass 37 = .ok (.aload_n 0, 1) := by decide +kernel
theorem dX6_pass_38 : decode cX6_pass 38 = .ok (.getfield 46, 3) := by decide +kernel
theorem dX6_pass_41 : decode cX6_pass 41 = .ok (.invokevirtual 127, 3) := by decide +kernel
theorem dX6_pass_44 : decode cX6_pass 44 = .ok (.aload_n 0, 1) := by decide +kernel
theorem dX6_pass_45 : decode cX6_pass 45 = .ok (.getfield 46, 3) := by decide +kernel
theorem dX6_pass_48 : decode cX6_pass 48 = .ok (.aload_n 0, 1) := by decide +kernel
theorem dX6_pass_49 : decode cX6_pass 49 = .ok (.getfield 61, 3) := by decide +kernel
theorem dX6_pass_52 : decode cX6_pass 52 = .ok (.invokevirtual 133, 3) := by decide +kernel
theorem dX6_pass_55 : decode cX6_pass 55 = .ok (.return_, 1) := by decide +kernel
theorem dX6_undo_0 : decode cX6_undo 0 = .ok (.aload_n 0, 1) := by decide +kernel
theorem dX6_undo_1 : decode cX6_undo 1 = .ok (.getfield 53, 3) := by decide +kernel
theorem dX6_undo_4 : decode cX6_undo 4 = .ok (.invokevirtual 141, 3) := by decide +kernel
theorem dX6_undo_7 : decode cX6_undo 7 = .ok (.ifCond .ne 13, 3) := by decide +kernel
theorem dX6_undo_10 : decode cX6_undo 10 = .ok (.new 102, 3) := by decide +kernel
theorem dX6_undo_13 : decode cX6_undo 13 = .ok (.dup, 1) := by decide +kernel
theorem dX6_undo_14 : decode cX6_undo 14 = .ok (.ldc 144, 2) := by decide +kernel
theorem dX6_undo_16 : decode cX6_undo 16 = .ok (.invokespecial 106, 3) := by decide +kernel
theorem dX6_undo_19 : decode cX6_undo 19 = .ok (.athrow, 1) := by decide +kernel
theorem dX6_undo_20 : decode cX6_undo 20 = .ok (.aload_n 0, 1) := by decide +kernel
theorem dX6_undo_21 : decode cX6_undo 21 = .ok (.getfield 53, 3) := by decide +kernel
theorem dX6_undo_24 : decode cX6_undo 24 = .ok (.aload_n 0, 1) := by decide +kernel
theorem dX6_undo_25 : decode cX6_undo 25 = .ok (.getfield 21, 3) := by decide +kernel
theorem dX6_undo_28 : decode cX6_undo 28 = .ok (.aload_n 0, 1) := by decide +kernel
theorem dX6_undo_29 : decode cX6_undo 29 = .ok (.getfield 46, 3) := by decide +kernel
theorem dX6_undo_32 : decode cX6_undo 32 = .ok (.invokevirtual 146, 3) := by decide +kernel
theorem dX6_undo_35 : decode cX6_undo 35 = .ok (.aload_n 0, 1) := by decide +kernel
theorem dX6_undo_36 : decode cX6_undo 36 = .ok (.getfield 53, 3) := by decide +kernel
theorem dX6_undo_39 : decode cX6_undo 39 = .ok (.invokevirtual 141, 3) := by decide +kernel
theorem dX6_undo_42 : decode cX6_undo 42 = .ok (.ireturn, 1) := by decide +kernel
theorem dX6_at_0 : decode cX6_at 0 = .ok (.iload_n 1, 1) := by decide +kernel
theorem dX6_at_1 : decode cX6_at 1 = .ok (.invokestatic 89, 3) := by decide +kernel
theorem dX6_at_4 : decode cX6_at 4 = .ok (.ifCond .ne 13, 3) := by decide +kernel
theorem dX6_at_7 : decode cX6_at 7 = .ok (.new 93, 3) := by decide +kernel
theorem dX6_at_10 : decode cX6_at 10 = .ok (.dup, 1) := by decide +kernel
theorem dX6_at_11 : decode cX6_at 11 = .ok (.ldc 95, 2) := by decide +kernel
theorem dX6_at_13 : decode cX6_at 13 = .ok (.invokespecial 97, 3) := by decide +kernel
theorem dX6_at_16 : decode cX6_at 16 = .ok (.athrow, 1) := by decide +kernel
theorem dX6_at_17 : decode cX6_at 17 = .ok (.aload_n 0, 1) := by decide +kernel
theorem dX6_at_18 : decode cX6_at 18 = .ok (.getfield 21, 3) := by decide +kernel
theorem dX6_at_21 : decode cX6_at 21 = .ok (.iload_n 1, 1) := by decide +kernel
theorem dX6_at_22 : decode cX6_at 22 = .ok (.invokevirtual 150, 3) := by decide +kernel
theorem dX6_at_25 : decode cX6_at 25 = .ok (.ireturn, 1) := by decide +kernel
theorem dX6_cellAt_0 : decode cX6_cellAt 0 = .ok (.iload_n 1, 1) := by decide +kernel
theorem dX6_cellAt_1 : decode cX6_cellAt 1 = .ok (.iload_n 2, 1) := by decide +kernel
theorem dX6_cellAt_2 : decode cX6_cellAt 2 = .ok (.invokestatic 153, 3) := by decide +kernel
theorem dX6_cellAt_5 : decode cX6_cellAt 5 = .ok (.ireturn, 1) := by decide +kernel
theorem dX6_campOf_0 : decode cX6_campOf 0 = .ok (.iload_n 1, 1) := by decide +kernel
theorem dX6_campOf_1 : decode cX6_campOf 1 = .ok (.invokestatic 89, 3) := by decide +kernel
theorem dX6_campOf_4 : decode cX6_campOf 4 = .ok (.ifCond .ne 13, 3) := by decide +kernel
theorem dX6_campOf_7 : decode cX6_campOf 7 = .ok (.new 93, 3) := by decide +kernel
theorem dX6_campOf_10 : decode cX6_campOf 10 = .ok (.dup, 1) := by decide +kernel
theorem dX6_campOf_11 : decode cX6_campOf 11 = .ok (.ldc 95, 2) := by decide +kernel
theorem dX6_campOf_13 : decode cX6_campOf 13 = .ok (.invokespecial 97, 3) := by decide +kernel
theorem dX6_campOf_16 : decode cX6_campOf 16 = .ok (.athrow, 1) := by decide +kernel
theorem dX6_campOf_17 : decode cX6_campOf 17 = .ok (.aload_n 0, 1) := by decide +kernel
theorem dX6_campOf_18 : decode cX6_campOf 18 = .ok (.getfield 10, 3) := by decide +kernel
theorem dX6_campOf_21 : decode cX6_campOf 21 = .ok (.iload_n 1, 1) := by decide +kernel
theorem dX6_campOf_22 : decode cX6_campOf 22 = .ok (.invokevirtual 157, 3) := by decide +kernel
theorem dX6_campOf_25 : decode cX6_campOf 25 = .ok (.ireturn, 1) := by decide +kernel
theorem dX6_distance_0 : decode cX6_distance 0 = .ok (.iload_n 1, 1) := by decide +kernel
theorem dX6_distance_1 : decode cX6_distance 1 = .ok (.invokestatic 89, 3) := by decide +kernel
theorem dX6_distance_4 : decode cX6_distance 4 = .ok (.ifCond .eq 10, 3) := by decide +kernel
theorem dX6_distance_7 : decode cX6_distance 7 = .ok (.iload_n 2, 1) := by decide +kernel
theorem dX6_distance_8 : decode cX6_distance 8 = .ok (.invokestatic 89, 3) := by decide +kernel
theorem dX6_distance_11 : decode cX6_distance 11 = .ok (.ifCond .ne 13, 3) := by decide +kernel
theorem dX6_distance_14 : decode cX6_distance 14 = .ok (.new 93, 3) := by decide +kernel
theorem dX6_distance_17 : decode cX6_distance 17 = .ok (.dup, 1) := by decide +kernel
theorem dX6_distance_18 : decode cX6_distance 18 = .ok (.ldc 95, 2) := by decide +kernel
theorem dX6_distance_20 : decode cX6_distance 20 = .ok (.invokespecial 97, 3) := by decide +kernel
theorem dX6_distance_23 : decode cX6_distance 23 = .ok (.athrow, 1) := by decide +kernel
theorem dX6_distance_24 : decode cX6_distance 24 = .ok (.aload_n 0, 1) := by decide +kernel
theorem dX6_distance_25 : decode cX6_distance 25 = .ok (.getfield 10, 3) := by decide +kernel
theorem dX6_distance_28 : decode cX6_distance 28 = .ok (.iload_n 1, 1) := by decide +kernel
theorem dX6_distance_29 : decode cX6_distance 29 = .ok (.iload_n 2, 1) := by decide +kernel
theorem dX6_distance_30 : decode cX6_distance 30 = .ok (.invokevirtual 160, 3) := by decide +kernel
theorem dX6_distance_33 : decode cX6_distance 33 = .ok (.ireturn, 1) := by decide +kernel
theorem dX6_turn_0 : decode cX6_turn 0 = .ok (.aload_n 0, 1) := by decide +kernel
theorem dX6_turn_1 : decode cX6_turn 1 = .ok (.getfield 46, 3) := by decide +kernel
theorem dX6_turn_4 : decode cX6_turn 4 = .ok (.invokevirtual 107, 3) := by decide +kernel
theorem dX6_turn_7 : decode cX6_turn 7 = .ok (.ireturn, 1) := by decide +kernel
theorem dX6_made_0 : decode cX6_made 0 = .ok (.aload_n 0, 1) := by decide +kernel
theorem dX6_made_1 : decode cX6_made 1 = .ok (.getfield 53, 3) := by decide +kernel
theorem dX6_made_4 : decode cX6_made 4 = .ok (.invokevirtual 141, 3) := by decide +kernel
theorem dX6_made_7 : decode cX6_made 7 = .ok (.ireturn, 1) := by decide +kernel
theorem dX6_ends_0 : decode cX6_ends 0 = .ok (.iload_n 1, 1) := by decide +kernel
theorem dX6_ends_1 : decode cX6_ends 1 = .ok (.invokestatic 89, 3) := by decide +kernel
theorem dX6_ends_4 : decode cX6_ends 4 = .ok (.ifCond .ne 13, 3) := by decide +kernel
theorem dX6_ends_7 : decode cX6_ends 7 = .ok (.new 93, 3) := by decide +kernel
theorem dX6_ends_10 : decode cX6_ends 10 = .ok (.dup, 1) := by decide +kernel
theorem dX6_ends_11 : decode cX6_ends 11 = .ok (.ldc 95, 2) := by decide +kernel
theorem dX6_ends_13 : decode cX6_ends 13 = .ok (.invokespecial 97, 3) := by decide +kernel
theorem dX6_ends_16 : decode cX6_ends 16 = .ok (.athrow, 1) := by decide +kernel
theorem dX6_ends_17 : decode cX6_ends 17 = .ok (.aload_n 0, 1) := by decide +kernel
theorem dX6_ends_18 : decode cX6_ends 18 = .ok (.getfield 30, 3) := by decide +kernel
theorem dX6_ends_21 : decode cX6_ends 21 = .ok (.aload_n 0, 1) := by decide +kernel
theorem dX6_ends_22 : decode cX6_ends 22 = .ok (.getfield 46, 3) := by decide +kernel
theorem dX6_ends_25 : decode cX6_ends 25 = .ok (.invokevirtual 107, 3) := by decide +kernel
theorem dX6_ends_28 : decode cX6_ends 28 = .ok (.iload_n 1, 1) := by decide +kernel
theorem dX6_ends_29 : decode cX6_ends 29 = .ok (.invokevirtual 111, 3) := by decide +kernel
theorem dX6_ends_32 : decode cX6_ends 32 = .ok (.aload_n 0, 1) := by decide +kernel
theorem dX6_ends_33 : decode cX6_ends 33 = .ok (.getfield 30, 3) := by decide +kernel
theorem dX6_ends_36 : decode cX6_ends 36 = .ok (.invokevirtual 163, 3) := by decide +kernel
theorem dX6_ends_39 : decode cX6_ends 39 = .ok (.ireturn, 1) := by decide +kernel
theorem dX6_endAt_0 : decode cX6_endAt 0 = .ok (.iload_n 1, 1) := by decide +kernel
theorem dX6_endAt_1 : decode cX6_endAt 1 = .ok (.invokestatic 89, 3) := by decide +kernel
theorem dX6_endAt_4 : decode cX6_endAt 4 = .ok (.ifCond .ne 13, 3) := by decide +kernel
theorem dX6_endAt_7 : decode cX6_endAt 7 = .ok (.new 93, 3) := by decide +kernel
theorem dX6_endAt_10 : decode cX6_endAt 10 = .ok (.dup, 1) := by decide +kernel
theorem dX6_endAt_11 : decode cX6_endAt 11 = .ok (.ldc 95, 2) := by decide +kernel
theorem dX6_endAt_13 : decode cX6_endAt 13 = .ok (.invokespecial 97, 3) := by decide +kernel
theorem dX6_endAt_16 : decode cX6_endAt 16 = .ok (.athrow, 1) := by decide +kernel
theorem dX6_endAt_17 : decode cX6_endAt 17 = .ok (.aload_n 0, 1) := by decide +kernel
theorem dX6_endAt_18 : decode cX6_endAt 18 = .ok (.getfield 30, 3) := by decide +kernel
theorem dX6_endAt_21 : decode cX6_endAt 21 = .ok (.aload_n 0, 1) := by decide +kernel
theorem dX6_endAt_22 : decode cX6_endAt 22 = .ok (.getfield 46, 3) := by decide +kernel
theorem dX6_endAt_25 : decode cX6_endAt 25 = .ok (.invokevirtual 107, 3) := by decide +kernel
theorem dX6_endAt_28 : decode cX6_endAt 28 = .ok (.iload_n 1, 1) := by decide +kernel
theorem dX6_endAt_29 : decode cX6_endAt 29 = .ok (.invokevirtual 111, 3) := by decide +kernel
theorem dX6_endAt_32 : decode cX6_endAt 32 = .ok (.aload_n 0, 1) := by decide +kernel
theorem dX6_endAt_33 : decode cX6_endAt 33 = .ok (.getfield 30, 3) := by decide +kernel
theorem dX6_endAt_36 : decode cX6_endAt 36 = .ok (.iload_n 2, 1) := by decide +kernel
theorem dX6_endAt_37 : decode cX6_endAt 37 = .ok (.invokevirtual 166, 3) := by decide +kernel
theorem dX6_endAt_40 : decode cX6_endAt 40 = .ok (.istore_n 3, 1) := by decide +kernel
theorem dX6_endAt_41 : decode cX6_endAt 41 = .ok (.iload_n 3, 1) := by decide +kernel
theorem dX6_endAt_42 : decode cX6_endAt 42 = .ok (.iconst (-1), 1) := by decide +kernel
theorem dX6_endAt_43 : decode cX6_endAt 43 = .ok (.if_icmp .ne 13, 3) := by decide +kernel
theorem dX6_endAt_46 : decode cX6_endAt 46 = .ok (.new 93, 3) := by decide +kernel
theorem dX6_endAt_49 : decode cX6_endAt 49 = .ok (.dup, 1) := by decide +kernel
theorem dX6_endAt_50 : decode cX6_endAt 50 = .ok (.ldc 169, 2) := by decide +kernel
theorem dX6_endAt_52 : decode cX6_endAt 52 = .ok (.invokespecial 97, 3) := by decide +kernel
theorem dX6_endAt_55 : decode cX6_endAt 55 = .ok (.athrow, 1) := by decide +kernel
theorem dX6_endAt_56 : decode cX6_endAt 56 = .ok (.iload_n 3, 1) := by decide +kernel
theorem dX6_endAt_57 : decode cX6_endAt 57 = .ok (.ireturn, 1) := by decide +kernel
theorem dX6_moves_0 : decode cX6_moves 0 = .ok (.aload_n 0, 1) := by decide +kernel
theorem dX6_moves_1 : decode cX6_moves 1 = .ok (.getfield 46, 3) := by decide +kernel
theorem dX6_moves_4 : decode cX6_moves 4 = .ok (.invokevirtual 107, 3) := by decide +kernel
theorem dX6_moves_7 : decode cX6_moves 7 = .ok (.istore_n 1, 1) := by decide +kernel
theorem dX6_moves_8 : decode cX6_moves 8 = .ok (.iconst 0, 1) := by decide +kernel
theorem dX6_moves_9 : decode cX6_moves 9 = .ok (.istore_n 2, 1) := by decide +kernel
theorem dX6_moves_10 : decode cX6_moves 10 = .ok (.iconst 0, 1) := by decide +kernel
theorem dX6_moves_11 : decode cX6_moves 11 = .ok (.istore_n 3, 1) := by decide +kernel
theorem dX6_moves_12 : decode cX6_moves 12 = .ok (.iload_n 3, 1) := by decide +kernel
theorem dX6_moves_13 : decode cX6_moves 13 = .ok (.bipush 121, 2) := by decide +kernel
theorem dX6_moves_15 : decode cX6_moves 15 = .ok (.if_icmp .ge 45, 3) := by decide +kernel
theorem dX6_moves_18 : decode cX6_moves 18 = .ok (.iload_n 1, 1) := by decide +kernel
theorem dX6_moves_19 : decode cX6_moves 19 = .ok (.iconst (-1), 1) := by decide +kernel
theorem dX6_moves_20 : decode cX6_moves 20 = .ok (.if_icmp .eq 34, 3) := by decide +kernel
theorem dX6_moves_23 : decode cX6_moves 23 = .ok (.aload_n 0, 1) := by decide +kernel
theorem dX6_moves_24 : decode cX6_moves 24 = .ok (.getfield 21, 3) := by decide +kernel
theorem dX6_moves_27 : decode cX6_moves 27 = .ok (.iload_n 3, 1) := by decide +kernel
theorem dX6_moves_28 : decode cX6_moves 28 = .ok (.invokevirtual 150, 3) := by decide +kernel
theorem dX6_moves_31 : decode cX6_moves 31 = .ok (.iload_n 1, 1) := by decide +kernel
theorem dX6_moves_32 : decode cX6_moves 32 = .ok (.if_icmp .ne 22, 3) := by decide +kernel
theorem dX6_moves_35 : decode cX6_moves 35 = .ok (.aload_n 0, 1) := by decide +kernel
theorem dX6_moves_36 : decode cX6_moves 36 = .ok (.getfield 30, 3) := by decide +kernel
theorem dX6_moves_39 : decode cX6_moves 39 = .ok (.iload_n 1, 1) := by decide +kernel
theorem dX6_moves_40 : decode cX6_moves 40 = .ok (.iload_n 3, 1) := by decide +kernel
theorem dX6_moves_41 : decode cX6_moves 41 = .ok (.invokevirtual 111, 3) := by decide +kernel
theorem dX6_moves_44 : decode cX6_moves 44 = .ok (.iload_n 2, 1) := by decide +kernel
theorem dX6_moves_45 : decode cX6_moves 45 = .ok (.aload_n 0, 1) := by decide +kernel
theorem dX6_moves_46 : decode cX6_moves 46 = .ok (.getfield 30, 3) := by decide +kernel
theorem dX6_moves_49 : decode cX6_moves 49 = .ok (.invokevirtual 163, 3) := by decide +kernel
theorem dX6_moves_52 : decode cX6_moves 52 = .ok (.iadd, 1) := by decide +kernel
theorem dX6_moves_53 : decode cX6_moves 53 = .ok (.istore_n 2, 1) := by decide +kernel
theorem dX6_moves_54 : decode cX6_moves 54 = .ok (.iinc 3 1, 3) := by decide +kernel
theorem dX6_moves_57 : decode cX6_moves 57 = .ok (.goto (-45), 3) := by decide +kernel
theorem dX6_moves_60 : decode cX6_moves 60 = .ok (.iload_n 2, 1) := by decide +kernel
theorem dX6_moves_61 : decode cX6_moves 61 = .ok (.ireturn, 1) := by decide +kernel
theorem dX6_chainAt_0 : decode cX6_chainAt 0 = .ok (.iload_n 1, 1) := by decide +kernel
theorem dX6_chainAt_1 : decode cX6_chainAt 1 = .ok (.invokestatic 89, 3) := by decide +kernel
theorem dX6_chainAt_4 : decode cX6_chainAt 4 = .ok (.ifCond .eq 14, 3) := by decide +kernel
theorem dX6_chainAt_7 : decode cX6_chainAt 7 = .ok (.iload_n 2, 1) := by decide +kernel
theorem dX6_chainAt_8 : decode cX6_chainAt 8 = .ok (.invokestatic 89, 3) := by decide +kernel
theorem dX6_chainAt_11 : decode cX6_chainAt 11 = .ok (.ifCond .eq 7, 3) := by decide +kernel
theorem dX6_chainAt_14 : decode cX6_chainAt 14 = .ok (.iload_n 3, 1) := by decide +kernel
theorem dX6_chainAt_15 : decode cX6_chainAt 15 = .ok (.ifCond .ge 13, 3) := by decide +kernel
theorem dX6_chainAt_18 : decode cX6_chainAt 18 = .ok (.new 93, 3) := by decide +kernel
theorem dX6_chainAt_21 : decode cX6_chainAt 21 = .ok (.dup, 1) := by decide +kernel
theorem dX6_chainAt_22 : decode cX6_chainAt 22 = .ok (.ldc 171, 2) := by decide +kernel
theorem dX6_chainAt_24 : decode cX6_chainAt 24 = .ok (.invokespecial 97, 3) := by decide +kernel
theorem dX6_chainAt_27 : decode cX6_chainAt 27 = .ok (.athrow, 1) := by decide +kernel
theorem dX6_chainAt_28 : decode cX6_chainAt 28 = .ok (.aload_n 0, 1) := by decide +kernel
theorem dX6_chainAt_29 : decode cX6_chainAt 29 = .ok (.getfield 30, 3) := by decide +kernel
theorem dX6_chainAt_32 : decode cX6_chainAt 32 = .ok (.aload_n 0, 1) := by decide +kernel
theorem dX6_chainAt_33 : decode cX6_chainAt 33 = .ok (.getfield 46, 3) := by decide +kernel
theorem dX6_chainAt_36 : decode cX6_chainAt 36 = .ok (.invokevirtual 107, 3) := by decide +kernel
theorem dX6_chainAt_39 : decode cX6_chainAt 39 = .ok (.iload_n 1, 1) := by decide +kernel
theorem dX6_chainAt_40 : decode cX6_chainAt 40 = .ok (.invokevirtual 111, 3) := by decide +kernel
theorem dX6_chainAt_43 : decode cX6_chainAt 43 = .ok (.iload_n 3, 1) := by decide +kernel
theorem dX6_chainAt_44 : decode cX6_chainAt 44 = .ok (.aload_n 0, 1) := by decide +kernel
theorem dX6_chainAt_45 : decode cX6_chainAt 45 = .ok (.getfield 30, 3) := by decide +kernel
theorem dX6_chainAt_48 : decode cX6_chainAt 48 = .ok (.iload_n 2, 1) := by decide +kernel
theorem dX6_chainAt_49 : decode cX6_chainAt 49 = .ok (.invokevirtual 115, 3) := by decide +kernel
theorem dX6_chainAt_52 : decode cX6_chainAt 52 = .ok (.if_icmp .lt 5, 3) := by decide +kernel
theorem dX6_chainAt_55 : decode cX6_chainAt 55 = .ok (.iconst (-1), 1) := by decide +kernel
theorem dX6_chainAt_56 : decode cX6_chainAt 56 = .ok (.ireturn, 1) := by decide +kernel
theorem dX6_chainAt_57 : decode cX6_chainAt 57 = .ok (.aload_n 0, 1) := by decide +kernel
theorem dX6_chainAt_58 : decode cX6_chainAt 58 = .ok (.getfield 30, 3) := by decide +kernel
theorem dX6_chainAt_61 : decode cX6_chainAt 61 = .ok (.iload_n 1, 1) := by decide +kernel
theorem dX6_chainAt_62 : decode cX6_chainAt 62 = .ok (.iload_n 2, 1) := by decide +kernel
theorem dX6_chainAt_63 : decode cX6_chainAt 63 = .ok (.iload_n 3, 1) := by decide +kernel
theorem dX6_chainAt_64 : decode cX6_chainAt 64 = .ok (.invokevirtual 173, 3) := by decide +kernel
theorem dX6_chainAt_67 : decode cX6_chainAt 67 = .ok (.ireturn, 1) := by decide +kernel
theorem dX6_hops_0 : decode cX6_hops 0 = .ok (.iload_n 1, 1) := by decide +kernel
theorem dX6_hops_1 : decode cX6_hops 1 = .ok (.invokestatic 89, 3) := by decide +kernel
theorem dX6_hops_4 : decode cX6_hops 4 = .ok (.ifCond .eq 10, 3) := by decide +kernel
theorem dX6_hops_7 : decode cX6_hops 7 = .ok (.iload_n 2, 1) := by decide +kernel
theorem dX6_hops_8 : decode cX6_hops 8 = .ok (.invokestatic 89, 3) := by decide +kernel
theorem dX6_hops_11 : decode cX6_hops 11 = .ok (.ifCond .ne 13, 3) := by decide +kernel
theorem dX6_hops_14 : decode cX6_hops 14 = .ok (.new 93, 3) := by decide +kernel
theorem dX6_hops_17 : decode cX6_hops 17 = .ok (.dup, 1) := by decide +kernel
theorem dX6_hops_18 : decode cX6_hops 18 = .ok (.ldc 95, 2) := by decide +kernel
theorem dX6_hops_20 : decode cX6_hops 20 = .ok (.invokespecial 97, 3) := by decide +kernel
theorem dX6_hops_23 : decode cX6_hops 23 = .ok (.athrow, 1) := by decide +kernel
theorem dX6_hops_24 : decode cX6_hops 24 = .ok (.aload_n 0, 1) := by decide +kernel
theorem dX6_hops_25 : decode cX6_hops 25 = .ok (.getfield 30, 3) := by decide +kernel
theorem dX6_hops_28 : decode cX6_hops 28 = .ok (.aload_n 0, 1) := by decide +kernel
theorem dX6_hops_29 : decode cX6_hops 29 = .ok (.getfield 46, 3) := by decide +kernel
theorem dX6_hops_32 : decode cX6_hops 32 = .ok (.invokevirtual 107, 3) := by decide +kernel
theorem dX6_hops_35 : decode cX6_hops 35 = .ok (.iload_n 1, 1) := by decide +kernel
theorem dX6_hops_36 : decode cX6_hops 36 = .ok (.invokevirtual 111, 3) := by decide +kernel
theorem dX6_hops_39 : decode cX6_hops 39 = .ok (.aload_n 0, 1) := by decide +kernel
theorem dX6_hops_40 : decode cX6_hops 40 = .ok (.getfield 30, 3) := by decide +kernel
theorem dX6_hops_43 : decode cX6_hops 43 = .ok (.iload_n 2, 1) := by decide +kernel
theorem dX6_hops_44 : decode cX6_hops 44 = .ok (.invokevirtual 115, 3) := by decide +kernel
theorem dX6_hops_47 : decode cX6_hops 47 = .ok (.ireturn, 1) := by decide +kernel
theorem dX6_finished_0 : decode cX6_finished 0 = .ok (.iload_n 1, 1) := by decide +kernel
theorem dX6_finished_1 : decode cX6_finished 1 = .ok (.invokestatic 177, 3) := by decide +kernel
theorem dX6_finished_4 : decode cX6_finished 4 = .ok (.ifCond .ne 13, 3) := by decide +kernel
theorem dX6_finished_7 : decode cX6_finished 7 = .ok (.new 93, 3) := by decide +kernel
theorem dX6_finished_10 : decode cX6_finished 10 = .ok (.dup, 1) := by decide +kernel
theorem dX6_finished_11 : decode cX6_finished 11 = .ok (.ldc 180, 2) := by decide +kernel
theorem dX6_finished_13 : decode cX6_finished 13 = .ok (.invokespecial 97, 3) := by decide +kernel
theorem dX6_finished_16 : decode cX6_finished 16 = .ok (.athrow, 1) := by decide +kernel
theorem dX6_finished_17 : decode cX6_finished 17 = .ok (.aload_n 0, 1) := by decide +kernel
theorem dX6_finished_18 : decode cX6_finished 18 = .ok (.getfield 46, 3) := by decide +kernel
theorem dX6_finished_21 : decode cX6_finished 21 = .ok (.iload_n 1, 1) := by decide +kernel
theorem dX6_finished_22 : decode cX6_finished 22 = .ok (.invokevirtual 182, 3) := by decide +kernel
theorem dX6_finished_25 : decode cX6_finished 25 = .ok (.ireturn, 1) := by decide +kernel
theorem dX6_isOut_0 : decode cX6_isOut 0 = .ok (.iload_n 1, 1) := by decide +kernel
theorem dX6_isOut_1 : decode cX6_isOut 1 = .ok (.invokestatic 177, 3) := by decide +kernel
theorem dX6_isOut_4 : decode cX6_isOut 4 = .ok (.ifCond .ne 13, 3) := by decide +kernel
theorem dX6_isOut_7 : decode cX6_isOut 7 = .ok (.new 93, 3) := by decide +kernel
theorem dX6_isOut_10 : decode cX6_isOut 10 = .ok (.dup, 1) := by decide +kernel
theorem dX6_isOut_11 : decode cX6_isOut 11 = .ok (.ldc 185, 2) := by decide +kernel
theorem dX6_isOut_13 : decode cX6_isOut 13 = .ok (.invokespecial 97, 3) := by decide +kernel
theorem dX6_isOut_16 : decode cX6_isOut 16 = .ok (.athrow, 1) := by decide +kernel
theorem dX6_isOut_17 : decode cX6_isOut 17 = .ok (.aload_n 0, 1) := by decide +kernel
theorem dX6_isOut_18 : decode cX6_isOut 18 = .ok (.getfield 46, 3) := by decide +kernel
theorem dX6_isOut_21 : decode cX6_isOut 21 = .ok (.iload_n 1, 1) := by decide +kernel
theorem dX6_isOut_22 : decode cX6_isOut 22 = .ok (.invokevirtual 187, 3) := by decide +kernel
theorem dX6_isOut_25 : decode cX6_isOut 25 = .ok (.ireturn, 1) := by decide +kernel
theorem dX6_way_0 : decode cX6_way 0 = .ok (.iload_n 1, 1) := by decide +kernel
theorem dX6_way_1 : decode cX6_way 1 = .ok (.invokestatic 177, 3) := by decide +kernel
theorem dX6_way_4 : decode cX6_way 4 = .ok (.ifCond .ne 13, 3) := by decide +kernel
theorem dX6_way_7 : decode cX6_way 7 = .ok (.new 93, 3) := by decide +kernel
theorem dX6_way_10 : decode cX6_way 10 = .ok (.dup, 1) := by decide +kernel
theorem dX6_way_11 : decode cX6_way 11 = .ok (.ldc 185, 2) := by decide +kernel
theorem dX6_way_13 : decode cX6_way 13 = .ok (.invokespecial 97, 3) := by decide +kernel
theorem dX6_way_16 : decode cX6_way 16 = .ok (.athrow, 1) := by decide +kernel
theorem dX6_way_17 : decode cX6_way 17 = .ok (.aload_n 0, 1) := by decide +kernel
theorem dX6_way_18 : decode cX6_way 18 = .ok (.getfield 46, 3) := by decide +kernel
theorem dX6_way_21 : decode cX6_way 21 = .ok (.iload_n 1, 1) := by decide +kernel
theorem dX6_way_22 : decode cX6_way 22 = .ok (.invokevirtual 190, 3) := by decide +kernel
theorem dX6_way_25 : decode cX6_way 25 = .ok (.ifCond .eq 14, 3) := by decide +kernel
theorem dX6_way_28 : decode cX6_way 28 = .ok (.aload_n 0, 1) := by decide +kernel
theorem dX6_way_29 : decode cX6_way 29 = .ok (.getfield 37, 3) := by decide +kernel
theorem dX6_way_32 : decode cX6_way 32 = .ok (.iload_n 1, 1) := by decide +kernel
theorem dX6_way_33 : decode cX6_way 33 = .ok (.invokevirtual 193, 3) := by decide +kernel
theorem dX6_way_36 : decode cX6_way 36 = .ok (.goto 4, 3) := by decide +kernel
theorem dX6_way_39 : decode cX6_way 39 = .ok (.iconst (-1), 1) := by decide +kernel
theorem dX6_way_40 : decode cX6_way 40 = .ok (.ireturn, 1) := by decide +kernel
theorem dX6_bestFrom_0 : decode cX6_bestFrom 0 = .ok (.aload_n 0, 1) := by decide +kernel
theorem dX6_bestFrom_1 : decode cX6_bestFrom 1 = .ok (.invokevirtual 196, 3) := by decide +kernel
theorem dX6_bestFrom_4 : decode cX6_bestFrom 4 = .ok (.istore_n 1, 1) := by decide +kernel
theorem dX6_bestFrom_5 : decode cX6_bestFrom 5 = .ok (.iload_n 1, 1) := by decide +kernel
theorem dX6_bestFrom_6 : decode cX6_bestFrom 6 = .ok (.iconst (-1), 1) := by decide +kernel
theorem dX6_bestFrom_7 : decode cX6_bestFrom 7 = .ok (.if_icmp .ne 7, 3) := by decide +kernel
theorem dX6_bestFrom_10 : decode cX6_bestFrom 10 = .ok (.iconst (-1), 1) := by decide +kernel
theorem dX6_bestFrom_11 : decode cX6_bestFrom 11 = .ok (.goto 7, 3) := by decide +kernel
theorem dX6_bestFrom_14 : decode cX6_bestFrom 14 = .ok (.iload_n 1, 1) := by decide +kernel
theorem dX6_bestFrom_15 : decode cX6_bestFrom 15 = .ok (.bipush 121, 2) := by decide +kernel
theorem dX6_bestFrom_17 : decode cX6_bestFrom 17 = .ok (.idiv, 1) := by decide +kernel
theorem dX6_bestFrom_18 : decode cX6_bestFrom 18 = .ok (.ireturn, 1) := by decide +kernel
theorem dX6_bestTo_0 : decode cX6_bestTo 0 = .ok (.aload_n 0, 1) := by decide +kernel
theorem dX6_bestTo_1 : decode cX6_bestTo 1 = .ok (.invokevirtual 196, 3) := by decide +kernel
theorem dX6_bestTo_4 : decode cX6_bestTo 4 = .ok (.istore_n 1, 1) := by decide +kernel
theorem dX6_bestTo_5 : decode cX6_bestTo 5 = .ok (.iload_n 1, 1) := by decide +kernel
theorem dX6_bestTo_6 : decode cX6_bestTo 6 = .ok (.iconst (-1), 1) := by decide +kernel
theorem dX6_bestTo_7 : decode cX6_bestTo 7 = .ok (.if_icmp .ne 7, 3) := by decide +kernel
theorem dX6_bestTo_10 : decode cX6_bestTo 10 = .ok (.iconst (-1), 1) := by decide +kernel
theorem dX6_bestTo_11 : decode cX6_bestTo 11 = .ok (.goto 7, 3) := by decide +kernel
theorem dX6_bestTo_14 : decode cX6_bestTo 14 = .ok (.iload_n 1, 1) := by decide +kernel
theorem dX6_bestTo_15 : decode cX6_bestTo 15 = .ok (.bipush 121, 2) := by decide +kernel
theorem dX6_bestTo_17 : decode cX6_bestTo 17 = .ok (.irem, 1) := by decide +kernel
theorem dX6_bestTo_18 : decode cX6_bestTo 18 = .ok (.ireturn, 1) := by decide +kernel
theorem dX6_isCell_0 : decode cX6_isCell 0 = .ok (.iload_n 0, 1) := by decide +kernel
theorem dX6_isCell_1 : decode cX6_isCell 1 = .ok (.ifCond .lt 13, 3) := by decide +kernel
theorem dX6_isCell_4 : decode cX6_isCell 4 = .ok (.iload_n 0, 1) := by decide +kernel
theorem dX6_isCell_5 : decode cX6_isCell 5 = .ok (.bipush 121, 2) := by decide +kernel
theorem dX6_isCell_7 : decode cX6_isCell 7 = .ok (.if_icmp .ge 7, 3) := by decide +kernel
theorem dX6_isCell_10 : decode cX6_isCell 10 = .ok (.iconst 1, 1) := by decide +kernel
theorem dX6_isCell_11 : decode cX6_isCell 11 = .ok (.goto 4, 3) := by decide +kernel
theorem dX6_isCell_14 : decode cX6_isCell 14 = .ok (.iconst 0, 1) := by decide +kernel
theorem dX6_isCell_15 : decode cX6_isCell 15 = .ok (.ireturn, 1) := by decide +kernel
theorem dX6_isCamp_0 : decode cX6_isCamp 0 = .ok (.iload_n 0, 1) := by decide +kernel
theorem dX6_isCamp_1 : decode cX6_isCamp 1 = .ok (.ifCond .lt 13, 3) := by decide +kernel
theorem dX6_isCamp_4 : decode cX6_isCamp 4 = .ok (.iload_n 0, 1) := by decide +kernel
theorem dX6_isCamp_5 : decode cX6_isCamp 5 = .ok (.bipush 6, 2) := by decide +kernel
theorem dX6_isCamp_7 : decode cX6_isCamp 7 = .ok (.if_icmp .ge 7, 3) := by decide +kernel
theorem dX6_isCamp_10 : decode cX6_isCamp 10 = .ok (.iconst 1, 1) := by decide +kernel
theorem dX6_isCamp_11 : decode cX6_isCamp 11 = .ok (.goto 4, 3) := by decide +kernel
theorem dX6_isCamp_14 : decode cX6_isCamp 14 = .ok (.iconst 0, 1) := by decide +kernel
theorem dX6_isCamp_15 : decode cX6_isCamp 15 = .ok (.ireturn, 1) := by decide +kernel
theorem dX6_goalOf_0 : decode cX6_goalOf 0 = .ok (.iload_n 0, 1) := by decide +kernel
theorem dX6_goalOf_1 : decode cX6_goalOf 1 = .ok (.iconst 3, 1) := by decide +kernel
theorem dX6_goalOf_2 : decode cX6_goalOf 2 = .ok (.iadd, 1) := by decide +kernel
theorem dX6_goalOf_3 : decode cX6_goalOf 3 = .ok (.bipush 6, 2) := by decide +kernel
theorem dX6_goalOf_5 : decode cX6_goalOf 5 = .ok (.irem, 1) := by decide +kernel
theorem dX6_goalOf_6 : decode cX6_goalOf 6 = .ok (.ireturn, 1) := by decide +kernel
theorem dX6_isOpen_0 : decode cX6_isOpen 0 = .ok (.aload_n 0, 1) := by decide +kernel
theorem dX6_isOpen_1 : decode cX6_isOpen 1 = .ok (.getfield 46, 3) := by decide +kernel
theorem dX6_isOpen_4 : decode cX6_isOpen 4 = .ok (.invokevirtual 107, 3) := by decide +kernel
theorem dX6_isOpen_7 : decode cX6_isOpen 7 = .ok (.iconst (-1), 1) := by decide +kernel
theorem dX6_isOpen_8 : decode cX6_isOpen 8 = .ok (.if_icmp .eq 20, 3) := by decide +kernel
theorem dX6_isOpen_11 : decode cX6_isOpen 11 = .ok (.aload_n 0, 1) := by decide +kernel
theorem dX6_isOpen_12 : decode cX6_isOpen 12 = .ok (.getfield 53, 3) := by decide +kernel
theorem dX6_isOpen_15 : decode cX6_isOpen 15 = .ok (.invokevirtual 141, 3) := by decide +kernel
theorem dX6_isOpen_18 : decode cX6_isOpen 18 = .ok (.sipush 300, 3) := by decide +kernel
theorem dX6_isOpen_21 : decode cX6_isOpen 21 = .ok (.if_icmp .ge 7, 3) := by decide +kernel
theorem dX6_isOpen_24 : decode cX6_isOpen 24 = .ok (.iconst 1, 1) := by decide +kernel
theorem dX6_isOpen_25 : decode cX6_isOpen 25 = .ok (.goto 4, 3) := by decide +kernel
theorem dX6_isOpen_28 : decode cX6_isOpen 28 = .ok (.iconst 0, 1) := by decide +kernel
theorem dX6_isOpen_29 : decode cX6_isOpen 29 = .ok (.ireturn, 1) := by decide +kernel
theorem dX6_bestMove_0 : decode cX6_bestMove 0 = .ok (.aload_n 0, 1) := by decide +kernel
theorem dX6_bestMove_1 : decode cX6_bestMove 1 = .ok (.getfield 46, 3) := by decide +kernel
theorem dX6_bestMove_4 : decode cX6_bestMove 4 = .ok (.invokevirtual 107, 3) := by decide +kernel
theorem dX6_bestMove_7 : decode cX6_bestMove 7 = .ok (.istore_n 1, 1) := by decide +kernel
theorem dX6_bestMove_8 : decode cX6_bestMove 8 = .ok (.iload_n 1, 1) := by decide +kernel
theorem dX6_bestMove_9 : decode cX6_bestMove 9 = .ok (.iconst (-1), 1) := by decide +kernel
theorem dX6_bestMove_10 : decode cX6_bestMove 10 = .ok (.if_icmp .ne 5, 3) := by decide +kernel
theorem dX6_bestMove_13 : decode cX6_bestMove 13 = .ok (.iconst (-1), 1) := by decide +kernel
theorem dX6_bestMove_14 : decode cX6_bestMove 14 = .ok (.ireturn, 1) := by decide +kernel
theorem dX6_bestMove_15 : decode cX6_bestMove 15 = .ok (.aload_n 0, 1) := by decide +kernel
theorem dX6_bestMove_16 : decode cX6_bestMove 16 = .ok (.getfield 37, 3) := by decide +kernel
theorem dX6_bestMove_19 : decode cX6_bestMove 19 = .ok (.iload_n 1, 1) := by decide +kernel
theorem dX6_bestMove_20 : decode cX6_bestMove 20 = .ok (.invokevirtual 199, 3) := by decide +kernel
theorem dX6_bestMove_23 : decode cX6_bestMove 23 = .ok (.iconst (-1), 1) := by decide +kernel
theorem dX6_bestMove_24 : decode cX6_bestMove 24 = .ok (.istore_n 2, 1) := by decide +kernel
theorem dX6_bestMove_25 : decode cX6_bestMove 25 = .ok (.ldc 202, 2) := by decide +kernel
theorem dX6_bestMove_27 : decode cX6_bestMove 27 = .ok (.istore_n 3, 1) := by decide +kernel
theorem dX6_bestMove_28 : decode cX6_bestMove 28 = .ok (.iconst 0, 1) := by decide +kernel
theorem dX6_bestMove_29 : decode cX6_bestMove 29 = .ok (.istore 4, 2) := by decide +kernel
theorem dX6_bestMove_31 : decode cX6_bestMove 31 = .ok (.iload 4, 2) := by decide +kernel
theorem dX6_bestMove_33 : decode cX6_bestMove 33 = .ok (.bipush 10, 2) := by decide +kernel
theorem dX6_bestMove_35 : decode cX6_bestMove 35 = .ok (.if_icmp .ge 93, 3) := by decide +kernel
theorem dX6_bestMove_38 : decode cX6_bestMove 38 = .ok (.aload_n 0, 1) := by decide +kernel
theorem dX6_bestMove_39 : decode cX6_bestMove 39 = .ok (.getfield 37, 3) := by decide +kernel
theorem dX6_bestMove_42 : decode cX6_bestMove 42 = .ok (.iload 4, 2) := by decide +kernel
theorem dX6_bestMove_44 : decode cX6_bestMove 44 = .ok (.invokevirtual 203, 3) := by decide +kernel
theorem dX6_bestMove_47 : decode cX6_bestMove 47 = .ok (.istore 5, 2) := by decide +kernel
theorem dX6_bestMove_49 : decode cX6_bestMove 49 = .ok (.aload_n 0, 1) := by decide +kernel
theorem dX6_bestMove_50 : decode cX6_bestMove 50 = .ok (.getfield 30, 3) := by decide +kernel
theorem dX6_bestMove_53 : decode cX6_bestMove 53 = .ok (.iload_n 1, 1) := by decide +kernel
theorem dX6_bestMove_54 : decode cX6_bestMove 54 = .ok (.iload 5, 2) := by decide +kernel
theorem dX6_bestMove_56 : decode cX6_bestMove 56 = .ok (.invokevirtual 111, 3) := by decide +kernel
theorem dX6_bestMove_59 : decode cX6_bestMove 59 = .ok (.iconst 0, 1) := by decide +kernel
theorem dX6_bestMove_60 : decode cX6_bestMove 60 = .ok (.istore 6, 2) := by decide +kernel
theorem dX6_bestMove_62 : decode cX6_bestMove 62 = .ok (.iload 6, 2) := by decide +kernel
theorem dX6_bestMove_64 : decode cX6_bestMove 64 = .ok (.bipush 121, 2) := by decide +kernel
theorem dX6_bestMove_66 : decode cX6_bestMove 66 = .ok (.if_icmp .ge 56, 3) := by decide +kernel
theorem dX6_bestMove_69 : decode cX6_bestMove 69 = .ok (.aload_n 0, 1) := by decide +kernel
theorem dX6_bestMove_70 : decode cX6_bestMove 70 = .ok (.getfield 30, 3) := by decide +kernel
theorem dX6_bestMove_73 : decode cX6_bestMove 73 = .ok (.iload 6, 2) := by decide +kernel
theorem dX6_bestMove_75 : decode cX6_bestMove 75 = .ok (.invokevirtual 115, 3) := by decide +kernel
theorem dX6_bestMove_78 : decode cX6_bestMove 78 = .ok (.iconst (-1), 1) := by decide +kernel
theorem dX6_bestMove_79 : decode cX6_bestMove 79 = .ok (.if_icmp .ne 6, 3) := by decide +kernel
theorem dX6_bestMove_82 : decode cX6_bestMove 82 = .ok (.goto 34, 3) := by decide +kernel
theorem dX6_bestMove_85 : decode cX6_bestMove 85 = .ok (.aload_n 0, 1) := by decide +kernel
theorem dX6_bestMove_86 : decode cX6_bestMove 86 = .ok (.getfield 37, 3) := by decide +kernel
theorem dX6_bestMove_89 : decode cX6_bestMove 89 = .ok (.iload 4, 2) := by decide +kernel
theorem dX6_bestMove_91 : decode cX6_bestMove 91 = .ok (.iload 6, 2) := by decide +kernel
theorem dX6_bestMove_93 : decode cX6_bestMove 93 = .ok (.invokevirtual 206, 3) := by decide +kernel
theorem dX6_bestMove_96 : decode cX6_bestMove 96 = .ok (.istore 7, 2) := by decide +kernel
theorem dX6_bestMove_98 : decode cX6_bestMove 98 = .ok (.iload 7, 2) := by decide +kernel
theorem dX6_bestMove_100 : decode cX6_bestMove 100 = .ok (.iload_n 3, 1) := by decide +kernel
theorem dX6_bestMove_101 : decode cX6_bestMove 101 = .ok (.if_icmp .ge 15, 3) := by decide +kernel
theorem dX6_bestMove_104 : decode cX6_bestMove 104 = .ok (.iload 7, 2) := by decide +kernel
theorem dX6_bestMove_106 : decode cX6_bestMove 106 = .ok (.istore_n 3, 1) := by decide +kernel
theorem dX6_bestMove_107 : decode cX6_bestMove 107 = .ok (.iload 5, 2) := by decide +kernel
theorem dX6_bestMove_109 : decode cX6_bestMove 109 = .ok (.bipush 121, 2) := by decide +kernel
theorem dX6_bestMove_111 : decode cX6_bestMove 111 = .ok (.imul, 1) := by decide +kernel
theorem dX6_bestMove_112 : decode cX6_bestMove 112 = .ok (.iload 6, 2) := by decide +kernel
theorem dX6_bestMove_114 : decode cX6_bestMove 114 = .ok (.iadd, 1) := by decide +kernel
theorem dX6_bestMove_115 : decode cX6_bestMove 115 = .ok (.istore_n 2, 1) := by decide +kernel
theorem dX6_bestMove_116 : decode cX6_bestMove 116 = .ok (.iinc 6 1, 3) := by decide +kernel
theorem dX6_bestMove_119 : decode cX6_bestMove 119 = .ok (.goto (-57), 3) := by decide +kernel
theorem dX6_bestMove_122 : decode cX6_bestMove 122 = .ok (.iinc 4 1, 3) := by decide +kernel
theorem dX6_bestMove_125 : decode cX6_bestMove 125 = .ok (.goto (-94), 3) := by decide +kernel
theorem dX6_bestMove_128 : decode cX6_bestMove 128 = .ok (.iload_n 2, 1) := by decide +kernel
theorem dX6_bestMove_129 : decode cX6_bestMove 129 = .ok (.ireturn, 1) := by decide +kernel
end
section
theorem dX7_init_0 : decode cX7_init 0 = .ok (.aload_n 0, 1) := by decide +kernel
theorem dX7_init_1 : decode cX7_init 1 = .ok (.invokespecial 1, 3) := by decide +kernel
theorem dX7_init_4 : decode cX7_init 4 = .ok (.aload_n 0, 1) := by decide +kernel
theorem dX7_init_5 : decode cX7_init 5 = .ok (.bipush 121, 2) := by decide +kernel
theorem dX7_init_7 : decode cX7_init 7 = .ok (.newarray .int, 2) := by decide +kernel
theorem dX7_init_9 : decode cX7_init 9 = .ok (.putfield 7, 3) := by decide +kernel
theorem dX7_init_12 : decode cX7_init 12 = .ok (.aload_n 0, 1) := by decide +kernel
theorem dX7_init_13 : decode cX7_init 13 = .ok (.bipush 121, 2) := by decide +kernel
theorem dX7_init_15 : decode cX7_init 15 = .ok (.newarray .int, 2) := by decide +kernel
theorem dX7_init_17 : decode cX7_init 17 = .ok (.putfield 13, 3) := by decide +kernel
theorem dX7_init_20 : decode cX7_init 20 = .ok (.aload_n 0, 1) := by decide +kernel
theorem dX7_init_21 : decode cX7_init 21 = .ok (.bipush 121, 2) := by decide +kernel
theorem dX7_init_23 : decode cX7_init 23 = .ok (.newarray .int, 2) := by decide +kernel
theorem dX7_init_25 : decode cX7_init 25 = .ok (.putfield 16, 3) := by decide +kernel
theorem dX7_init_28 : decode cX7_init 28 = .ok (.aload_n 0, 1) := by decide +kernel
theorem dX7_init_29 : decode cX7_init 29 = .ok (.sipush 726, 3) := by decide +kernel
theorem dX7_init_32 : decode cX7_init 32 = .ok (.newarray .int, 2) := by decide +kernel
theorem dX7_init_34 : decode cX7_init 34 = .ok (.putfield 19, 3) := by decide +kernel
theorem dX7_init_37 : decode cX7_init 37 = .ok (.aload_n 0, 1) := by decide +kernel
theorem dX7_init_38 : decode cX7_init 38 = .ok (.sipush 14641, 3) := by decide +kernel
theorem dX7_init_41 : decode cX7_init 41 = .ok (.newarray .int, 2) := by decide +kernel
theorem dX7_init_43 : decode cX7_init 43 = .ok (.putfield 22, 3) := by decide +kernel
theorem dX7_init_46 : decode cX7_init 46 = .ok (.aload_n 0, 1) := by decide +kernel
theorem dX7_init_47 : decode cX7_init 47 = .ok (.bipush 60, 2) := by decide +kernel
theorem dX7_init_49 : decode cX7_init 49 = .ok (.newarray .int, 2) := by decide +kernel
theorem dX7_init_51 : decode cX7_init 51 = .ok (.putfield 25, 3) := by decide +kernel
theorem dX7_init_54 : decode cX7_init 54 = .ok (.aload_n 0, 1) := by decide +kernel
theorem dX7_init_55 : decode cX7_init 55 = .ok (.bipush 10, 2) := by decide +kernel
theorem dX7_init_57 : decode cX7_init 57 = .ok (.putfield 28, 3) := by decide +kernel
theorem dX7_init_60 : decode cX7_init 60 = .ok (.aload_n 0, 1) := by decide +kernel
theorem dX7_init_61 : decode cX7_init 61 = .ok (.bipush 121, 2) := by decide +kernel
theorem dX7_init_63 : decode cX7_init 63 = .ok (.newarray .int, 2) := by decide +kernel
theorem dX7_init_65 : decode cX7_init 65 = .ok (.putfield 32, 3) := by decide +kernel
theorem dX7_init_68 : decode cX7_init 68 = .ok (.aload_n 0, 1) := by decide +kernel
theorem dX7_init_69 : decode cX7_init 69 = .ok (.bipush 6, 2) := by decide +kernel
theorem dX7_init_71 : decode cX7_init 71 = .ok (.newarray .int, 2) := by decide +kernel
theorem dX7_init_73 : decode cX7_init 73 = .ok (.putfield 35, 3) := by decide +kernel
theorem dX7_init_76 : decode cX7_init 76 = .ok (.aload_n 0, 1) := by decide +kernel
theorem dX7_init_77 : decode cX7_init 77 = .ok (.bipush 6, 2) := by decide +kernel
theorem dX7_init_79 : decode cX7_init 79 = .ok (.newarray .int, 2) := by decide +kernel
theorem dX7_init_81 : decode cX7_init 81 = .ok (.putfield 38, 3) := by decide +kernel
theorem dX7_init_84 : decode cX7_init 84 = .ok (.aload_n 0, 1) := by decide +kernel
theorem dX7_init_85 : decode cX7_init 85 = .ok (.sipush 300, 3) := by decide +kernel
theorem dX7_init_88 : decode cX7_init 88 = .ok (.newarray .int, 2) := by decide +kernel
theorem dX7_init_90 : decode cX7_init 90 = .ok (.putfield 41, 3) := by decide +kernel
theorem dX7_init_93 : decode cX7_init 93 = .ok (.aload_n 0, 1) := by decide +kernel
theorem dX7_init_94 : decode cX7_init 94 = .ok (.sipush 300, 3) := by decide +kernel
theorem dX7_init_97 : decode cX7_init 97 = .ok (.newarray .int, 2) := by decide +kernel
theorem dX7_init_99 : decode cX7_init 99 = .ok (.putfield 44, 3) := by decide +kernel
theorem dX7_init_102 : decode cX7_init 102 = .ok (.aload_n 0, 1) := by decide +kernel
theorem dX7_init_103 : decode cX7_init 103 = .ok (.sipush 300, 3) := by decide +kernel
theorem dX7_init_106 : decode cX7_init 106 = .ok (.newarray .int, 2) := by decide +kernel
theorem dX7_init_108 : decode cX7_init 108 = .ok (.putfield 47, 3) := by decide +kernel
theorem dX7_init_111 : decode cX7_init 111 = .ok (.aload_n 0, 1) := by decide +kernel
theorem dX7_init_112 : decode cX7_init 112 = .ok (.sipush 300, 3) := by decide +kernel
theorem dX7_init_115 : decode cX7_init 115 = .ok (.newarray .int, 2) := by decide +kernel
theorem dX7_init_117 : decode cX7_init 117 = .ok (.putfield 50, 3) := by decide +kernel
theorem dX7_init_120 : decode cX7_init 120 = .ok (.aload_n 0, 1) := by decide +kernel
theorem dX7_init_121 : decode cX7_init 121 = .ok (.sipush 300, 3) := by decide +kernel
theorem dX7_init_124 : decode cX7_init 124 = .ok (.newarray .int, 2) := by decide +kernel
theorem dX7_init_126 : decode cX7_init 126 = .ok (.putfield 53, 3) := by decide +kernel
theorem dX7_init_129 : decode cX7_init 129 = .ok (.aload_n 0, 1) := by decide +kernel
theorem dX7_init_130 : decode cX7_init 130 = .ok (.bipush 121, 2) := by decide +kernel
theorem dX7_init_132 : decode cX7_init 132 = .ok (.newarray .int, 2) := by decide +kernel
theorem dX7_init_134 : decode cX7_init 134 = .ok (.putfield 56, 3) := by decide +kernel
theorem dX7_init_137 : decode cX7_init 137 = .ok (.aload_n 0, 1) := by decide +kernel
theorem dX7_init_138 : decode cX7_init 138 = .ok (.bipush 121, 2) := by decide +kernel
theorem dX7_init_140 : decode cX7_init 140 = .ok (.newarray .int, 2) := by decide +kernel
theorem dX7_init_142 : decode cX7_init 142 = .ok (.putfield 59, 3) := by decide +kernel
theorem dX7_init_145 : decode cX7_init 145 = .ok (.aload_n 0, 1) := by decide +kernel
theorem dX7_init_146 : decode cX7_init 146 = .ok (.bipush 121, 2) := by decide +kernel
theorem dX7_init_148 : decode cX7_init 148 = .ok (.newarray .boolean, 2) := by decide +kernel
theorem dX7_init_150 : decode cX7_init 150 = .ok (.putfield 62, 3) := by decide +kernel
theorem dX7_init_153 : decode cX7_init 153 = .ok (.aload_n 0, 1) := by decide +kernel
theorem dX7_init_154 : decode cX7_init 154 = .ok (.sipush 1024, 3) := by decide +kernel
theorem dX7_init_157 : decode cX7_init 157 = .ok (.newarray .int, 2) := by decide +kernel
theorem dX7_init_159 : decode cX7_init 159 = .ok (.putfield 66, 3) := by decide +kernel
theorem dX7_init_162 : decode cX7_init 162 = .ok (.aload_n 0, 1) := by decide +kernel
theorem dX7_init_163 : decode cX7_init 163 = .ok (.bipush 10, 2) := by decide +kernel
theorem dX7_init_165 : decode cX7_init 165 = .ok (.newarray .int, 2) := by decide +kernel
theorem dX7_init_167 : decode cX7_init 167 = .ok (.putfield 69, 3) := by decide +kernel
theorem dX7_init_170 : decode cX7_init 170 = .ok (.iconst 0, 1) := by decide +kernel
theorem dX7_init_171 : decode cX7_init 171 = .ok (.istore_n 1, 1) := by decide +kernel
theorem dX7_init_172 : decode cX7_init 172 = .ok (.iconst 0, 1) := by decide +kernel
theorem dX7_init_173 : decode cX7_init 173 = .ok (.istore_n 2, 1) := by decide +kernel
theorem dX7_init_174 : decode cX7_init 174 = .ok (.iload_n 2, 1) := by decide +kernel
theorem dX7_init_175 : decode cX7_init 175 = .ok (.bipush 17, 2) := by decide +kernel
theorem dX7_init_177 : decode cX7_init 177 = .ok (.if_icmp .ge 98, 3) := by decide +kernel
theorem dX7_init_180 : decode cX7_init 180 = .ok (.iload_n 2, 1) := by decide +kernel
theorem dX7_init_181 : decode cX7_init 181 = .ok (.bipush 9, 2) := by decide +kernel
theorem dX7_init_183 : decode cX7_init 183 = .ok (.if_icmp .ge 7, 3) := by decide +kernel
theorem dX7_init_186 : decode cX7_init 186 = .ok (.iload_n 2, 1) := by decide +kernel
theorem dX7_init_187 : decode cX7_init 187 = .ok (.goto 7, 3) := by decide +kernel
theorem dX7_init_190 : decode cX7_init 190 = .ok (.bipush 16, 2) := by decide +kernel
theorem dX7_init_192 : decode cX7_init 192 = .ok (.iload_n 2, 1) := by decide +kernel
theorem dX7_init_193 : decode cX7_init 193 = .ok (.isub, 1) := by decide +kernel
theorem dX7_init_194 : decode cX7_init 194 = .ok (.istore_n 3, 1) := by decide +kernel
theorem dX7_init_195 : decode cX7_init 195 = .ok (.iload_n 3, 1) := by decide +kernel
theorem dX7_init_196 : decode cX7_init 196 = .ok (.iconst 4, 1) := by decide +kernel
theorem dX7_init_197 : decode cX7_init 197 = .ok (.if_icmp .ge 10, 3) := by decide +kernel
theorem dX7_init_200 : decode cX7_init 200 = .ok (.bipush 12, 2) := by decide +kernel
theorem dX7_init_202 : decode cX7_init 202 = .ok (.iload_n 3, 1) := by decide +kernel
theorem dX7_init_203 : decode cX7_init 203 = .ok (.isub, 1) := by decide +kernel
theorem dX7_init_204 : decode cX7_init 204 = .ok (.goto 6, 3) := by decide +kernel
theorem dX7_init_207 : decode cX7_init 207 = .ok (.iload_n 3, 1) := by decide +kernel
theorem dX7_init_208 : decode cX7_init 208 = .ok (.iconst 4, 1) := by decide +kernel
theorem dX7_init_209 : decode cX7_init 209 = .ok (.isub, 1) := by decide +kernel
theorem dX7_init_210 : decode cX7_init 210 = .ok (.istore 4, 2) := by decide +kernel
theorem dX7_init_212 : decode cX7_init 212 = .ok (.iload 4, 2) := by decide +kernel
theorem dX7_init_214 : decode cX7_init 214 = .ok (.iload_n 3, 1) := by decide +kernel
theorem dX7_init_215 : decode cX7_init 215 = .ok (.iconst 4, 1) := by decide +kernel
theorem dX7_init_216 : decode cX7_init 216 = .ok (.if_icmp .ge 10, 3) := by decide +kernel
theorem dX7_init_219 : decode cX7_init 219 = .ok (.bipush 12, 2) := by decide +kernel
theorem dX7_init_221 : decode cX7_init 221 = .ok (.iload_n 3, 1) := by decide +kernel
theorem dX7_init_222 : decode cX7_init 222 = .ok (.iadd, 1) := by decide +kernel
theorem dX7_init_223 : decode cX7_init 223 = .ok (.goto 7, 3) := by decide +kernel
theorem dX7_init_226 : decode cX7_init 226 = .ok (.bipush 28, 2) := by decide +kernel
theorem dX7_init_228 : decode cX7_init 228 = .ok (.iload_n 3, 1) := by decide +kernel
theorem dX7_init_229 : decode cX7_init 229 = .ok (.isub, 1) := by decide +kernel
theorem dX7_init_230 : decode cX7_init 230 = .ok (.if_icmp .gt 39, 3) := by decide +kernel
theorem dX7_init_233 : decode cX7_init 233 = .ok (.aload_n 0, 1) := by decide +kernel
theorem dX7_init_234 : decode cX7_init 234 = .ok (.getfield 7, 3) := by decide +kernel
theorem dX7_init_237 : decode cX7_init 237 = .ok (.iload_n 1, 1) := by decide +kernel
theorem dX7_init_238 : decode cX7_init 238 = .ok (.iload_n 2, 1) := by decide +kernel
theorem dX7_init_239 : decode cX7_init 239 = .ok (.iastore, 1) := by decide +kernel
theorem dX7_init_240 : decode cX7_init 240 = .ok (.aload_n 0, 1) := by decide +kernel
theorem dX7_init_241 : decode cX7_init 241 = .ok (.getfield 13, 3) := by decide +kernel
theorem dX7_init_244 : decode cX7_init 244 = .ok (.iload_n 1, 1) := by decide +kernel
theorem dX7_init_245 : decode cX7_init 245 = .ok (.iload 4, 2) := by decide +kernel
theorem dX7_init_247 : decode cX7_init 247 = .ok (.iastore, 1) := by decide +kernel
theorem dX7_init_248 : decode cX7_init 248 = .ok (.aload_n 0, 1) := by decide +kernel
theorem dX7_init_249 : decode cX7_init 249 = .ok (.getfield 16, 3) := by decide +kernel
theorem dX7_init_252 : decode cX7_init 252 = .ok (.iload_n 1, 1) := by decide +kernel
theorem dX7_init_253 : decode cX7_init 253 = .ok (.iload_n 2, 1) := by decide +kernel
theorem dX7_init_254 : decode cX7_init 254 = .ok (.iload 4, 2) := by decide +kernel
theorem dX7_init_256 : decode cX7_init 256 = .ok (.invokestatic 72, 3) := by decide +kernel
theorem dX7_init_259 : decode cX7_init 259 = .ok (.iastore, 1) := by decide +kernel
theorem dX7_init_260 : decode cX7_init 260 = .ok (.iinc 1 1, 3) := by decide +kernel
theorem dX7_init_263 : decode cX7_init 263 = .ok (.iinc 4 2, 3) := by decide +kernel
theorem dX7_init_266 : decode cX7_init 266 = .ok (.goto (-54), 3) := by decide +kernel
theorem dX7_init_269 : decode cX7_init 269 = .ok (.iinc 2 1, 3) := by decide +kernel
theorem dX7_init_272 : decode cX7_init 272 = .ok (.goto (-98), 3) := by decide +kernel
theorem dX7_init_275 : decode cX7_init 275 = .ok (.iconst 0, 1) := by decide +kernel
theorem dX7_init_276 : decode cX7_init 276 = .ok (.istore_n 2, 1) := by decide +kernel
theorem dX7_init_277 : decode cX7_init 277 = .ok (.iload_n 2, 1) := by decide +kernel
theorem dX7_init_278 : decode cX7_init 278 = .ok (.bipush 121, 2) := by decide +kernel
theorem dX7_init_280 : decode cX7_init 280 = .ok (.if_icmp .ge 129, 3) := by decide +kernel
theorem dX7_init_283 : decode cX7_init 283 = .ok (.iconst 0, 1) := by decide +kernel
theorem dX7_init_284 : decode cX7_init 284 = .ok (.istore_n 3, 1) := by decide +kernel
theorem dX7_init_285 : decode cX7_init 285 = .ok (.iload_n 3, 1) := by decide +kernel
theorem dX7_init_286 : decode cX7_init 286 = .ok (.bipush 6, 2) := by decide +kernel
theorem dX7_init_288 : decode cX7_init 288 = .ok (.if_icmp .ge 108, 3) := by decide +kernel
theorem dX7_init_291 : decode cX7_init 291 = .ok (.iload_n 3, 1) := by decide +kernel
theorem dX7_init_292 : decode cX7_init 292 = .ok (.iconst 1, 1) := by decide +kernel
theorem dX7_init_293 : decode cX7_init 293 = .ok (.if_icmp .eq 8, 3) := by decide +kernel
theorem dX7_init_296 : decode cX7_init 296 = .ok (.iload_n 3, 1) := by decide +kernel
theorem dX7_init_297 : decode cX7_init 297 = .ok (.iconst 2, 1) := by decide +kernel
theorem dX7_init_298 : decode cX7_init 298 = .ok (.if_icmp .ne 7, 3) := by decide +kernel
theorem dX7_init_301 : decode cX7_init 301 = .ok (.iconst 1, 1) := by decide +kernel
theorem dX7_init_302 : decode cX7_init 302 = .ok (.goto 18, 3) := by decide +kernel
theorem dX7_init_305 : decode cX7_init 305 = .ok (.iload_n 3, 1) := by decide +kernel
theorem dX7_init_306 : decode cX7_init 306 = .ok (.iconst 4, 1) := by decide +kernel
theorem dX7_init_307 : decode cX7_init 307 = .ok (.if_icmp .eq 8, 3) := by decide +kernel
theorem dX7_init_310 : decode cX7_init 310 = .ok (.iload_n 3, 1) := by decide +kernel
theorem dX7_init_311 : decode cX7_init 311 = .ok (.iconst 5, 1) := by decide +kernel
theorem dX7_init_312 : decode cX7_init 312 = .ok (.if_icmp .ne 7, 3) := by decide +kernel
theorem dX7_init_315 : decode cX7_init 315 = .ok (.iconst (-1), 1) := by decide +kernel
theorem dX7_init_316 : decode cX7_init 316 = .ok (.goto 4, 3) := by decide +kernel
theorem dX7_init_319 : decode cX7_init 319 = .ok (.iconst 0, 1) := by decide +kernel
theorem dX7_init_320 : decode cX7_init 320 = .ok (.istore 4, 2) := by decide +kernel
theorem dX7_init_322 : decode cX7_init 322 = .ok (.iload_n 3, 1) := by decide +kernel
theorem dX7_init_323 : decode cX7_init 323 = .ok (.ifCond .ne 7, 3) := by decide +kernel
theorem dX7_init_326 : decode cX7_init 326 = .ok (.iconst 2, 1) := by decide +kernel
theorem dX7_init_327 : decode cX7_init 327 = .ok (.goto 28, 3) := by decide +kernel
theorem dX7_init_330 : decode cX7_init 330 = .ok (.iload_n 3, 1) := by decide +kernel
theorem dX7_init_331 : decode cX7_init 331 = .ok (.iconst 3, 1) := by decide +kernel
theorem dX7_init_332 : decode cX7_init 332 = .ok (.if_icmp .ne 8, 3) := by decide +kernel
theorem dX7_init_335 : decode cX7_init 335 = .ok (.bipush (-2), 2) := by decide +kernel
theorem dX7_init_337 : decode cX7_init 337 = .ok (.goto 18, 3) := by decide +kernel
theorem dX7_init_340 : decode cX7_init 340 = .ok (.iload_n 3, 1) := by decide +kernel
theorem dX7_init_341 : decode cX7_init 341 = .ok (.iconst 1, 1) := by decide +kernel
theorem dX7_init_342 : decode cX7_init 342 = .ok (.if_icmp .eq 8, 3) := by decide +kernel
theorem dX7_init_345 : decode cX7_init 345 = .ok (.iload_n 3, 1) := by decide +kernel
theorem dX7_init_346 : decode cX7_init 346 = .ok (.iconst 5, 1) := by decide +kernel
theorem dX7_init_347 : decode cX7_init 347 = .ok (.if_icmp .ne 7, 3) := by decide +kernel
theorem dX7_init_350 : decode cX7_init 350 = .ok (.iconst 1, 1) := by decide +kernel
theorem dX7_init_351 : decode cX7_init 351 = .ok (.goto 4, 3) := by decide +kernel
theorem dX7_init_354 : decode cX7_init 354 = .ok (.iconst (-1), 1) := by decide +kernel
theorem dX7_init_355 : decode cX7_init 355 = .ok (.istore 5, 2) := by decide +kernel
theorem dX7_init_357 : decode cX7_init 357 = .ok (.aload_n 0, 1) := by decide +kernel
theorem dX7_init_358 : decode cX7_init 358 = .ok (.getfield 19, 3) := by decide +kernel
theorem dX7_init_361 : decode cX7_init 361 = .ok (.bipush 6, 2) := by decide +kernel
theorem dX7_init_363 : decode cX7_init 363 = .ok (.iload_n 2, 1) := by decide +kernel
theorem dX7_init_364 : decode cX7_init 364 = .ok (.imul, 1) := by decide +kernel
theorem dX7_init_365 : decode cX7_init 365 = .ok (.iload_n 3, 1) := by decide +kernel
theorem dX7_init_366 : decode cX7_init 366 = .ok (.iadd, 1) := by decide +kernel
theorem dX7_init_367 : decode cX7_init 367 = .ok (.aload_n 0, 1) := by decide +kernel
theorem dX7_init_368 : decode cX7_init 368 = .ok (.aload_n 0, 1) := by decide +kernel
theorem dX7_init_369 : decode cX7_init 369 = .ok (.getfield 7, 3) := by decide +kernel
theorem dX7_init_372 : decode cX7_init 372 = .ok (.iload_n 2, 1) := by decide +kernel
theorem dX7_init_373 : decode cX7_init 373 = .ok (.iaload, 1) := by decide +kernel
theorem dX7_init_374 : decode cX7_init 374 = .ok (.iload 4, 2) := by decide +kernel
theorem dX7_init_376 : decode cX7_init 376 = .ok (.iadd, 1) := by decide +kernel
theorem dX7_init_377 : decode cX7_init 377 = .ok (.aload_n 0, 1) := by decide +kernel
theorem dX7_init_378 : decode cX7_init 378 = .ok (.getfield 13, 3) := by decide +kernel
theorem dX7_init_381 : decode cX7_init 381 = .ok (.iload_n 2, 1) := by decide +kernel
theorem dX7_init_382 : decode cX7_init 382 = .ok (.iaload, 1) := by decide +kernel
theorem dX7_init_383 : decode cX7_init 383 = .ok (.iload 5, 2) := by decide +kernel
theorem dX7_init_385 : decode cX7_init 385 = .ok (.iadd, 1) := by decide +kernel
theorem dX7_init_386 : decode cX7_init 386 = .ok (.invokevirtual 76, 3) := by decide +kernel
theorem dX7_init_389 : decode cX7_init 389 = .ok (.iastore, 1) := by decide +kernel
theorem dX7_init_390 : decode cX7_init 390 = .ok (.iinc 3 1, 3) := by decide +kernel
theorem dX7_init_393 : decode cX7_init 393 = .ok (.goto (-108), 3) := by decide +kernel
theorem dX7_init_396 : decode cX7_init 396 = .ok (.aload_n 0, 1) := by decide +kernel
theorem dX7_init_397 : decode cX7_init 397 = .ok (.getfield 32, 3) := by decide +kernel
theorem dX7_init_400 : decode cX7_init 400 = .ok (.iload_n 2, 1) := by decide +kernel
theorem dX7_init_401 : decode cX7_init 401 = .ok (.iconst (-1), 1) := by decide +kernel
theorem dX7_init_402 : decode cX7_init 402 = .ok (.iastore, 1) := by decide +kernel
theorem dX7_init_403 : decode cX7_init 403 = .ok (.iinc 2 1, 3) := by decide +kernel
theorem dX7_init_406 : decode cX7_init 406 = .ok (.goto (-129), 3) := by decide +kernel
theorem dX7_init_409 : decode cX7_init 409 = .ok (.iconst 0, 1) := by decide +kernel
theorem dX7_init_410 : decode cX7_init 410 = .ok (.istore_n 2, 1) := by decide +kernel
theorem dX7_init_411 : decode cX7_init 411 = .ok (.iload_n 2, 1) := by decide +kernel
theorem dX7_init_412 : decode cX7_init 412 = .ok (.bipush 6, 2) := by decide +kernel
theorem dX7_init_414 : decode cX7_init 414 = .ok (.if_icmp .ge 54, 3) := by decide +kernel
theorem dX7_init_417 : decode cX7_init 417 = .ok (.iconst 0, 1) := by decide +kernel
theorem dX7_init_418 : decode cX7_init 418 = .ok (.istore_n 3, 1) := by decide +kernel
theorem dX7_init_419 : decode cX7_init 419 = .ok (.iconst 0, 1) := by decide +kernel
theorem dX7_init_420 : decode cX7_init 420 = .ok (.istore 4, 2) := by decide +kernel
theorem dX7_init_422 : decode cX7_init 422 = .ok (.iload 4, 2) := by decide +kernel
theorem dX7_init_424 : decode cX7_init 424 = .ok (.bipush 121, 2) := by decide +kernel
theorem dX7_init_426 : decode cX7_init 426 = .ok (.if_icmp .ge 36, 3) := by decide +kernel
theorem dX7_init_429 : decode cX7_init 429 = .ok (.aload_n 0, 1) := by decide +kernel
theorem dX7_init_430 : decode cX7_init 430 = .ok (.getfield 16, 3) := by decide +kernel
theorem dX7_init_433 : decode cX7_init 433 = .ok (.iload 4, 2) := by decide +kernel
theorem dX7_init_435 : decode cX7_init 435 = .ok (.iaload, 1) := by decide +kernel
theorem dX7_init_436 : decode cX7_init 436 = .ok (.iload_n 2, 1) := by decide +kernel
theorem dX7_init_437 : decode cX7_init 437 = .ok (.if_icmp .ne 19, 3) := by decide +kernel
theorem dX7_init_440 : decode cX7_init 440 = .ok (.aload_n 0, 1) := by decide +kernel
theorem dX7_init_441 : decode cX7_init 441 = .ok (.getfield 25, 3) := by decide +kernel
theorem dX7_init_444 : decode cX7_init 444 = .ok (.bipush 10, 2) := by decide +kernel
theorem dX7_init_446 : decode cX7_init 446 = .ok (.iload_n 2, 1) := by decide +kernel
theorem dX7_init_447 : decode cX7_init 447 = .ok (.imul, 1) := by decide +kernel
theorem dX7_init_448 : decode cX7_init 448 = .ok (.iload_n 3, 1) := by decide +kernel
theorem dX7_init_449 : decode cX7_init 449 = .ok (.iadd, 1) := by decide +kernel
theorem dX7_init_450 : decode cX7_init 450 = .ok (.iload 4, 2) := by decide +kernel
theorem dX7_init_452 : decode cX7_init 452 = .ok (.iastore, 1) := by decide +kernel
theorem dX7_init_453 : decode cX7_init 453 = .ok (.iinc 3 1, 3) := by decide +kernel
theorem dX7_init_456 : decode cX7_init 456 = .ok (.iinc 4 1, 3) := by decide +kernel
theorem dX7_init_459 : decode cX7_init 459 = .ok (.goto (-37), 3) := by decide +kernel
theorem dX7_init_462 : decode cX7_init 462 = .ok (.iinc 2 1, 3) := by decide +kernel
theorem dX7_init_465 : decode cX7_init 465 = .ok (.goto (-54), 3) := by decide +kernel
theorem dX7_init_468 : decode cX7_init 468 = .ok (.iconst 0, 1) := by decide +kernel
theorem dX7_init_469 : decode cX7_init 469 = .ok (.istore_n 2, 1) := by decide +kernel
theorem dX7_init_470 : decode cX7_init 470 = .ok (.iload_n 2, 1) := by decide +kernel
theorem dX7_init_471 : decode cX7_init 471 = .ok (.bipush 121, 2) := by decide +kernel
theorem dX7_init_473 : decode cX7_init 473 = .ok (.if_icmp .ge 14, 3) := by decide +kernel
theorem dX7_init_476 : decode cX7_init 476 = .ok (.aload_n 0, 1) := by decide +kernel
theorem dX7_init_477 : decode cX7_init 477 = .ok (.iload_n 2, 1) := by decide +kernel
theorem dX7_init_478 : decode cX7_init 478 = .ok (.invokevirtual 79, 3) := by decide +kernel
theorem dX7_init_481 : decode cX7_init 481 = .ok (.iinc 2 1, 3) := by decide +kernel
theorem dX7_init_484 : decode cX7_init 484 = .ok (.goto (-14), 3) := by decide +kernel
theorem dX7_init_487 : decode cX7_init 487 = .ok (.aload_n 0, 1) := by decide +kernel
theorem dX7_init_488 : decode cX7_init 488 = .ok (.iconst (-1), 1) := by decide +kernel
theorem dX7_init_489 : decode cX7_init 489 = .ok (.putfield 83, 3) := by decide +kernel
theorem dX7_init_492 : decode cX7_init 492 = .ok (.return_, 1) := by decide +kernel
theorem dX7_thrown_0 : decode cX7_thrown 0 = .ok (.aload_n 0, 1) := by decide +kernel
theorem dX7_thrown_1 : decode cX7_thrown 1 = .ok (.getfield 86, 3) := by decide +kernel
theorem dX7_thrown_4 : decode cX7_thrown 4 = .ok (.ireturn, 1) := by decide +kernel
theorem dX7_can_0 : decode cX7_can 0 = .ok (.aload_n 0, 1) := by decide +kernel
theorem dX7_can_1 : decode cX7_can 1 = .ok (.iload_n 1, 1) := by decide +kernel
theorem dX7_can_2 : decode cX7_can 2 = .ok (.putfield 86, 3) := by decide +kernel
theorem dX7_can_5 : decode cX7_can 5 = .ok (.iload_n 1, 1) := by decide +kernel
theorem dX7_can_6 : decode cX7_can 6 = .ok (.ifCond .ne 7, 3) := by decide +kernel
theorem dX7_can_9 : decode cX7_can 9 = .ok (.iconst 1, 1) := by decide +kernel
theorem dX7_can_10 : decode cX7_can 10 = .ok (.goto 4, 3) := by decide +kernel
theorem dX7_can_13 : decode cX7_can 13 = .ok (.iconst 0, 1) := by decide +kernel
theorem dX7_can_14 : decode cX7_can 14 = .ok (.ireturn, 1) := by decide +kernel
theorem dX7_isIn_0 : decode cX7_isIn 0 = .ok (.iload_n 0, 1) := by decide +kernel
theorem dX7_isIn_1 : decode cX7_isIn 1 = .ok (.iload_n 1, 1) := by decide +kernel
theorem dX7_isIn_2 : decode cX7_isIn 2 = .ok (.if_icmp .lt 12, 3) := by decide +kernel
theorem dX7_isIn_5 : decode cX7_isIn 5 = .ok (.iload_n 0, 1) := by decide +kernel
theorem dX7_isIn_6 : decode cX7_isIn 6 = .ok (.iload_n 2, 1) := by decide +kernel
theorem dX7_isIn_7 : decode cX7_isIn 7 = .ok (.if_icmp .gt 7, 3) := by decide +kernel
theorem dX7_isIn_10 : decode cX7_isIn 10 = .ok (.iconst 1, 1) := by decide +kernel
theorem dX7_isIn_11 : decode cX7_isIn 11 = .ok (.goto 4, 3) := by decide +kernel
theorem dX7_isIn_14 : decode cX7_isIn 14 = .ok (.iconst 0, 1) := by decide +kernel
theorem dX7_isIn_15 : decode cX7_isIn 15 = .ok (.ireturn, 1) := by decide +kernel
theorem dX7_isCell_0 : decode cX7_isCell 0 = .ok (.iload_n 0, 1) := by decide +kernel
theorem dX7_isCell_1 : decode cX7_isCell 1 = .ok (.iconst 0, 1) := by decide +kernel
theorem dX7_isCell_2 : decode cX7_isCell 2 = .ok (.bipush 120, 2) := by decide +kernel
theorem dX7_isCell_4 : decode cX7_isCell 4 = .ok (.invokestatic 89, 3) := by decide +kernel
theorem dX7_isCell_7 : decode cX7_isCell 7 = .ok (.ireturn, 1) := by decide +kernel
theorem dX7_campAt_0 : decode cX7_campAt 0 = .ok (.iload_n 0, 1) := by decide +kernel
theorem dX7_campAt_1 : decode cX7_campAt 1 = .ok (.iconst 4, 1) := by decide +kernel
theorem dX7_campAt_2 : decode cX7_campAt 2 = .ok (.if_icmp .lt 9, 3) := by decide +kernel
theorem dX7_campAt_5 : decode cX7_campAt 5 = .ok (.iload_n 0, 1) := by decide +kernel
theorem dX7_campAt_6 : decode cX7_campAt 6 = .ok (.bipush 12, 2) := by decide +kernel
theorem dX7_campAt_8 : decode cX7_campAt 8 = .ok (.if_icmp .le 14, 3) := by decide +kernel
theorem dX7_campAt_11 : decode cX7_campAt 11 = .ok (.iload_n 0, 1) := by decide +kernel
theorem dX7_campAt_12 : decode cX7_campAt 12 = .ok (.iconst 4, 1) := by decide +kernel
theorem dX7_campAt_13 : decode cX7_campAt 13 = .ok (.if_icmp .ge 7, 3) := by decide +kernel
theorem dX7_campAt_16 : decode cX7_campAt 16 = .ok (.iconst 0, 1) := by decide +kernel
theorem dX7_campAt_17 : decode cX7_campAt 17 = .ok (.goto 4, 3) := by decide +kernel
theorem dX7_campAt_20 : decode cX7_campAt 20 = .ok (.iconst 3, 1) := by decide +kernel
theorem dX7_campAt_21 : decode cX7_campAt 21 = .ok (.ireturn, 1) := by decide +kernel
theorem dX7_campAt_22 : decode cX7_campAt 22 = .ok (.iload_n 0, 1) := by decide +kernel
theorem dX7_campAt_23 : decode cX7_campAt 23 = .ok (.bipush 8, 2) := by decide +kernel
theorem dX7_campAt_25 : decode cX7_campAt 25 = .ok (.if_icmp .ge 29, 3) := by decide +kernel
theorem dX7_campAt_28 : decode cX7_campAt 28 = .ok (.iload_n 1, 1) := by decide +kernel
theorem dX7_campAt_29 : decode cX7_campAt 29 = .ok (.bipush 14, 2) := by decide +kernel
theorem dX7_campAt_31 : decode cX7_campAt 31 = .ok (.iload_n 0, 1) := by decide +kernel
theorem dX7_campAt_32 : decode cX7_campAt 32 = .ok (.iadd, 1) := by decide +kernel
theorem dX7_campAt_33 : decode cX7_campAt 33 = .ok (.if_icmp .lt 7, 3) := by decide +kernel
theorem dX7_campAt_36 : decode cX7_campAt 36 = .ok (.iconst 1, 1) := by decide +kernel
theorem dX7_campAt_37 : decode cX7_campAt 37 = .ok (.goto 16, 3) := by decide +kernel
theorem dX7_campAt_40 : decode cX7_campAt 40 = .ok (.iload_n 1, 1) := by decide +kernel
theorem dX7_campAt_41 : decode cX7_campAt 41 = .ok (.bipush 10, 2) := by decide +kernel
theorem dX7_campAt_43 : decode cX7_campAt 43 = .ok (.iload_n 0, 1) := by decide +kernel
theorem dX7_campAt_44 : decode cX7_campAt 44 = .ok (.isub, 1) := by decide +kernel
theorem dX7_campAt_45 : decode cX7_campAt 45 = .ok (.if_icmp .gt 7, 3) := by decide +kernel
theorem dX7_campAt_48 : decode cX7_campAt 48 = .ok (.iconst 5, 1) := by decide +kernel
theorem dX7_campAt_49 : decode cX7_campAt 49 = .ok (.goto 4, 3) := by decide +kernel
theorem dX7_campAt_52 : decode cX7_campAt 52 = .ok (.iconst (-1), 1) := by decide +kernel
theorem dX7_campAt_53 : decode cX7_campAt 53 = .ok (.ireturn, 1) := by decide +kernel
theorem dX7_campAt_54 : decode cX7_campAt 54 = .ok (.iload_n 0, 1) := by decide +kernel
theorem dX7_campAt_55 : decode cX7_campAt 55 = .ok (.bipush 8, 2) := by decide +kernel
theorem dX7_campAt_57 : decode cX7_campAt 57 = .ok (.if_icmp .ne 7, 3) := by decide +kernel
theorem dX7_campAt_60 : decode cX7_campAt 60 = .ok (.iconst (-1), 1) := by decide +kernel
theorem dX7_campAt_61 : decode cX7_campAt 61 = .ok (.goto 28, 3) := by decide +kernel
theorem dX7_campAt_64 : decode cX7_campAt 64 = .ok (.iload_n 1, 1) := by decide +kernel
theorem dX7_campAt_65 : decode cX7_campAt 65 = .ok (.bipush 30, 2) := by decide +kernel
theorem dX7_campAt_67 : decode cX7_campAt 67 = .ok (.iload_n 0, 1) := by decide +kernel
theorem dX7_campAt_68 : decode cX7_campAt 68 = .ok (.isub, 1) := by decide +kernel
theorem dX7_campAt_69 : decode cX7_campAt 69 = .ok (.if_icmp .lt 7, 3) := by decide +kernel
theorem dX7_campAt_72 : decode cX7_campAt 72 = .ok (.iconst 2, 1) := by decide +kernel
theorem dX7_campAt_73 : decode cX7_campAt 73 = .ok (.goto 16, 3) := by decide +kernel
theorem dX7_campAt_76 : decode cX7_campAt 76 = .ok (.iload_n 1, 1) := by decide +kernel
theorem dX7_campAt_77 : decode cX7_campAt 77 = .ok (.iload_n 0, 1) := by decide +kernel
theorem dX7_campAt_78 : decode cX7_campAt 78 = .ok (.bipush 6, 2) := by decide +kernel
theorem dX7_campAt_80 : decode cX7_campAt 80 = .ok (.isub, 1) := by decide +kernel
theorem dX7_campAt_81 : decode cX7_campAt 81 = .ok (.if_icmp .gt 7, 3) := by decide +kernel
theorem dX7_campAt_84 : decode cX7_campAt 84 = .ok (.iconst 4, 1) := by decide +kernel
theorem dX7_campAt_85 : decode cX7_campAt 85 = .ok (.goto 4, 3) := by decide +kernel
theorem dX7_campAt_88 : decode cX7_campAt 88 = .ok (.iconst (-1), 1) := by decide +kernel
theorem dX7_campAt_89 : decode cX7_campAt 89 = .ok (.ireturn, 1) := by decide +kernel
theorem dX7_find_0 : decode cX7_find 0 = .ok (.iconst (-1), 1) := by decide +kernel
theorem dX7_find_1 : decode cX7_find 1 = .ok (.istore_n 3, 1) := by decide +kernel
theorem dX7_find_2 : decode cX7_find 2 = .ok (.iconst 0, 1) := by decide +kernel
theorem dX7_find_3 : decode cX7_find 3 = .ok (.istore 4, 2) := by decide +kernel
theorem dX7_find_5 : decode cX7_find 5 = .ok (.iload 4, 2) := by decide +kernel
theorem dX7_find_7 : decode cX7_find 7 = .ok (.bipush 121, 2) := by decide +kernel
theorem dX7_find_9 : decode cX7_find 9 = .ok (.if_icmp .ge 38, 3) := by decide +kernel
theorem dX7_find_12 : decode cX7_find 12 = .ok (.aload_n 0, 1) := by decide +kernel
theorem dX7_find_13 : decode cX7_find 13 = .ok (.getfield 7, 3) := by decide +kernel
theorem dX7_find_16 : decode cX7_find 16 = .ok (.iload 4, 2) := by decide +kernel
theorem dX7_find_18 : decode cX7_find 18 = .ok (.iaload, 1) := by decide +kernel
theorem dX7_find_19 : decode cX7_find 19 = .ok (.iload_n 1, 1) := by decide +kernel
theorem dX7_find_20 : decode cX7_find 20 = .ok (.if_icmp .ne 19, 3) := by decide +kernel
theorem dX7_find_23 : decode cX7_find 23 = .ok (.aload_n 0, 1) := by decide +kernel
theorem dX7_find_24 : decode cX7_find 24 = .ok (.getfield 13, 3) := by decide +kernel
theorem dX7_find_27 : decode cX7_find 27 = .ok (.iload 4, 2) := by decide +kernel
theorem dX7_find_29 : decode cX7_find 29 = .ok (.iaload, 1) := by decide +kernel
theorem dX7_find_30 : decode cX7_find 30 = .ok (.iload_n 2, 1) := by decide +kernel
theorem dX7_find_31 : decode cX7_find 31 = .ok (.if_icmp .ne 8, 3) := by decide +kernel
theorem dX7_find_34 : decode cX7_find 34 = .ok (.iload 4, 2) := by decide +kernel
theorem dX7_find_36 : decode cX7_find 36 = .ok (.goto 4, 3) := by decide +kernel
theorem dX7_find_39 : decode cX7_find 39 = .ok (.iload_n 3, 1) := by decide +kernel
theorem dX7_find_40 : decode cX7_find 40 = .ok (.istore_n 3, 1) := by decide +kernel
theorem dX7_find_41 : decode cX7_find 41 = .ok (.iinc 4 1, 3) := by decide +kernel
theorem dX7_find_44 : decode cX7_find 44 = .ok (.goto (-39), 3) := by decide +kernel
theorem dX7_find_47 : decode cX7_find 47 = .ok (.iload_n 3, 1) := by decide +kernel
theorem dX7_find_48 : decode cX7_find 48 = .ok (.ireturn, 1) := by decide +kernel
theorem dX7_measures_0 : decode cX7_measures 0 = .ok (.iconst 0, 1) := by decide +kernel
theorem dX7_measures_1 : decode cX7_measures 1 = .ok (.istore_n 2, 1) := by decide +kernel
theorem dX7_measures_2 : decode cX7_measures 2 = .ok (.iload_n 2, 1) := by decide +kernel
theorem dX7_measures_3 : decode cX7_measures 3 = .ok (.bipush 121, 2) := by decide +kernel
theorem dX7_measures_5 : decode cX7_measures 5 = .ok (.if_icmp .ge 23, 3) := by decide +kernel
theorem dX7_measures_8 : decode cX7_measures 8 = .ok (.aload_n 0, 1) := by decide +kernel
theorem dX7_measures_9 : decode cX7_measures 9 = .ok (.getfield 22, 3) := by decide +kernel
theorem dX7_measures_12 : decode cX7_measures 12 = .ok (.bipush 121, 2) := by decide +kernel
theorem dX7_measures_14 : decode cX7_measures 14 = .ok (.iload_n 1, 1) := by decide +kernel
theorem dX7_measures_15 : decode cX7_measures 15 = .ok (.imul, 1) := by decide +kernel
theorem dX7_measures_16 : decode cX7_measures 16 = .ok (.iload_n 2, 1) := by decide +kernel
theorem dX7_measures_17 : decode cX7_measures 17 = .ok (.iadd, 1) := by decide +kernel
theorem dX7_measures_18 : decode cX7_measures 18 = .ok (.sipush 1000, 3) := by decide +kernel
theorem dX7_measures_21 : decode cX7_measures 21 = .ok (.iastore, 1) := by decide +kernel
theorem dX7_measures_22 : decode cX7_measures 22 = .ok (.iinc 2 1, 3) := by decide +kernel
theorem dX7_measures_25 : decode cX7_measures 25 = .ok (.goto (-23), 3) := by decide +kernel
theorem dX7_measures_28 : decode cX7_measures 28 = .ok (.aload_n 0, 1) := by decide +kernel
theorem dX7_measures_29 : decode cX7_measures 29 = .ok (.getfield 22, 3) := by decide +kernel
theorem dX7_measures_32 : decode cX7_measures 32 = .ok (.bipush 121, 2) := by decide +kernel
theorem dX7_measures_34 : decode cX7_measures 34 = .ok (.iload_n 1, 1) := by decide +kernel
theorem dX7_measures_35 : decode cX7_measures 35 = .ok (.imul, 1) := by decide +kernel
theorem dX7_measures_36 : decode cX7_measures 36 = .ok (.iload_n 1, 1) := by decide +kernel
theorem dX7_measures_37 : decode cX7_measures 37 = .ok (.iadd, 1) := by decide +kernel
theorem dX7_measures_38 : decode cX7_measures 38 = .ok (.iconst 0, 1) := by decide +kernel
theorem dX7_measures_39 : decode cX7_measures 39 = .ok (.iastore, 1) := by decide +kernel
theorem dX7_measures_40 : decode cX7_measures 40 = .ok (.aload_n 0, 1) := by decide +kernel
theorem dX7_measures_41 : decode cX7_measures 41 = .ok (.getfield 59, 3) := by decide +kernel
theorem dX7_measures_44 : decode cX7_measures 44 = .ok (.iconst 0, 1) := by decide +kernel
theorem dX7_measures_45 : decode cX7_measures 45 = .ok (.iload_n 1, 1) := by decide +kernel
theorem dX7_measures_46 : decode cX7_measures 46 = .ok (.iastore, 1) := by decide +kernel
theorem dX7_measures_47 : decode cX7_measures 47 = .ok (.iconst 1, 1) := by decide +kernel
theorem dX7_measures_48 : decode cX7_measures 48 = .ok (.istore_n 2, 1) := by decide +kernel
theorem dX7_measures_49 : decode cX7_measures 49 = .ok (.iconst 0, 1) := by decide +kernel
theorem dX7_measures_50 : decode cX7_measures 50 = .ok (.istore_n 3, 1) := by decide +kernel
theorem dX7_measures_51 : decode cX7_measures 51 = .ok (.iload_n 3, 1) := by decide +kernel
theorem dX7_measures_52 : decode cX7_measures 52 = .ok (.iload_n 2, 1) := by decide +kernel
theorem dX7_measures_53 : decode cX7_measures 53 = .ok (.if_icmp .ge 109, 3) := by decide +kernel
theorem dX7_measures_56 : decode cX7_measures 56 = .ok (.iconst 0, 1) := by decide +kernel
theorem dX7_measures_57 : decode cX7_measures 57 = .ok (.istore 4, 2) := by decide +kernel
theorem dX7_measures_59 : decode cX7_measures 59 = .ok (.iload 4, 2) := by decide +kernel
theorem dX7_measures_61 : decode cX7_measures 61 = .ok (.bipush 6, 2) := by decide +kernel
theorem dX7_measures_63 : decode cX7_measures 63 = .ok (.if_icmp .ge 93, 3) := by decide +kernel
theorem dX7_measures_66 : decode cX7_measures 66 = .ok (.aload_n 0, 1) := by decide +kernel
theorem dX7_measures_67 : decode cX7_measures 67 = .ok (.getfield 19, 3) := by decide +kernel
theorem dX7_measures_70 : decode cX7_measures 70 = .ok (.bipush 6, 2) := by decide +kernel
theorem dX7_measures_72 : decode cX7_measures 72 = .ok (.aload_n 0, 1) := by decide +kernel
theorem dX7_measures_73 : decode cX7_measures 73 = .ok (.getfield 59, 3) := by decide +kernel
theorem dX7_measures_76 : decode cX7_measures 76 = .ok (.iload_n 3, 1) := by decide +kernel
theorem dX7_measures_77 : decode cX7_measures 77 = .ok (.iaload, 1) := by decide +kernel
theorem dX7_measures_78 : decode cX7_measures 78 = .ok (.imul, 1) := by decide +kernel
theorem dX7_measures_79 : decode cX7_measures 79 = .ok (.iload 4, 2) := by decide +kernel
theorem dX7_measures_81 : decode cX7_measures 81 = .ok (.iadd, 1) := by decide +kernel
theorem dX7_measures_82 : decode cX7_measures 82 = .ok (.iaload, 1) := by decide +kernel
theorem dX7_measures_83 : decode cX7_measures 83 = .ok (.istore 5, 2) := by decide +kernel
theorem dX7_measures_85 : decode cX7_measures 85 = .ok (.iload 5, 2) := by decide +kernel
theorem dX7_measures_87 : decode cX7_measures 87 = .ok (.iconst (-1), 1) := by decide +kernel
theorem dX7_measures_88 : decode cX7_measures 88 = .ok (.if_icmp .eq 62, 3) := by decide +kernel
theorem dX7_measures_91 : decode cX7_measures 91 = .ok (.aload_n 0, 1) := by decide +kernel
theorem dX7_measures_92 : decode cX7_measures 92 = .ok (.getfield 22, 3) := by decide +kernel
theorem dX7_measures_95 : decode cX7_measures 95 = .ok (.bipush 121, 2) := by decide +kernel
theorem dX7_measures_97 : decode cX7_measures 97 = .ok (.iload_n 1, 1) := by decide +kernel
theorem dX7_measures_98 : decode cX7_measures 98 = .ok (.imul, 1) := by decide +kernel
theorem dX7_measures_99 : decode cX7_measures 99 = .ok (.iload 5, 2) := by decide +kernel
theorem dX7_measures_101 : decode cX7_measures 101 = .ok (.iadd, 1) := by decide +kernel
theorem dX7_measures_102 : decode cX7_measures 102 = .ok (.iaload, 1) := by decide +kernel
theorem dX7_measures_103 : decode cX7_measures 103 = .ok (.sipush 1000, 3) := by decide +kernel
theorem dX7_measures_106 : decode cX7_measures 106 = .ok (.if_icmp .ne 44, 3) := by decide +kernel
theorem dX7_measures_109 : decode cX7_measures 109 = .ok (.aload_n 0, 1) := by decide +kernel
theorem dX7_measures_110 : decode cX7_measures 110 = .ok (.getfield 22, 3) := by decide +kernel
theorem dX7_measures_113 : decode cX7_measures 113 = .ok (.bipush 121, 2) := by decide +kernel
theorem dX7_measures_115 : decode cX7_measures 115 = .ok (.iload_n 1, 1) := by decide +kernel
theorem dX7_measures_116 : decode cX7_measures 116 = .ok (.imul, 1) := by decide +kernel
theorem dX7_measures_117 : decode cX7_measures 117 = .ok (.iload 5, 2) := by decide +kernel
theorem dX7_measures_119 : decode cX7_measures 119 = .ok (.iadd, 1) := by decide +kernel
theorem dX7_measures_120 : decode cX7_measures 120 = .ok (.aload_n 0, 1) := by decide +kernel
theorem dX7_measures_121 : decode cX7_measures 121 = .ok (.getfield 22, 3) := by decide +kernel
theorem dX7_measures_124 : decode cX7_measures 124 = .ok (.bipush 121, 2) := by decide +kernel
theorem dX7_measures_126 : decode cX7_measures 126 = .ok (.iload_n 1, 1) := by decide +kernel
theorem dX7_measures_127 : decode cX7_measures 127 = .ok (.imul, 1) := by decide +kernel
theorem dX7_measures_128 : decode cX7_measures 128 = .ok (.aload_n 0, 1) := by decide +kernel
theorem dX7_measures_129 : decode cX7_measures 129 = .ok (.getfield 59, 3) := by decide +kernel
theorem dX7_measures_132 : decode cX7_measures 132 = .ok (.iload_n 3, 1) := by decide +kernel
theorem dX7_measures_133 : decode cX7_measures 133 = .ok (.iaload, 1) := by decide +kernel
theorem dX7_measures_134 : decode cX7_measures 134 = .ok (.iadd, 1) := by decide +kernel
theorem dX7_measures_135 : decode cX7_measures 135 = .ok (.iaload, 1) := by decide +kernel
theorem dX7_measures_136 : decode cX7_measures 136 = .ok (.iconst 1, 1) := by decide +kernel
theorem dX7_measures_137 : decode cX7_measures 137 = .ok (.iadd, 1) := by decide +kernel
theorem dX7_measures_138 : decode cX7_measures 138 = .ok (.iastore, 1) := by decide +kernel
theorem dX7_measures_139 : decode cX7_measures 139 = .ok (.aload_n 0, 1) := by decide +kernel
theorem dX7_measures_140 : decode cX7_measures 140 = .ok (.getfield 59, 3) := by decide +kernel
theorem dX7_measures_143 : decode cX7_measures 143 = .ok (.iload_n 2, 1) := by decide +kernel
theorem dX7_measures_144 : decode cX7_measures 144 = .ok (.iload 5, 2) := by decide +kernel
theorem dX7_measures_146 : decode cX7_measures 146 = .ok (.iastore, 1) := by decide +kernel
theorem dX7_measures_147 : decode cX7_measures 147 = .ok (.iinc 2 1, 3) := by decide +kernel
theorem dX7_measures_150 : decode cX7_measures 150 = .ok (.iinc 4 1, 3) := by decide +kernel
theorem dX7_measures_153 : decode cX7_measures 153 = .ok (.goto (-94), 3) := by decide +kernel
theorem dX7_measures_156 : decode cX7_measures 156 = .ok (.iinc 3 1, 3) := by decide +kernel
theorem dX7_measures_159 : decode cX7_measures 159 = .ok (.goto (-108), 3) := by decide +kernel
theorem dX7_measures_162 : decode cX7_measures 162 = .ok (.return_, 1) := by decide +kernel
theorem dX7_plays_0 : decode cX7_plays 0 = .ok (.iload_n 1, 1) := by decide +kernel
theorem dX7_plays_1 : decode cX7_plays 1 = .ok (.iconst 0, 1) := by decide +kernel
theorem dX7_plays_2 : decode cX7_plays 2 = .ok (.iconst 5, 1) := by decide +kernel
theorem dX7_plays_3 : decode cX7_plays 3 = .ok (.invokestatic 89, 3) := by decide +kernel
theorem dX7_plays_6 : decode cX7_plays 6 = .ok (.ifCond .eq 19, 3) := by decide +kernel
theorem dX7_plays_9 : decode cX7_plays 9 = .ok (.aload_n 0, 1) := by decide +kernel
theorem dX7_plays_10 : decode cX7_plays 10 = .ok (.getfield 93, 3) := by decide +kernel
theorem dX7_plays_13 : decode cX7_plays 13 = .ok (.iload_n 1, 1) := by decide +kernel
theorem dX7_plays_14 : decode cX7_plays 14 = .ok (.ishr, 1) := by decide +kernel
theorem dX7_plays_15 : decode cX7_plays 15 = .ok (.iconst 1, 1) := by decide +kernel
theorem dX7_plays_16 : decode cX7_plays 16 = .ok (.iand, 1) := by decide +kernel
theorem dX7_plays_17 : decode cX7_plays 17 = .ok (.iconst 1, 1) := by decide +kernel
theorem dX7_plays_18 : decode cX7_plays 18 = .ok (.if_icmp .ne 7, 3) := by decide +kernel
theorem dX7_plays_21 : decode cX7_plays 21 = .ok (.iconst 1, 1) := by decide +kernel
theorem dX7_plays_22 : decode cX7_plays 22 = .ok (.goto 4, 3) := by decide +kernel
theorem dX7_plays_25 : decode cX7_plays 25 = .ok (.iconst 0, 1) := by decide +kernel
theorem dX7_plays_26 : decode cX7_plays 26 = .ok (.ireturn, 1) := by decide +kernel
theorem dX7_begin_0 : decode cX7_begin 0 = .ok (.iconst 0, 1) := by decide +kernel
theorem dX7_begin_1 : decode cX7_begin 1 = .ok (.istore_n 2, 1) := by decide +kernel
theorem dX7_begin_2 : decode cX7_begin 2 = .ok (.iconst 0, 1) := by decide +kernel
theorem dX7_begin_3 : decode cX7_begin 3 = .ok (.istore_n 3, 1) := by decide +kernel
theorem dX7_begin_4 : decode cX7_begin 4 = .ok (.iload_n 3, 1) := by decide +kernel
theorem dX7_begin_5 : decode cX7_begin 5 = .ok (.bipush 6, 2) := by decide +kernel
theorem dX7_begin_7 : decode cX7_begin 7 = .ok (.if_icmp .ge 17, 3) := by decide +kernel
theorem dX7_begin_10 : decode cX7_begin 10 = .ok (.iload_n 2, 1) := by decide +kernel
theorem dX7_begin_11 : decode cX7_begin 11 = .ok (.iload_n 1, 1) := by decide +kernel
theorem dX7_begin_12 : decode cX7_begin 12 = .ok (.iload_n 3, 1) := by decide +kernel
theorem dX7_begin_13 : decode cX7_begin 13 = .ok (.ishr, 1) := by decide +kernel
theorem dX7_begin_14 : decode cX7_begin 14 = .ok (.iconst 1, 1) := by decide +kernel
theorem dX7_begin_15 : decode cX7_begin 15 = .ok (.iand, 1) := by decide +kernel
theorem dX7_begin_16 : decode cX7_begin 16 = .ok (.iadd, 1) := by decide +kernel
theorem dX7_begin_17 : decode cX7_begin 17 = .ok (.istore_n 2, 1) := by decide +kernel
theorem dX7_begin_18 : decode cX7_begin 18 = .ok (.iinc 3 1, 3) := by decide +kernel
theorem dX7_begin_21 : decode cX7_begin 21 = .ok (.goto (-17), 3) := by decide +kernel
theorem dX7_begin_24 : decode cX7_begin 24 = .ok (.aload_n 0, 1) := by decide +kernel
theorem dX7_begin_25 : decode cX7_begin 25 = .ok (.iload_n 1, 1) := by decide +kernel
theorem dX7_begin_26 : decode cX7_begin 26 = .ok (.iconst 0, 1) := by decide +kernel
theorem dX7_begin_27 : decode cX7_begin 27 = .ok (.bipush 63, 2) := by decide +kernel
theorem dX7_begin_29 : decode cX7_begin 29 = .ok (.invokestatic 89, 3) := by decide +kernel
theorem dX7_begin_32 : decode cX7_begin 32 = .ok (.ifCond .eq 12, 3) := by decide +kernel
theorem dX7_begin_35 : decode cX7_begin 35 = .ok (.iload_n 2, 1) := by decide +kernel
theorem dX7_begin_36 : decode cX7_begin 36 = .ok (.iconst 2, 1) := by decide +kernel
theorem dX7_begin_37 : decode cX7_begin 37 = .ok (.if_icmp .lt 7, 3) := by decide +kernel
theorem dX7_begin_40 : decode cX7_begin 40 = .ok (.iconst 0, 1) := by decide +kernel
theorem dX7_begin_41 : decode cX7_begin 41 = .ok (.goto 4, 3) := by decide +kernel
theorem dX7_begin_44 : decode cX7_begin 44 = .ok (.iconst 1, 1) := by decide +kernel
theorem dX7_begin_45 : decode cX7_begin 45 = .ok (.invokevirtual 96, 3) := by decide +kernel
theorem dX7_begin_48 : decode cX7_begin 48 = .ok (.ifCond .eq 105, 3) := by decide +kernel
theorem dX7_begin_51 : decode cX7_begin 51 = .ok (.aload_n 0, 1) := by decide +kernel
theorem dX7_begin_52 : decode cX7_begin 52 = .ok (.iload_n 1, 1) := by decide +kernel
theorem dX7_begin_53 : decode cX7_begin 53 = .ok (.putfield 93, 3) := by decide +kernel
theorem dX7_begin_56 : decode cX7_begin 56 = .ok (.iconst 0, 1) := by decide +kernel
theorem dX7_begin_57 : decode cX7_begin 57 = .ok (.istore_n 3, 1) := by decide +kernel
theorem dX7_begin_58 : decode cX7_begin 58 = .ok (.iload_n 3, 1) := by decide +kernel
theorem dX7_begin_59 : decode cX7_begin 59 = .ok (.bipush 121, 2) := by decide +kernel
theorem dX7_begin_61 : decode cX7_begin 61 = .ok (.if_icmp .ge 38, 3) := by decide +kernel
theorem dX7_begin_64 : decode cX7_begin 64 = .ok (.aload_n 0, 1) := by decide +kernel
theorem dX7_begin_65 : decode cX7_begin 65 = .ok (.getfield 32, 3) := by decide +kernel
theorem dX7_begin_68 : decode cX7_begin 68 = .ok (.iload_n 3, 1) := by decide +kernel
theorem dX7_begin_69 : decode cX7_begin 69 = .ok (.aload_n 0, 1) := by decide +kernel
theorem dX7_begin_70 : decode cX7_begin 70 = .ok (.aload_n 0, 1) := by decide +kernel
theorem dX7_begin_71 : decode cX7_begin 71 = .ok (.getfield 16, 3) := by decide +kernel
theorem dX7_begin_74 : decode cX7_begin 74 = .ok (.iload_n 3, 1) := by decide +kernel
theorem dX7_begin_75 : decode cX7_begin 75 = .ok (.iaload, 1) := by decide +kernel
theorem dX7_begin_76 : decode cX7_begin 76 = .ok (.invokevirtual 100, 3) := by decide +kernel
theorem dX7_begin_79 : decode cX7_begin 79 = .ok (.ifCond .eq 12, 3) := by decide +kernel
theorem dX7_begin_82 : decode cX7_begin 82 = .ok (.aload_n 0, 1) := by decide +kernel
theorem dX7_begin_83 : decode cX7_begin 83 = .ok (.getfield 16, 3) := by decide +kernel
theorem dX7_begin_86 : decode cX7_begin 86 = .ok (.iload_n 3, 1) := by decide +kernel
theorem dX7_begin_87 : decode cX7_begin 87 = .ok (.iaload, 1) := by decide +kernel
theorem dX7_begin_88 : decode cX7_begin 88 = .ok (.goto 4, 3) := by decide +kernel
theorem dX7_begin_91 : decode cX7_begin 91 = .ok (.iconst (-1), 1) := by decide +kernel
theorem dX7_begin_92 : decode cX7_begin 92 = .ok (.iastore, 1) := by decide +kernel
theorem dX7_begin_93 : decode cX7_begin 93 = .ok (.iinc 3 1, 3) := by decide +kernel
theorem dX7_begin_96 : decode cX7_begin 96 = .ok (.goto (-38), 3) := by decide +kernel
theorem dX7_begin_99 : decode cX7_begin 99 = .ok (.iconst 5, 1) := by decide +kernel
theorem dX7_begin_100 : decode cX7_begin 100 = .ok (.istore_n 3, 1) := by decide +kernel
theorem dX7_begin_101 : decode cX7_begin 101 = .ok (.iload_n 3, 1) := by decide +kernel
theorem dX7_begin_102 : decode cX7_begin 102 = .ok (.ifCond .lt 36, 3) := by decide +kernel
theorem dX7_begin_105 : decode cX7_begin 105 = .ok (.aload_n 0, 1) := by decide +kernel
theorem dX7_begin_106 : decode cX7_begin 106 = .ok (.getfield 35, 3) := by decide +kernel
theorem dX7_begin_109 : decode cX7_begin 109 = .ok (.iload_n 3, 1) := by decide +kernel
theorem dX7_begin_110 : decode cX7_begin 110 = .ok (.iconst 0, 1) := by decide +kernel
theorem dX7_begin_111 : decode cX7_begin 111 = .ok (.iastore, 1) := by decide +kernel
theorem dX7_begin_112 : decode cX7_begin 112 = .ok (.aload_n 0, 1) := by decide +kernel
theorem dX7_begin_113 : decode cX7_begin 113 = .ok (.aload_n 0, 1) := by decide +kernel
theorem dX7_begin_114 : decode cX7_begin 114 = .ok (.iload_n 3, 1) := by decide +kernel
theorem dX7_begin_115 : decode cX7_begin 115 = .ok (.invokevirtual 100, 3) := by decide +kernel
theorem dX7_begin_118 : decode cX7_begin 118 = .ok (.ifCond .eq 7, 3) := by decide +kernel
theorem dX7_begin_121 : decode cX7_begin 121 = .ok (.iload_n 3, 1) := by decide +kernel
theorem dX7_begin_122 : decode cX7_begin 122 = .ok (.goto 7, 3) := by decide +kernel
theorem dX7_begin_125 : decode cX7_begin 125 = .ok (.aload_n 0, 1) := by decide +kernel
theorem dX7_begin_126 : decode cX7_begin 126 = .ok (.getfield 83, 3) := by decide +kernel
theorem dX7_begin_129 : decode cX7_begin 129 = .ok (.putfield 83, 3) := by decide +kernel
theorem dX7_begin_132 : decode cX7_begin 132 = .ok (.iinc 3 (-1), 3) := by decide +kernel
theorem dX7_begin_135 : decode cX7_begin 135 = .ok (.goto (-34), 3) := by decide +kernel
theorem dX7_begin_138 : decode cX7_begin 138 = .ok (.aload_n 0, 1) := by decide +kernel
theorem dX7_begin_139 : decode cX7_begin 139 = .ok (.iconst 0, 1) := by decide +kernel
theorem dX7_begin_140 : decode cX7_begin 140 = .ok (.putfield 103, 3) := by decide +kernel
theorem dX7_begin_143 : decode cX7_begin 143 = .ok (.aload_n 0, 1) := by decide +kernel
theorem dX7_begin_144 : decode cX7_begin 144 = .ok (.iconst 0, 1) := by decide +kernel
theorem dX7_begin_145 : decode cX7_begin 145 = .ok (.putfield 106, 3) := by decide +kernel
theorem dX7_begin_148 : decode cX7_begin 148 = .ok (.aload_n 0, 1) := by decide +kernel
theorem dX7_begin_149 : decode cX7_begin 149 = .ok (.iconst 0, 1) := by decide +kernel
theorem dX7_begin_150 : decode cX7_begin 150 = .ok (.putfield 109, 3) := by decide +kernel
theorem dX7_begin_153 : decode cX7_begin 153 = .ok (.return_, 1) := by decide +kernel
theorem dX7_setFill_0 : decode cX7_setFill 0 = .ok (.aload_n 0, 1) := by decide +kernel
theorem dX7_setFill_1 : decode cX7_setFill 1 = .ok (.iload_n 1, 1) := by decide +kernel
theorem dX7_setFill_2 : decode cX7_setFill 2 = .ok (.iconst 1, 1) := by decide +kernel
theorem dX7_setFill_3 : decode cX7_setFill 3 = .ok (.bipush 10, 2) := by decide +kernel
theorem dX7_setFill_5 : decode cX7_setFill 5 = .ok (.invokestatic 89, 3) := by decide +kernel
theorem dX7_setFill_8 : decode cX7_setFill 8 = .ok (.ifCond .eq 7, 3) := by decide +kernel
theorem dX7_setFill_11 : decode cX7_setFill 11 = .ok (.iconst 0, 1) := by decide +kernel
theorem dX7_setFill_12 : decode cX7_setFill 12 = .ok (.goto 4, 3) := by decide +kernel
theorem dX7_setFill_15 : decode cX7_setFill 15 = .ok (.iconst 1, 1) := by decide +kernel
theorem dX7_setFill_16 : decode cX7_setFill 16 = .ok (.invokevirtual 96, 3) := by decide +kernel
theorem dX7_setFill_19 : decode cX7_setFill 19 = .ok (.ifCond .ne 5, 3) := by decide +kernel
theorem dX7_setFill_22 : decode cX7_setFill 22 = .ok (.iconst 0, 1) := by decide +kernel
theorem dX7_setFill_23 : decode cX7_setFill 23 = .ok (.ireturn, 1) := by decide +kernel
theorem dX7_setFill_24 : decode cX7_setFill 24 = .ok (.aload_n 0, 1) := by decide +kernel
theorem dX7_setFill_25 : decode cX7_setFill 25 = .ok (.getfield 28, 3) := by decide +kernel
theorem dX7_setFill_28 : decode cX7_setFill 28 = .ok (.istore_n 2, 1) := by decide +kernel
theorem dX7_setFill_29 : decode cX7_setFill 29 = .ok (.aload_n 0, 1) := by decide +kernel
theorem dX7_setFill_30 : decode cX7_setFill 30 = .ok (.iload_n 1, 1) := by decide +kernel
theorem dX7_setFill_31 : decode cX7_setFill 31 = .ok (.putfield 28, 3) := by decide +kernel
theorem dX7_setFill_34 : decode cX7_setFill 34 = .ok (.iload_n 2, 1) := by decide +kernel
theorem dX7_setFill_35 : decode cX7_setFill 35 = .ok (.ireturn, 1) := by decide +kernel
theorem dX7_setPatience_0 : decode cX7_setPatience 0 = .ok (.aload_n 0, 1) := by decide +kernel
theorem dX7_setPatience_1 : decode cX7_setPatience 1 = .ok (.iload_n 1, 1) := by decide +kernel
theorem dX7_setPatience_2 : decode cX7_setPatience 2 = .ok (.iconst 0, 1) := by decide +kernel
theorem dX7_setPatience_3 : decode cX7_setPatience 3 = .ok (.bipush 100, 2) := by decide +kernel
theorem dX7_setPatience_5 : decode cX7_setPatience 5 = .ok (.invokestatic 89, 3) := by decide +kernel
theorem dX7_setPatience_8 : decode cX7_setPatience 8 = .ok (.ifCond .eq 7, 3) := by decide +kernel
theorem dX7_setPatience_11 : decode cX7_setPatience 11 = .ok (.iconst 0, 1) := by decide +kernel
theorem dX7_setPatience_12 : decode cX7_setPatience 12 = .ok (.goto 4, 3) := by decide +kernel
theorem dX7_setPatience_15 : decode cX7_setPatience 15 = .ok (.iconst 1, 1) := by decide +kernel
theorem dX7_setPatience_16 : decode cX7_setPatience 16 = .ok (.invokevirtual 96, 3) := by decide +kernel
theorem dX7_setPatience_19 : decode cX7_setPatience 19 = .ok (.ifCond .ne 5, 3) := by decide +kernel
theorem dX7_setPatience_22 : decode cX7_setPatience 22 = .ok (.iconst 0, 1) := by decide +kernel
theorem dX7_setPatience_23 : decode cX7_setPatience 23 = .ok (.ireturn, 1) := by decide +kernel
theorem dX7_setPatience_24 : decode cX7_setPatience 24 = .ok (.aload_n 0, 1) := by decide +kernel
theorem dX7_setPatience_25 : decode cX7_setPatience 25 = .ok (.getfield 112, 3) := by decide +kernel
theorem dX7_setPatience_28 : decode cX7_setPatience 28 = .ok (.istore_n 2, 1) := by decide +kernel
theorem dX7_setPatience_29 : decode cX7_setPatience 29 = .ok (.aload_n 0, 1) := by decide +kernel
theorem dX7_setPatience_30 : decode cX7_setPatience 30 = .ok (.iload_n 1, 1) := by decide +kernel
theorem dX7_setPatience_31 : decode cX7_setPatience 31 = .ok (.putfield 112, 3) := by decide +kernel
theorem dX7_setPatience_34 : decode cX7_setPatience 34 = .ok (.iload_n 2, 1) := by decide +kernel
theorem dX7_setPatience_35 : decode cX7_setPatience 35 = .ok (.ireturn, 1) := by decide +kernel
theorem dX7_hasFinished_0 : decode cX7_hasFinished 0 = .ok (.iconst 0, 1) := by decide +kernel
theorem dX7_hasFinished_1 : decode cX7_hasFinished 1 = .ok (.istore_n 2, 1) := by decide +kernel
theorem dX7_hasFinished_2 : decode cX7_hasFinished 2 = .ok (.iconst 0, 1) := by decide +kernel
theorem dX7_hasFinished_3 : decode cX7_hasFinished 3 = .ok (.istore_n 3, 1) := by decide +kernel
theorem dX7_hasFinished_4 : decode cX7_hasFinished 4 = .ok (.iload_n 3, 1) := by decide +kernel
theorem dX7_hasFinished_5 : decode cX7_hasFinished 5 = .ok (.aload_n 0, 1) := by decide +kernel
theorem dX7_hasFinished_6 : decode cX7_hasFinished 6 = .ok (.getfield 109, 3) := by decide +kernel
theorem dX7_hasFinished_9 : decode cX7_hasFinished 9 = .ok (.if_icmp .ge 29, 3) := by decide +kernel
theorem dX7_hasFinished_12 : decode cX7_hasFinished 12 = .ok (.iload_n 2, 1) := by decide +kernel
theorem dX7_hasFinished_13 : decode cX7_hasFinished 13 = .ok (.ifCond .ne 13, 3) := by decide +kernel
theorem dX7_hasFinished_16 : decode cX7_hasFinished 16 = .ok (.aload_n 0, 1) := by decide +kernel
theorem dX7_hasFinished_17 : decode cX7_hasFinished 17 = .ok (.getfield 38, 3) := by decide +kernel
theorem dX7_hasFinished_20 : decode cX7_hasFinished 20 = .ok (.iload_n 3, 1) := by decide +kernel
theorem dX7_hasFinished_21 : decode cX7_hasFinished 21 = .ok (.iaload, 1) := by decide +kernel
theorem dX7_hasFinished_22 : decode cX7_hasFinished 22 = .ok (.iload_n 1, 1) := by decide +kernel
theorem dX7_hasFinished_23 : decode cX7_hasFinished 23 = .ok (.if_icmp .ne 7, 3) := by decide +kernel
theorem dX7_hasFinished_26 : decode cX7_hasFinished 26 = .ok (.iconst 1, 1) := by decide +kernel
theorem dX7_hasFinished_27 : decode cX7_hasFinished 27 = .ok (.goto 4, 3) := by decide +kernel
theorem dX7_hasFinished_30 : decode cX7_hasFinished 30 = .ok (.iconst 0, 1) := by decide +kernel
theorem dX7_hasFinished_31 : decode cX7_hasFinished 31 = .ok (.istore_n 2, 1) := by decide +kernel
theorem dX7_hasFinished_32 : decode cX7_hasFinished 32 = .ok (.iinc 3 1, 3) := by decide +kernel
theorem dX7_hasFinished_35 : decode cX7_hasFinished 35 = .ok (.goto (-31), 3) := by decide +kernel
theorem dX7_hasFinished_38 : decode cX7_hasFinished 38 = .ok (.iload_n 2, 1) := by decide +kernel
theorem dX7_hasFinished_39 : decode cX7_hasFinished 39 = .ok (.ireturn, 1) := by decide +kernel
theorem dX7_ownIn_0 : decode cX7_ownIn 0 = .ok (.iconst 0, 1) := by decide +kernel
theorem dX7_ownIn_1 : decode cX7_ownIn 1 = .ok (.istore_n 3, 1) := by decide +kernel
theorem dX7_ownIn_2 : decode cX7_ownIn 2 = .ok (.bipush 10, 2) := by decide +kernel
theorem dX7_ownIn_4 : decode cX7_ownIn 4 = .ok (.iload_n 2, 1) := by decide +kernel
theorem dX7_ownIn_5 : decode cX7_ownIn 5 = .ok (.imul, 1) := by decide +kernel
theorem dX7_ownIn_6 : decode cX7_ownIn 6 = .ok (.istore 4, 2) := by decide +kernel
theorem dX7_ownIn_8 : decode cX7_ownIn 8 = .ok (.iload 4, 2) := by decide +kernel
theorem dX7_ownIn_10 : decode cX7_ownIn 10 = .ok (.bipush 10, 2) := by decide +kernel
theorem dX7_ownIn_12 : decode cX7_ownIn 12 = .ok (.iload_n 2, 1) := by decide +kernel
theorem dX7_ownIn_13 : decode cX7_ownIn 13 = .ok (.imul, 1) := by decide +kernel
theorem dX7_ownIn_14 : decode cX7_ownIn 14 = .ok (.bipush 10, 2) := by decide +kernel
theorem dX7_ownIn_16 : decode cX7_ownIn 16 = .ok (.iadd, 1) := by decide +kernel
theorem dX7_ownIn_17 : decode cX7_ownIn 17 = .ok (.if_icmp .ge 33, 3) := by decide +kernel
theorem dX7_ownIn_20 : decode cX7_ownIn 20 = .ok (.iload_n 3, 1) := by decide +kernel
theorem dX7_ownIn_21 : decode cX7_ownIn 21 = .ok (.aload_n 0, 1) := by decide +kernel
theorem dX7_ownIn_22 : decode cX7_ownIn 22 = .ok (.getfield 32, 3) := by decide +kernel
theorem dX7_ownIn_25 : decode cX7_ownIn 25 = .ok (.aload_n 0, 1) := by decide +kernel
theorem dX7_ownIn_26 : decode cX7_ownIn 26 = .ok (.getfield 25, 3) := by decide +kernel
theorem dX7_ownIn_29 : decode cX7_ownIn 29 = .ok (.iload 4, 2) := by decide +kernel
theorem dX7_ownIn_31 : decode cX7_ownIn 31 = .ok (.iaload, 1) := by decide +kernel
theorem dX7_ownIn_32 : decode cX7_ownIn 32 = .ok (.iaload, 1) := by decide +kernel
theorem dX7_ownIn_33 : decode cX7_ownIn 33 = .ok (.iload_n 1, 1) := by decide +kernel
theorem dX7_ownIn_34 : decode cX7_ownIn 34 = .ok (.if_icmp .ne 7, 3) := by decide +kernel
theorem dX7_ownIn_37 : decode cX7_ownIn 37 = .ok (.iconst 1, 1) := by decide +kernel
theorem dX7_ownIn_38 : decode cX7_ownIn 38 = .ok (.goto 4, 3) := by decide +kernel
theorem dX7_ownIn_41 : decode cX7_ownIn 41 = .ok (.iconst 0, 1) := by decide +kernel
theorem dX7_ownIn_42 : decode cX7_ownIn 42 = .ok (.iadd, 1) := by decide +kernel
theorem dX7_ownIn_43 : decode cX7_ownIn 43 = .ok (.istore_n 3, 1) := by decide +kernel
theorem dX7_ownIn_44 : decode cX7_ownIn 44 = .ok (.iinc 4 1, 3) := by decide +kernel
theorem dX7_ownIn_47 : decode cX7_ownIn 47 = .ok (.goto (-39), 3) := by decide +kernel
theorem dX7_ownIn_50 : decode cX7_ownIn 50 = .ok (.iload_n 3, 1) := by decide +kernel
theorem dX7_ownIn_51 : decode cX7_ownIn 51 = .ok (.ireturn, 1) := by decide +kernel
theorem dX7_isFull_0 : decode cX7_isFull 0 = .ok (.aload_n 0, 1) := by decide +kernel
theorem dX7_isFull_1 : decode cX7_isFull 1 = .ok (.iconst (-1), 1) := by decide +kernel
theorem dX7_isFull_2 : decode cX7_isFull 2 = .ok (.iload_n 1, 1) := by decide +kernel
theorem dX7_isFull_3 : decode cX7_isFull 3 = .ok (.invokevirtual 115, 3) := by decide +kernel
theorem dX7_isFull_6 : decode cX7_isFull 6 = .ok (.ifCond .ne 7, 3) := by decide +kernel
theorem dX7_isFull_9 : decode cX7_isFull 9 = .ok (.iconst 1, 1) := by decide +kernel
theorem dX7_isFull_10 : decode cX7_isFull 10 = .ok (.goto 4, 3) := by decide +kernel
theorem dX7_isFull_13 : decode cX7_isFull 13 = .ok (.iconst 0, 1) := by decide +kernel
theorem dX7_isFull_14 : decode cX7_isFull 14 = .ok (.ireturn, 1) := by decide +kernel
theorem dX7_finishes_0 : decode cX7_finishes 0 = .ok (.iconst 0, 1) := by decide +kernel
theorem dX7_finishes_1 : decode cX7_finishes 1 = .ok (.istore_n 1, 1) := by decide +kernel
theorem dX7_finishes_2 : decode cX7_finishes 2 = .ok (.iload_n 1, 1) := by decide +kernel
theorem dX7_finishes_3 : decode cX7_finishes 3 = .ok (.bipush 6, 2) := by decide +kernel
theorem dX7_finishes_5 : decode cX7_finishes 5 = .ok (.if_icmp .ge 84, 3) := by decide +kernel
theorem dX7_finishes_8 : decode cX7_finishes 8 = .ok (.iload_n 1, 1) := by decide +kernel
theorem dX7_finishes_9 : decode cX7_finishes 9 = .ok (.iconst 3, 1) := by decide +kernel
theorem dX7_finishes_10 : decode cX7_finishes 10 = .ok (.iadd, 1) := by decide +kernel
theorem dX7_finishes_11 : decode cX7_finishes 11 = .ok (.bipush 6, 2) := by decide +kernel
theorem dX7_finishes_13 : decode cX7_finishes 13 = .ok (.irem, 1) := by decide +kernel
theorem dX7_finishes_14 : decode cX7_finishes 14 = .ok (.istore_n 2, 1) := by decide +kernel
theorem dX7_finishes_15 : decode cX7_finishes 15 = .ok (.aload_n 0, 1) := by decide +kernel
theorem dX7_finishes_16 : decode cX7_finishes 16 = .ok (.iload_n 1, 1) := by decide +kernel
theorem dX7_finishes_17 : decode cX7_finishes 17 = .ok (.invokevirtual 100, 3) := by decide +kernel
theorem dX7_finishes_20 : decode cX7_finishes 20 = .ok (.ifCond .eq 63, 3) := by decide +kernel
theorem dX7_finishes_23 : decode cX7_finishes 23 = .ok (.aload_n 0, 1) := by decide +kernel
theorem dX7_finishes_24 : decode cX7_finishes 24 = .ok (.getfield 106, 3) := by decide +kernel
theorem dX7_finishes_27 : decode cX7_finishes 27 = .ok (.iload_n 1, 1) := by decide +kernel
theorem dX7_finishes_28 : decode cX7_finishes 28 = .ok (.ishr, 1) := by decide +kernel
theorem dX7_finishes_29 : decode cX7_finishes 29 = .ok (.iconst 1, 1) := by decide +kernel
theorem dX7_finishes_30 : decode cX7_finishes 30 = .ok (.iand, 1) := by decide +kernel
theorem dX7_finishes_31 : decode cX7_finishes 31 = .ok (.ifCond .ne 52, 3) := by decide +kernel
theorem dX7_finishes_34 : decode cX7_finishes 34 = .ok (.aload_n 0, 1) := by decide +kernel
theorem dX7_finishes_35 : decode cX7_finishes 35 = .ok (.iload_n 1, 1) := by decide +kernel
theorem dX7_finishes_36 : decode cX7_finishes 36 = .ok (.invokevirtual 118, 3) := by decide +kernel
theorem dX7_finishes_39 : decode cX7_finishes 39 = .ok (.ifCond .ne 44, 3) := by decide +kernel
theorem dX7_finishes_42 : decode cX7_finishes 42 = .ok (.aload_n 0, 1) := by decide +kernel
theorem dX7_finishes_43 : decode cX7_finishes 43 = .ok (.iload_n 2, 1) := by decide +kernel
theorem dX7_finishes_44 : decode cX7_finishes 44 = .ok (.invokevirtual 121, 3) := by decide +kernel
theorem dX7_finishes_47 : decode cX7_finishes 47 = .ok (.ifCond .eq 36, 3) := by decide +kernel
theorem dX7_finishes_50 : decode cX7_finishes 50 = .ok (.aload_n 0, 1) := by decide +kernel
theorem dX7_finishes_51 : decode cX7_finishes 51 = .ok (.iload_n 1, 1) := by decide +kernel
theorem dX7_finishes_52 : decode cX7_finishes 52 = .ok (.iload_n 2, 1) := by decide +kernel
theorem dX7_finishes_53 : decode cX7_finishes 53 = .ok (.invokevirtual 115, 3) := by decide +kernel
theorem dX7_finishes_56 : decode cX7_finishes 56 = .ok (.aload_n 0, 1) := by decide +kernel
theorem dX7_finishes_57 : decode cX7_finishes 57 = .ok (.getfield 28, 3) := by decide +kernel
theorem dX7_finishes_60 : decode cX7_finishes 60 = .ok (.if_icmp .lt 23, 3) := by decide +kernel
theorem dX7_finishes_63 : decode cX7_finishes 63 = .ok (.aload_n 0, 1) := by decide +kernel
theorem dX7_finishes_64 : decode cX7_finishes 64 = .ok (.getfield 38, 3) := by decide +kernel
theorem dX7_finishes_67 : decode cX7_finishes 67 = .ok (.aload_n 0, 1) := by decide +kernel
theorem dX7_finishes_68 : decode cX7_finishes 68 = .ok (.getfield 109, 3) := by decide +kernel
theorem dX7_finishes_71 : decode cX7_finishes 71 = .ok (.iload_n 1, 1) := by decide +kernel
theorem dX7_finishes_72 : decode cX7_finishes 72 = .ok (.iastore, 1) := by decide +kernel
theorem dX7_finishes_73 : decode cX7_finishes 73 = .ok (.aload_n 0, 1) := by decide +kernel
theorem dX7_finishes_74 : decode cX7_finishes 74 = .ok (.dup, 1) := by decide +kernel
theorem dX7_finishes_75 : decode cX7_finishes 75 = .ok (.getfield 109, 3) := by decide +kernel
theorem dX7_finishes_78 : decode cX7_finishes 78 = .ok (.iconst 1, 1) := by decide +kernel
theorem dX7_finishes_79 : decode cX7_finishes 79 = .ok (.iadd, 1) := by decide +kernel
theorem dX7_finishes_80 : decode cX7_finishes 80 = .ok (.putfield 109, 3) := by decide +kernel
theorem dX7_finishes_83 : decode cX7_finishes 83 = .ok (.iinc 1 1, 3) := by decide +kernel
theorem dX7_finishes_86 : decode cX7_finishes 86 = .ok (.goto (-84), 3) := by decide +kernel
theorem dX7_finishes_89 : decode cX7_finishes 89 = .ok (.return_, 1) := by decide +kernel
theorem dX7_turns_0 : decode cX7_turns 0 = .ok (.aload_n 0, 1) := by decide +kernel
theorem dX7_turns_1 : decode cX7_turns 1 = .ok (.getfield 83, 3) := by decide +kernel
theorem dX7_turns_4 : decode cX7_turns 4 = .ok (.istore_n 1, 1) := by decide +kernel
theorem dX7_turns_5 : decode cX7_turns 5 = .ok (.aload_n 0, 1) := by decide +kernel
theorem dX7_turns_6 : decode cX7_turns 6 = .ok (.iconst (-1), 1) := by decide +kernel
theorem dX7_turns_7 : decode cX7_turns 7 = .ok (.putfield 83, 3) := by decide +kernel
theorem dX7_turns_10 : decode cX7_turns 10 = .ok (.iconst 1, 1) := by decide +kernel
theorem dX7_turns_11 : decode cX7_turns 11 = .ok (.istore_n 2, 1) := by decide +kernel
theorem dX7_turns_12 : decode cX7_turns 12 = .ok (.iload_n 2, 1) := by decide +kernel
theorem dX7_turns_13 : decode cX7_turns 13 = .ok (.bipush 6, 2) := by decide +kernel
theorem dX7_turns_15 : decode cX7_turns 15 = .ok (.if_icmp .gt 122, 3) := by decide +kernel
theorem dX7_turns_18 : decode cX7_turns 18 = .ok (.aload_n 0, 1) := by decide +kernel
theorem dX7_turns_19 : decode cX7_turns 19 = .ok (.getfield 83, 3) := by decide +kernel
theorem dX7_turns_22 : decode cX7_turns 22 = .ok (.iconst (-1), 1) := by decide +kernel
theorem dX7_turns_23 : decode cX7_turns 23 = .ok (.if_icmp .ne 114, 3) := by decide +kernel
theorem dX7_turns_26 : decode cX7_turns 26 = .ok (.iload_n 1, 1) := by decide +kernel
theorem dX7_turns_27 : decode cX7_turns 27 = .ok (.iload_n 2, 1) := by decide +kernel
theorem dX7_turns_28 : decode cX7_turns 28 = .ok (.iadd, 1) := by decide +kernel
theorem dX7_turns_29 : decode cX7_turns 29 = .ok (.bipush 6, 2) := by decide +kernel
theorem dX7_turns_31 : decode cX7_turns 31 = .ok (.irem, 1) := by decide +kernel
theorem dX7_turns_32 : decode cX7_turns 32 = .ok (.istore_n 3, 1) := by decide +kernel
theorem dX7_turns_33 : decode cX7_turns 33 = .ok (.aload_n 0, 1) := by decide +kernel
theorem dX7_turns_34 : decode cX7_turns 34 = .ok (.iload_n 3, 1) := by decide +kernel
theorem dX7_turns_35 : decode cX7_turns 35 = .ok (.invokevirtual 100, 3) := by decide +kernel
theorem dX7_turns_38 : decode cX7_turns 38 = .ok (.ifCond .eq 93, 3) := by decide +kernel
theorem dX7_turns_41 : decode cX7_turns 41 = .ok (.aload_n 0, 1) := by decide +kernel
theorem dX7_turns_42 : decode cX7_turns 42 = .ok (.iload_n 3, 1) := by decide +kernel
theorem dX7_turns_43 : decode cX7_turns 43 = .ok (.invokevirtual 118, 3) := by decide +kernel
theorem dX7_turns_46 : decode cX7_turns 46 = .ok (.ifCond .ne 85, 3) := by decide +kernel
theorem dX7_turns_49 : decode cX7_turns 49 = .ok (.aload_n 0, 1) := by decide +kernel
theorem dX7_turns_50 : decode cX7_turns 50 = .ok (.getfield 106, 3) := by decide +kernel
theorem dX7_turns_53 : decode cX7_turns 53 = .ok (.iload_n 3, 1) := by decide +kernel
theorem dX7_turns_54 : decode cX7_turns 54 = .ok (.ishr, 1) := by decide +kernel
theorem dX7_turns_55 : decode cX7_turns 55 = .ok (.iconst 1, 1) := by decide +kernel
theorem dX7_turns_56 : decode cX7_turns 56 = .ok (.iand, 1) := by decide +kernel
theorem dX7_turns_57 : decode cX7_turns 57 = .ok (.ifCond .ne 74, 3) := by decide +kernel
theorem dX7_turns_60 : decode cX7_turns 60 = .ok (.aload_n 0, 1) := by decide +kernel
theorem dX7_turns_61 : decode cX7_turns 61 = .ok (.getfield 112, 3) := by decide +kernel
theorem dX7_turns_64 : decode cX7_turns 64 = .ok (.ifCond .le 29, 3) := by decide +kernel
theorem dX7_turns_67 : decode cX7_turns 67 = .ok (.aload_n 0, 1) := by decide +kernel
theorem dX7_turns_68 : decode cX7_turns 68 = .ok (.getfield 35, 3) := by decide +kernel
theorem dX7_turns_71 : decode cX7_turns 71 = .ok (.iload_n 3, 1) := by decide +kernel
theorem dX7_turns_72 : decode cX7_turns 72 = .ok (.iaload, 1) := by decide +kernel
theorem dX7_turns_73 : decode cX7_turns 73 = .ok (.aload_n 0, 1) := by decide +kernel
theorem dX7_turns_74 : decode cX7_turns 74 = .ok (.getfield 112, 3) := by decide +kernel
theorem dX7_turns_77 : decode cX7_turns 77 = .ok (.if_icmp .lt 16, 3) := by decide +kernel
theorem dX7_turns_80 : decode cX7_turns 80 = .ok (.aload_n 0, 1) := by decide +kernel
theorem dX7_turns_81 : decode cX7_turns 81 = .ok (.iload_n 3, 1) := by decide +kernel
theorem dX7_turns_82 : decode cX7_turns 82 = .ok (.iload_n 3, 1) := by decide +kernel
theorem dX7_turns_83 : decode cX7_turns 83 = .ok (.invokevirtual 115, 3) := by decide +kernel
theorem dX7_turns_86 : decode cX7_turns 86 = .ok (.ifCond .le 7, 3) := by decide +kernel
theorem dX7_turns_89 : decode cX7_turns 89 = .ok (.iconst 1, 1) := by decide +kernel
theorem dX7_turns_90 : decode cX7_turns 90 = .ok (.goto 4, 3) := by decide +kernel
theorem dX7_turns_93 : decode cX7_turns 93 = .ok (.iconst 0, 1) := by decide +kernel
theorem dX7_turns_94 : decode cX7_turns 94 = .ok (.istore 4, 2) := by decide +kernel
theorem dX7_turns_96 : decode cX7_turns 96 = .ok (.aload_n 0, 1) := by decide +kernel
theorem dX7_turns_97 : decode cX7_turns 97 = .ok (.dup, 1) := by decide +kernel
theorem dX7_turns_98 : decode cX7_turns 98 = .ok (.getfield 106, 3) := by decide +kernel
theorem dX7_turns_101 : decode cX7_turns 101 = .ok (.iload 4, 2) := by decide +kernel
theorem dX7_turns_103 : decode cX7_turns 103 = .ok (.ifCond .eq 9, 3) := by decide +kernel
theorem dX7_turns_106 : decode cX7_turns 106 = .ok (.iconst 1, 1) := by decide +kernel
theorem dX7_turns_107 : decode cX7_turns 107 = .ok (.iload_n 3, 1) := by decide +kernel
theorem dX7_turns_108 : decode cX7_turns 108 = .ok (.ishl, 1) := by decide +kernel
theorem dX7_turns_109 : decode cX7_turns 109 = .ok (.goto 4, 3) := by decide +kernel
theorem dX7_turns_112 : decode cX7_turns 112 = .ok (.iconst 0, 1) := by decide +kernel
theorem dX7_turns_113 : decode cX7_turns 113 = .ok (.ior, 1) := by decide +kernel
theorem dX7_turns_114 : decode cX7_turns 114 = .ok (.putfield 106, 3) := by decide +kernel
theorem dX7_turns_117 : decode cX7_turns 117 = .ok (.aload_n 0, 1) := by decide +kernel
theorem dX7_turns_118 : decode cX7_turns 118 = .ok (.iload 4, 2) := by decide +kernel
theorem dX7_turns_120 : decode cX7_turns 120 = .ok (.ifCond .eq 7, 3) := by decide +kernel
theorem dX7_turns_123 : decode cX7_turns 123 = .ok (.iconst (-1), 1) := by decide +kernel
theorem dX7_turns_124 : decode cX7_turns 124 = .ok (.goto 4, 3) := by decide +kernel
theorem dX7_turns_127 : decode cX7_turns 127 = .ok (.iload_n 3, 1) := by decide +kernel
theorem dX7_turns_128 : decode cX7_turns 128 = .ok (.putfield 83, 3) := by decide +kernel
theorem dX7_turns_131 : decode cX7_turns 131 = .ok (.iinc 2 1, 3) := by decide +kernel
theorem dX7_turns_134 : decode cX7_turns 134 = .ok (.goto (-122), 3) := by decide +kernel
theorem dX7_turns_137 : decode cX7_turns 137 = .ok (.return_, 1) := by decide +kernel
theorem dX7_notes_0 : decode cX7_notes 0 = .ok (.aload_n 0, 1) := by decide +kernel
theorem dX7_notes_1 : decode cX7_notes 1 = .ok (.getfield 41, 3) := by decide +kernel
theorem dX7_notes_4 : decode cX7_notes 4 = .ok (.aload_n 0, 1) := by decide +kernel
theorem dX7_notes_5 : decode cX7_notes 5 = .ok (.getfield 103, 3) := by decide +kernel
theorem dX7_notes_8 : decode cX7_notes 8 = .ok (.iload_n 1, 1) := by decide +kernel
theorem dX7_notes_9 : decode cX7_notes 9 = .ok (.iastore, 1) := by decide +kernel
theorem dX7_notes_10 : decode cX7_notes 10 = .ok (.aload_n 0, 1) := by decide +kernel
theorem dX7_notes_11 : decode cX7_notes 11 = .ok (.getfield 44, 3) := by decide +kernel
theorem dX7_notes_14 : decode cX7_notes 14 = .ok (.aload_n 0, 1) := by decide +kernel
theorem dX7_notes_15 : decode cX7_notes 15 = .ok (.getfield 103, 3) := by decide +kernel
theorem dX7_notes_18 : decode cX7_notes 18 = .ok (.iload_n 2, 1) := by decide +kernel
theorem dX7_notes_19 : decode cX7_notes 19 = .ok (.iastore, 1) := by decide +kernel
theorem dX7_notes_20 : decode cX7_notes 20 = .ok (.aload_n 0, 1) := by decide +kernel
theorem dX7_notes_21 : decode cX7_notes 21 = .ok (.getfield 47, 3) := by decide +kernel
theorem dX7_notes_24 : decode cX7_notes 24 = .ok (.aload_n 0, 1) := by decide +kernel
theorem dX7_notes_25 : decode cX7_notes 25 = .ok (.getfield 103, 3) := by decide +kernel
theorem dX7_notes_28 : decode cX7_notes 28 = .ok (.aload_n 0, 1) := by decide +kernel
theorem dX7_notes_29 : decode cX7_notes 29 = .ok (.getfield 83, 3) := by decide +kernel
theorem dX7_notes_32 : decode cX7_notes 32 = .ok (.iastore, 1) := by decide +kernel
theorem dX7_notes_33 : decode cX7_notes 33 = .ok (.aload_n 0, 1) := by decide +kernel
theorem dX7_notes_34 : decode cX7_notes 34 = .ok (.getfield 50, 3) := by decide +kernel
theorem dX7_notes_37 : decode cX7_notes 37 = .ok (.aload_n 0, 1) := by decide +kernel
theorem dX7_notes_38 : decode cX7_notes 38 = .ok (.getfield 103, 3) := by decide +kernel
theorem dX7_notes_41 : decode cX7_notes 41 = .ok (.aload_n 0, 1) := by decide +kernel
theorem dX7_notes_42 : decode cX7_notes 42 = .ok (.getfield 106, 3) := by decide +kernel
theorem dX7_notes_45 : decode cX7_notes 45 = .ok (.iastore, 1) := by decide +kernel
theorem dX7_notes_46 : decode cX7_notes 46 = .ok (.aload_n 0, 1) := by decide +kernel
theorem dX7_notes_47 : decode cX7_notes 47 = .ok (.getfield 53, 3) := by decide +kernel
theorem dX7_notes_50 : decode cX7_notes 50 = .ok (.aload_n 0, 1) := by decide +kernel
theorem dX7_notes_51 : decode cX7_notes 51 = .ok (.getfield 103, 3) := by decide +kernel
theorem dX7_notes_54 : decode cX7_notes 54 = .ok (.aload_n 0, 1) := by decide +kernel
theorem dX7_notes_55 : decode cX7_notes 55 = .ok (.getfield 109, 3) := by decide +kernel
theorem dX7_notes_58 : decode cX7_notes 58 = .ok (.iastore, 1) := by decide +kernel
theorem dX7_notes_59 : decode cX7_notes 59 = .ok (.aload_n 0, 1) := by decide +kernel
theorem dX7_notes_60 : decode cX7_notes 60 = .ok (.dup, 1) := by decide +kernel
theorem dX7_notes_61 : decode cX7_notes 61 = .ok (.getfield 103, 3) := by decide +kernel
theorem dX7_notes_64 : decode cX7_notes 64 = .ok (.iconst 1, 1) := by decide +kernel
theorem dX7_notes_65 : decode cX7_notes 65 = .ok (.iadd, 1) := by decide +kernel
theorem dX7_notes_66 : decode cX7_notes 66 = .ok (.putfield 103, 3) := by decide +kernel
theorem dX7_notes_69 : decode cX7_notes 69 = .ok (.aload_n 0, 1) := by decide +kernel
theorem dX7_notes_70 : decode cX7_notes 70 = .ok (.getfield 35, 3) := by decide +kernel
theorem dX7_notes_73 : decode cX7_notes 73 = .ok (.aload_n 0, 1) := by decide +kernel
theorem dX7_notes_74 : decode cX7_notes 74 = .ok (.getfield 83, 3) := by decide +kernel
theorem dX7_notes_77 : decode cX7_notes 77 = .ok (.dup2, 1) := by decide +kernel
theorem dX7_notes_78 : decode cX7_notes 78 = .ok (.iaload, 1) := by decide +kernel
theorem dX7_notes_79 : decode cX7_notes 79 = .ok (.iconst 1, 1) := by decide +kernel
theorem dX7_notes_80 : decode cX7_notes 80 = .ok (.iadd, 1) := by decide +kernel
theorem dX7_notes_81 : decode cX7_notes 81 = .ok (.iastore, 1) := by decide +kernel
theorem dX7_notes_82 : decode cX7_notes 82 = .ok (.return_, 1) := by decide +kernel
theorem dX7_move_0 : decode cX7_move 0 = .ok (.aload_n 0, 1) := by decide +kernel
theorem dX7_move_1 : decode cX7_move 1 = .ok (.iload_n 1, 1) := by decide +kernel
theorem dX7_move_2 : decode cX7_move 2 = .ok (.invokestatic 124, 3) := by decide +kernel
theorem dX7_move_5 : decode cX7_move 5 = .ok (.ifCond .eq 10, 3) := by decide +kernel
theorem dX7_move_8 : decode cX7_move 8 = .ok (.iload_n 2, 1) := by decide +kernel
theorem dX7_move_9 : decode cX7_move 9 = .ok (.invokestatic 124, 3) := by decide +kernel
theorem dX7_move_12 : decode cX7_move 12 = .ok (.ifCond .ne 7, 3) := by decide +kernel
theorem dX7_move_15 : decode cX7_move 15 = .ok (.iconst 1, 1) := by decide +kernel
theorem dX7_move_16 : decode cX7_move 16 = .ok (.goto 26, 3) := by decide +kernel
theorem dX7_move_19 : decode cX7_move 19 = .ok (.aload_n 0, 1) := by decide +kernel
theorem dX7_move_20 : decode cX7_move 20 = .ok (.getfield 83, 3) := by decide +kernel
theorem dX7_move_23 : decode cX7_move 23 = .ok (.iconst (-1), 1) := by decide +kernel
theorem dX7_move_24 : decode cX7_move 24 = .ok (.if_icmp .eq 13, 3) := by decide +kernel
theorem dX7_move_27 : decode cX7_move 27 = .ok (.aload_n 0, 1) := by decide +kernel
theorem dX7_move_28 : decode cX7_move 28 = .ok (.getfield 103, 3) := by decide +kernel
theorem dX7_move_31 : decode cX7_move 31 = .ok (.sipush 300, 3) := by decide +kernel
theorem dX7_move_34 : decode cX7_move 34 = .ok (.if_icmp .ne 7, 3) := by decide +kernel
theorem dX7_move_37 : decode cX7_move 37 = .ok (.iconst 2, 1) := by decide +kernel
theorem dX7_move_38 : decode cX7_move 38 = .ok (.goto 4, 3) := by decide +kernel
theorem dX7_move_41 : decode cX7_move 41 = .ok (.iconst 0, 1) := by decide +kernel
theorem dX7_move_42 : decode cX7_move 42 = .ok (.invokevirtual 96, 3) := by decide +kernel
theorem dX7_move_45 : decode cX7_move 45 = .ok (.ifCond .ne 5, 3) := by decide +kernel
theorem dX7_move_48 : decode cX7_move 48 = .ok (.iconst 0, 1) := by decide +kernel
theorem dX7_move_49 : decode cX7_move 49 = .ok (.ireturn, 1) := by decide +kernel
theorem dX7_move_50 : decode cX7_move 50 = .ok (.aload_n 0, 1) := by decide +kernel
theorem dX7_move_51 : decode cX7_move 51 = .ok (.iload_n 1, 1) := by decide +kernel
theorem dX7_move_52 : decode cX7_move 52 = .ok (.iload_n 2, 1) := by decide +kernel
theorem dX7_move_53 : decode cX7_move 53 = .ok (.invokevirtual 127, 3) := by decide +kernel
theorem dX7_move_56 : decode cX7_move 56 = .ok (.istore_n 3, 1) := by decide +kernel
theorem dX7_move_57 : decode cX7_move 57 = .ok (.aload_n 0, 1) := by decide +kernel
theorem dX7_move_58 : decode cX7_move 58 = .ok (.iload_n 3, 1) := by decide +kernel
theorem dX7_move_59 : decode cX7_move 59 = .ok (.iconst (-1), 1) := by decide +kernel
theorem dX7_move_60 : decode cX7_move 60 = .ok (.if_icmp .ne 7, 3) := by decide +kernel
theorem dX7_move_63 : decode cX7_move 63 = .ok (.iconst 3, 1) := by decide +kernel
theorem dX7_move_64 : decode cX7_move 64 = .ok (.goto 4, 3) := by decide +kernel
theorem dX7_move_67 : decode cX7_move 67 = .ok (.iconst 0, 1) := by decide +kernel
theorem dX7_move_68 : decode cX7_move 68 = .ok (.invokevirtual 96, 3) := by decide +kernel
theorem dX7_move_71 : decode cX7_move 71 = .ok (.ifCond .ne 5, 3) := by decide +kernel
theorem dX7_move_74 : decode cX7_move 74 = .ok (.iconst 0, 1) := by decide +kernel
theorem dX7_move_75 : decode cX7_move 75 = .ok (.ireturn, 1) := by decide +kernel
theorem dX7_move_76 : decode cX7_move 76 = .ok (.aload_n 0, 1) := by decide +kernel
theorem dX7_move_77 : decode cX7_move 77 = .ok (.iload_n 1, 1) := by decide +kernel
theorem dX7_move_78 : decode cX7_move 78 = .ok (.iload_n 2, 1) := by decide +kernel
theorem dX7_move_79 : decode cX7_move 79 = .ok (.invokevirtual 130, 3) := by decide +kernel
theorem dX7_move_82 : decode cX7_move 82 = .ok (.aload_n 0, 1) := by decide +kernel
theorem dX7_move_83 : decode cX7_move 83 = .ok (.getfield 32, 3) := by decide +kernel
theorem dX7_move_86 : decode cX7_move 86 = .ok (.iload_n 2, 1) := by decide +kernel
theorem dX7_move_87 : decode cX7_move 87 = .ok (.aload_n 0, 1) := by decide +kernel
theorem dX7_move_88 : decode cX7_move 88 = .ok (.getfield 83, 3) := by decide +kernel
theorem dX7_move_91 : decode cX7_move 91 = .ok (.iastore, 1) := by decide +kernel
theorem dX7_move_92 : decode cX7_move 92 = .ok (.aload_n 0, 1) := by decide +kernel
theorem dX7_move_93 : decode cX7_move 93 = .ok (.getfield 32, 3) := by decide +kernel
theorem dX7_move_96 : decode cX7_move 96 = .ok (.iload_n 1, 1) := by decide +kernel
theorem dX7_move_97 : decode cX7_move 97 = .ok (.iconst (-1), 1) := by decide +kernel
theorem dX7_move_98 : decode cX7_move 98 = .ok (.iastore, 1) := by decide +kernel
theorem dX7_move_99 : decode cX7_move 99 = .ok (.aload_n 0, 1) := by decide +kernel
theorem dX7_move_100 : decode cX7_move 100 = .ok (.invokevirtual 134, 3) := by decide +kernel
theorem dX7_move_103 : decode cX7_move 103 = .ok (.aload_n 0, 1) := by decide +kernel
theorem dX7_move_104 : decode cX7_move 104 = .ok (.invokevirtual 137, 3) := by decide +kernel
theorem dX7_move_107 : decode cX7_move 107 = .ok (.iload_n 3, 1) := by decide +kernel
theorem dX7_move_108 : decode cX7_move 108 = .ok (.ireturn, 1) := by decide +kernel
theorem dX7_pass_0 : decode cX7_pass 0 = .ok (.aload_n 0, 1) := by decide +kernel
theorem dX7_pass_1 : decode cX7_pass 1 = .ok (.aload_n 0, 1) := by decide +kernel
theorem dX7_pass_2 : decode cX7_pass 2 = .ok (.getfield 83, 3) := by decide +kernel
theorem dX7_pass_5 : decode cX7_pass 5 = .ok (.iconst (-1), 1) := by decide +kernel
theorem dX7_pass_6 : decode cX7_pass 6 = .ok (.if_icmp .eq 20, 3) := by decide +kernel
theorem dX7_pass_9 : decode cX7_pass 9 = .ok (.aload_n 0, 1) := by decide +kernel
theorem dX7_pass_10 : decode cX7_pass 10 = .ok (.invokevirtual 140, 3) := by decide +kernel
theorem dX7_pass_13 : decode cX7_pass 13 = .ok (.ifCond .gt 13, 3) := by decide +kernel
theorem dX7_pass_16 : decode cX7_pass 16 = .ok (.aload_n 0, 1) := by decide +kernel
theorem dX7_pass_17 : decode cX7_pass 17 = .ok (.getfield 103, 3) := by decide +kernel
theorem dX7_pass_20 : decode cX7_pass 20 = .ok (.sipush 300, 3) := by decide +kernel
theorem dX7_pass_23 : decode cX7_pass 23 = .ok (.if_icmp .ne 7, 3) := by decide +kernel
theorem dX7_pass_26 : decode cX7_pass 26 = .ok (.iconst 1, 1) := by decide +kernel
theorem dX7_pass_27 : decode cX7_pass 27 = .ok (.goto 4, 3) := by decide +kernel
theorem dX7_pass_30 : decode cX7_pass 30 = .ok (.iconst 0, 1) := by decide +kernel
theorem dX7_pass_31 : decode cX7_pass 31 = .ok (.invokevirtual 96, 3) := by decide +kernel
theorem dX7_pass_34 : decode cX7_pass 34 = .ok (.ifCond .eq 13, 3) := by decide +kernel
theorem dX7_pass_37 : decode cX7_pass 37 = .ok (.aload_n 0, 1) := by decide +kernel
theorem dX7_pass_38 : decode cX7_pass 38 = .ok (.iconst (-1), 1) := by decide +kernel
theorem dX7_pass_39 : decode cX7_pass 39 = .ok (.iconst (-1), 1) := by decide +kernel
theorem dX7_pass_40 : decode cX7_pass 40 = .ok (.invokevirtual 130, 3) := by decide +kernel
theorem dX7_pass_43 : decode cX7_pass 43 = .ok (.aload_n 0, 1) := by decide +kernel
theorem dX7_pass_44 : decode cX7_pass 44 = .ok (.invokevirtual 137, 3) := by decide +kernel
theorem dX7_pass_47 : decode cX7_pass 47 = .ok (.return_, 1) := by decide +kernel
theorem dX7_undo_0 : decode cX7_undo 0 = .ok (.aload_n 0, 1) := by decide +kernel
theorem dX7_undo_1 : decode cX7_undo 1 = .ok (.aload_n 0, 1) := by decide +kernel
theorem dX7_undo_2 : decode cX7_undo 2 = .ok (.getfield 103, 3) := by decide +kernel
theorem dX7_undo_5 : decode cX7_undo 5 = .ok (.ifCond .ne 7, 3) := by decide +kernel
theorem dX7_undo_8 : decode cX7_undo 8 = .ok (.iconst 1, 1) := by decide +kernel
theorem dX7_undo_9 : decode cX7_undo 9 = .ok (.goto 4, 3) := by decide +kernel
theorem dX7_undo_12 : decode cX7_undo 12 = .ok (.iconst 0, 1) := by decide +kernel
theorem dX7_undo_13 : decode cX7_undo 13 = .ok (.invokevirtual 96, 3) := by decide +kernel
theorem dX7_undo_16 : decode cX7_undo 16 = .ok (.ifCond .ne 5, 3) := by decide +kernel
theorem dX7_undo_19 : decode cX7_undo 19 = .ok (.iconst 0, 1) := by decide +kernel
theorem dX7_undo_20 : decode cX7_undo 20 = .ok (.ireturn, 1) := by decide +kernel
theorem dX7_undo_21 : decode cX7_undo 21 = .ok (.aload_n 0, 1) := by decide +kernel
theorem dX7_undo_22 : decode cX7_undo 22 = .ok (.dup, 1) := by decide +kernel
theorem dX7_undo_23 : decode cX7_undo 23 = .ok (.getfield 103, 3) := by decide +kernel
theorem dX7_undo_26 : decode cX7_undo 26 = .ok (.iconst 1, 1) := by decide +kernel
theorem dX7_undo_27 : decode cX7_undo 27 = .ok (.isub, 1) := by decide +kernel
theorem dX7_undo_28 : decode cX7_undo 28 = .ok (.putfield 103, 3) := by decide +kernel
theorem dX7_undo_31 : decode cX7_undo 31 = .ok (.aload_n 0, 1) := by decide +kernel
theorem dX7_undo_32 : decode cX7_undo 32 = .ok (.aload_n 0, 1) := by decide +kernel
theorem dX7_undo_33 : decode cX7_undo 33 = .ok (.getfield 47, 3) := by decide +kernel
theorem dX7_undo_36 : decode cX7_undo 36 = .ok (.aload_n 0, 1) := by decide +kernel
theorem dX7_undo_37 : decode cX7_undo 37 = .ok (.getfield 103, 3) := by decide +kernel
theorem dX7_undo_40 : decode cX7_undo 40 = .ok (.iaload, 1) := by decide +kernel
theorem dX7_undo_41 : decode cX7_undo 41 = .ok (.putfield 83, 3) := by decide +kernel
theorem dX7_undo_44 : decode cX7_undo 44 = .ok (.aload_n 0, 1) := by decide +kernel
theorem dX7_undo_45 : decode cX7_undo 45 = .ok (.aload_n 0, 1) := by decide +kernel
theorem dX7_undo_46 : decode cX7_undo 46 = .ok (.getfield 50, 3) := by decide +kernel
theorem dX7_undo_49 : decode cX7_undo 49 = .ok (.aload_n 0, 1) := by decide +kernel
theorem dX7_undo_50 : decode cX7_undo 50 = .ok (.getfield 103, 3) := by decide +kernel
theorem dX7_undo_53 : decode cX7_undo 53 = .ok (.iaload, 1) := by decide +kernel
theorem dX7_undo_54 : decode cX7_undo 54 = .ok (.putfield 106, 3) := by decide +kernel
theorem dX7_undo_57 : decode cX7_undo 57 = .ok (.aload_n 0, 1) := by decide +kernel
theorem dX7_undo_58 : decode cX7_undo 58 = .ok (.aload_n 0, 1) := by decide +kernel
theorem dX7_undo_59 : decode cX7_undo 59 = .ok (.getfield 53, 3) := by decide +kernel
theorem dX7_undo_62 : decode cX7_undo 62 = .ok (.aload_n 0, 1) := by decide +kernel
theorem dX7_undo_63 : decode cX7_undo 63 = .ok (.getfield 103, 3) := by decide +kernel
theorem dX7_undo_66 : decode cX7_undo 66 = .ok (.iaload, 1) := by decide +kernel
theorem dX7_undo_67 : decode cX7_undo 67 = .ok (.putfield 109, 3) := by decide +kernel
theorem dX7_undo_70 : decode cX7_undo 70 = .ok (.aload_n 0, 1) := by decide +kernel
theorem dX7_undo_71 : decode cX7_undo 71 = .ok (.getfield 35, 3) := by decide +kernel
theorem dX7_undo_74 : decode cX7_undo 74 = .ok (.aload_n 0, 1) := by decide +kernel
theorem dX7_undo_75 : decode cX7_undo 75 = .ok (.getfield 83, 3) := by decide +kernel
theorem dX7_undo_78 : decode cX7_undo 78 = .ok (.dup2, 1) := by decide +kernel
theorem dX7_undo_79 : decode cX7_undo 79 = .ok (.iaload, 1) := by decide +kernel
theorem dX7_undo_80 : decode cX7_undo 80 = .ok (.iconst 1, 1) := by decide +kernel
theorem dX7_undo_81 : decode cX7_undo 81 = .ok (.isub, 1) := by decide +kernel
theorem dX7_undo_82 : decode cX7_undo 82 = .ok (.iastore, 1) := by decide +kernel
theorem dX7_undo_83 : decode cX7_undo 83 = .ok (.aload_n 0, 1) := by decide +kernel
theorem dX7_undo_84 : decode cX7_undo 84 = .ok (.getfield 41, 3) := by decide +kernel
theorem dX7_undo_87 : decode cX7_undo 87 = .ok (.aload_n 0, 1) := by decide +kernel
theorem dX7_undo_88 : decode cX7_undo 88 = .ok (.getfield 103, 3) := by decide +kernel
theorem dX7_undo_91 : decode cX7_undo 91 = .ok (.iaload, 1) := by decide +kernel
theorem dX7_undo_92 : decode cX7_undo 92 = .ok (.iconst (-1), 1) := by decide +kernel
theorem dX7_undo_93 : decode cX7_undo 93 = .ok (.if_icmp .eq 36, 3) := by decide +kernel
theorem dX7_undo_96 : decode cX7_undo 96 = .ok (.aload_n 0, 1) := by decide +kernel
theorem dX7_undo_97 : decode cX7_undo 97 = .ok (.getfield 32, 3) := by decide +kernel
theorem dX7_undo_100 : decode cX7_undo 100 = .ok (.aload_n 0, 1) := by decide +kernel
theorem dX7_undo_101 : decode cX7_undo 101 = .ok (.getfield 41, 3) := by decide +kernel
theorem dX7_undo_104 : decode cX7_undo 104 = .ok (.aload_n 0, 1) := by decide +kernel
theorem dX7_undo_105 : decode cX7_undo 105 = .ok (.getfield 103, 3) := by decide +kernel
theorem dX7_undo_108 : decode cX7_undo 108 = .ok (.iaload, 1) := by decide +kernel
theorem dX7_undo_109 : decode cX7_undo 109 = .ok (.aload_n 0, 1) := by decide +kernel
theorem dX7_undo_110 : decode cX7_undo 110 = .ok (.getfield 83, 3) := by decide +kernel
theorem dX7_undo_113 : decode cX7_undo 113 = .ok (.iastore, 1) := by decide +kernel
theorem dX7_undo_114 : decode cX7_undo 114 = .ok (.aload_n 0, 1) := by decide +kernel
theorem dX7_undo_115 : decode cX7_undo 115 = .ok (.getfield 32, 3) := by decide +kernel
theorem dX7_undo_118 : decode cX7_undo 118 = .ok (.aload_n 0, 1) := by decide +kernel
theorem dX7_undo_119 : decode cX7_undo 119 = .ok (.getfield 44, 3) := by decide +kernel
theorem dX7_undo_122 : decode cX7_undo 122 = .ok (.aload_n 0, 1) := by decide +kernel
theorem dX7_undo_123 : decode cX7_undo 123 = .ok (.getfield 103, 3) := by decide +kernel
theorem dX7_undo_126 : decode cX7_undo 126 = .ok (.iaload, 1) := by decide +kernel
theorem dX7_undo_127 : decode cX7_undo 127 = .ok (.iconst (-1), 1) := by decide +kernel
theorem dX7_undo_128 : decode cX7_undo 128 = .ok (.iastore, 1) := by decide +kernel
theorem dX7_undo_129 : decode cX7_undo 129 = .ok (.aload_n 0, 1) := by decide +kernel
theorem dX7_undo_130 : decode cX7_undo 130 = .ok (.getfield 103, 3) := by decide +kernel
theorem dX7_undo_133 : decode cX7_undo 133 = .ok (.ireturn, 1) := by decide +kernel
theorem dX7_at_0 : decode cX7_at 0 = .ok (.aload_n 0, 1) := by decide +kernel
theorem dX7_at_1 : decode cX7_at 1 = .ok (.iload_n 1, 1) := by decide +kernel
theorem dX7_at_2 : decode cX7_at 2 = .ok (.invokestatic 124, 3) := by decide +kernel
theorem dX7_at_5 : decode cX7_at 5 = .ok (.ifCond .eq 7, 3) := by decide +kernel
theorem dX7_at_8 : decode cX7_at 8 = .ok (.iconst 0, 1) := by decide +kernel
theorem dX7_at_9 : decode cX7_at 9 = .ok (.goto 4, 3) := by decide +kernel
theorem dX7_at_12 : decode cX7_at 12 = .ok (.iconst 1, 1) := by decide +kernel
theorem dX7_at_13 : decode cX7_at 13 = .ok (.invokevirtual 96, 3) := by decide +kernel
theorem dX7_at_16 : decode cX7_at 16 = .ok (.ifCond .eq 12, 3) := by decide +kernel
theorem dX7_at_19 : decode cX7_at 19 = .ok (.aload_n 0, 1) := by decide +kernel
theorem dX7_at_20 : decode cX7_at 20 = .ok (.getfield 32, 3) := by decide +kernel
theorem dX7_at_23 : decode cX7_at 23 = .ok (.iload_n 1, 1) := by decide +kernel
theorem dX7_at_24 : decode cX7_at 24 = .ok (.iaload, 1) := by decide +kernel
theorem dX7_at_25 : decode cX7_at 25 = .ok (.goto 4, 3) := by decide +kernel
theorem dX7_at_28 : decode cX7_at 28 = .ok (.iconst 0, 1) := by decide +kernel
theorem dX7_at_29 : decode cX7_at 29 = .ok (.ireturn, 1) := by decide +kernel
theorem dX7_cellAt_0 : decode cX7_cellAt 0 = .ok (.aload_n 0, 1) := by decide +kernel
theorem dX7_cellAt_1 : decode cX7_cellAt 1 = .ok (.iconst 0, 1) := by decide +kernel
theorem dX7_cellAt_2 : decode cX7_cellAt 2 = .ok (.putfield 86, 3) := by decide +kernel
theorem dX7_cellAt_5 : decode cX7_cellAt 5 = .ok (.aload_n 0, 1) := by decide +kernel
theorem dX7_cellAt_6 : decode cX7_cellAt 6 = .ok (.iload_n 1, 1) := by decide +kernel
theorem dX7_cellAt_7 : decode cX7_cellAt 7 = .ok (.iload_n 2, 1) := by decide +kernel
theorem dX7_cellAt_8 : decode cX7_cellAt 8 = .ok (.invokevirtual 76, 3) := by decide +kernel
theorem dX7_cellAt_11 : decode cX7_cellAt 11 = .ok (.ireturn, 1) := by decide +kernel
theorem dX7_campOf_0 : decode cX7_campOf 0 = .ok (.aload_n 0, 1) := by decide +kernel
theorem dX7_campOf_1 : decode cX7_campOf 1 = .ok (.iload_n 1, 1) := by decide +kernel
theorem dX7_campOf_2 : decode cX7_campOf 2 = .ok (.invokestatic 124, 3) := by decide +kernel
theorem dX7_campOf_5 : decode cX7_campOf 5 = .ok (.ifCond .eq 7, 3) := by decide +kernel
theorem dX7_campOf_8 : decode cX7_campOf 8 = .ok (.iconst 0, 1) := by decide +kernel
theorem dX7_campOf_9 : decode cX7_campOf 9 = .ok (.goto 4, 3) := by decide +kernel
theorem dX7_campOf_12 : decode cX7_campOf 12 = .ok (.iconst 1, 1) := by decide +kernel
theorem dX7_campOf_13 : decode cX7_campOf 13 = .ok (.invokevirtual 96, 3) := by decide +kernel
theorem dX7_campOf_16 : decode cX7_campOf 16 = .ok (.ifCond .eq 12, 3) := by decide +kernel
theorem dX7_campOf_19 : decode cX7_campOf 19 = .ok (.aload_n 0, 1) := by decide +kernel
theorem dX7_campOf_20 : decode cX7_campOf 20 = .ok (.getfield 16, 3) := by decide +kernel
theorem dX7_campOf_23 : decode cX7_campOf 23 = .ok (.iload_n 1, 1) := by decide +kernel
theorem dX7_campOf_24 : decode cX7_campOf 24 = .ok (.iaload, 1) := by decide +kernel
theorem dX7_campOf_25 : decode cX7_campOf 25 = .ok (.goto 4, 3) := by decide +kernel
theorem dX7_campOf_28 : decode cX7_campOf 28 = .ok (.iconst 0, 1) := by decide +kernel
theorem dX7_campOf_29 : decode cX7_campOf 29 = .ok (.ireturn, 1) := by decide +kernel
theorem dX7_areCells_0 : decode cX7_areCells 0 = .ok (.aload_n 0, 1) := by decide +kernel
theorem dX7_areCells_1 : decode cX7_areCells 1 = .ok (.iload_n 1, 1) := by decide +kernel
theorem dX7_areCells_2 : decode cX7_areCells 2 = .ok (.invokestatic 124, 3) := by decide +kernel
theorem dX7_areCells_5 : decode cX7_areCells 5 = .ok (.ifCond .eq 14, 3) := by decide +kernel
theorem dX7_areCells_8 : decode cX7_areCells 8 = .ok (.iload_n 2, 1) := by decide +kernel
theorem dX7_areCells_9 : decode cX7_areCells 9 = .ok (.invokestatic 124, 3) := by decide +kernel
theorem dX7_areCells_12 : decode cX7_areCells 12 = .ok (.ifCond .eq 7, 3) := by decide +kernel
theorem dX7_areCells_15 : decode cX7_areCells 15 = .ok (.iconst 0, 1) := by decide +kernel
theorem dX7_areCells_16 : decode cX7_areCells 16 = .ok (.goto 4, 3) := by decide +kernel
theorem dX7_areCells_19 : decode cX7_areCells 19 = .ok (.iconst 1, 1) := by decide +kernel
theorem dX7_areCells_20 : decode cX7_areCells 20 = .ok (.invokevirtual 96, 3) := by decide +kernel
theorem dX7_areCells_23 : decode cX7_areCells 23 = .ok (.ireturn, 1) := by decide +kernel
theorem dX7_distance_0 : decode cX7_distance 0 = .ok (.aload_n 0, 1) := by decide +kernel
theorem dX7_distance_1 : decode cX7_distance 1 = .ok (.iload_n 1, 1) := by decide +kernel
theorem dX7_distance_2 : decode cX7_distance 2 = .ok (.iload_n 2, 1) := by decide +kernel
theorem dX7_distance_3 : decode cX7_distance 3 = .ok (.invokevirtual 144, 3) := by decide +kernel
theorem dX7_distance_6 : decode cX7_distance 6 = .ok (.ifCond .eq 17, 3) := by decide +kernel
theorem dX7_distance_9 : decode cX7_distance 9 = .ok (.aload_n 0, 1) := by decide +kernel
theorem dX7_distance_10 : decode cX7_distance 10 = .ok (.getfield 22, 3) := by decide +kernel
theorem dX7_distance_13 : decode cX7_distance 13 = .ok (.bipush 121, 2) := by decide +kernel
theorem dX7_distance_15 : decode cX7_distance 15 = .ok (.iload_n 1, 1) := by decide +kernel
theorem dX7_distance_16 : decode cX7_distance 16 = .ok (.imul, 1) := by decide +kernel
theorem dX7_distance_17 : decode cX7_distance 17 = .ok (.iload_n 2, 1) := by decide +kernel
theorem dX7_distance_18 : decode cX7_distance 18 = .ok (.iadd, 1) := by decide +kernel
theorem dX7_distance_19 : decode cX7_distance 19 = .ok (.iaload, 1) := by decide +kernel
theorem dX7_distance_20 : decode cX7_distance 20 = .ok (.goto 4, 3) := by decide +kernel
theorem dX7_distance_23 : decode cX7_distance 23 = .ok (.iconst 0, 1) := by decide +kernel
theorem dX7_distance_24 : decode cX7_distance 24 = .ok (.ireturn, 1) := by decide +kernel
theorem dX7_behind_0 : decode cX7_behind 0 = .ok (.aload_n 0, 1) := by decide +kernel
theorem dX7_behind_1 : decode cX7_behind 1 = .ok (.getfield 19, 3) := by decide +kernel
theorem dX7_behind_4 : decode cX7_behind 4 = .ok (.bipush 6, 2) := by decide +kernel
theorem dX7_behind_6 : decode cX7_behind 6 = .ok (.iload_n 1, 1) := by decide +kernel
theorem dX7_behind_7 : decode cX7_behind 7 = .ok (.imul, 1) := by decide +kernel
theorem dX7_behind_8 : decode cX7_behind 8 = .ok (.iload_n 2, 1) := by decide +kernel
theorem dX7_behind_9 : decode cX7_behind 9 = .ok (.iadd, 1) := by decide +kernel
theorem dX7_behind_10 : decode cX7_behind 10 = .ok (.iaload, 1) := by decide +kernel
theorem dX7_behind_11 : decode cX7_behind 11 = .ok (.istore 4, 2) := by decide +kernel
theorem dX7_behind_13 : decode cX7_behind 13 = .ok (.iload 4, 2) := by decide +kernel
theorem dX7_behind_15 : decode cX7_behind 15 = .ok (.iconst (-1), 1) := by decide +kernel
theorem dX7_behind_16 : decode cX7_behind 16 = .ok (.if_icmp .ne 7, 3) := by decide +kernel
theorem dX7_behind_19 : decode cX7_behind 19 = .ok (.iconst (-1), 1) := by decide +kernel
theorem dX7_behind_20 : decode cX7_behind 20 = .ok (.goto 15, 3) := by decide +kernel
theorem dX7_behind_23 : decode cX7_behind 23 = .ok (.aload_n 0, 1) := by decide +kernel
theorem dX7_behind_24 : decode cX7_behind 24 = .ok (.getfield 19, 3) := by decide +kernel
theorem dX7_behind_27 : decode cX7_behind 27 = .ok (.bipush 6, 2) := by decide +kernel
theorem dX7_behind_29 : decode cX7_behind 29 = .ok (.iload 4, 2) := by decide +kernel
theorem dX7_behind_31 : decode cX7_behind 31 = .ok (.imul, 1) := by decide +kernel
theorem dX7_behind_32 : decode cX7_behind 32 = .ok (.iload_n 2, 1) := by decide +kernel
theorem dX7_behind_33 : decode cX7_behind 33 = .ok (.iadd, 1) := by decide +kernel
theorem dX7_behind_34 : decode cX7_behind 34 = .ok (.iaload, 1) := by decide +kernel
theorem dX7_behind_35 : decode cX7_behind 35 = .ok (.istore 5, 2) := by decide +kernel
theorem dX7_behind_37 : decode cX7_behind 37 = .ok (.iload 5, 2) := by decide +kernel
theorem dX7_behind_39 : decode cX7_behind 39 = .ok (.iconst (-1), 1) := by decide +kernel
theorem dX7_behind_40 : decode cX7_behind 40 = .ok (.if_icmp .eq 41, 3) := by decide +kernel
theorem dX7_behind_43 : decode cX7_behind 43 = .ok (.iload 4, 2) := by decide +kernel
theorem dX7_behind_45 : decode cX7_behind 45 = .ok (.iload_n 3, 1) := by decide +kernel
theorem dX7_behind_46 : decode cX7_behind 46 = .ok (.if_icmp .eq 35, 3) := by decide +kernel
theorem dX7_behind_49 : decode cX7_behind 49 = .ok (.aload_n 0, 1) := by decide +kernel
theorem dX7_behind_50 : decode cX7_behind 50 = .ok (.getfield 32, 3) := by decide +kernel
theorem dX7_behind_53 : decode cX7_behind 53 = .ok (.iload 4, 2) := by decide +kernel
theorem dX7_behind_55 : decode cX7_behind 55 = .ok (.iaload, 1) := by decide +kernel
theorem dX7_behind_56 : decode cX7_behind 56 = .ok (.iconst (-1), 1) := by decide +kernel
theorem dX7_behind_57 : decode cX7_behind 57 = .ok (.if_icmp .eq 24, 3) := by decide +kernel
theorem dX7_behind_60 : decode cX7_behind 60 = .ok (.iload 5, 2) := by decide +kernel
theorem dX7_behind_62 : decode cX7_behind 62 = .ok (.iload_n 3, 1) := by decide +kernel
theorem dX7_behind_63 : decode cX7_behind 63 = .ok (.if_icmp .eq 14, 3) := by decide +kernel
theorem dX7_behind_66 : decode cX7_behind 66 = .ok (.aload_n 0, 1) := by decide +kernel
theorem dX7_behind_67 : decode cX7_behind 67 = .ok (.getfield 32, 3) := by decide +kernel
theorem dX7_behind_70 : decode cX7_behind 70 = .ok (.iload 5, 2) := by decide +kernel
theorem dX7_behind_72 : decode cX7_behind 72 = .ok (.iaload, 1) := by decide +kernel
theorem dX7_behind_73 : decode cX7_behind 73 = .ok (.iconst (-1), 1) := by decide +kernel
theorem dX7_behind_74 : decode cX7_behind 74 = .ok (.if_icmp .ne 7, 3) := by decide +kernel
theorem dX7_behind_77 : decode cX7_behind 77 = .ok (.iconst 1, 1) := by decide +kernel
theorem dX7_behind_78 : decode cX7_behind 78 = .ok (.goto 4, 3) := by decide +kernel
theorem dX7_behind_81 : decode cX7_behind 81 = .ok (.iconst 0, 1) := by decide +kernel
theorem dX7_behind_82 : decode cX7_behind 82 = .ok (.istore 6, 2) := by decide +kernel
theorem dX7_behind_84 : decode cX7_behind 84 = .ok (.iload 6, 2) := by decide +kernel
theorem dX7_behind_86 : decode cX7_behind 86 = .ok (.ifCond .eq 8, 3) := by decide +kernel
theorem dX7_behind_89 : decode cX7_behind 89 = .ok (.iload 5, 2) := by decide +kernel
theorem dX7_behind_91 : decode cX7_behind 91 = .ok (.goto 4, 3) := by decide +kernel
theorem dX7_behind_94 : decode cX7_behind 94 = .ok (.iconst (-1), 1) := by decide +kernel
theorem dX7_behind_95 : decode cX7_behind 95 = .ok (.ireturn, 1) := by decide +kernel
theorem dX7_hopsFrom_0 : decode cX7_hopsFrom 0 = .ok (.iconst 0, 1) := by decide +kernel
theorem dX7_hopsFrom_1 : decode cX7_hopsFrom 1 = .ok (.istore_n 3, 1) := by decide +kernel
theorem dX7_hopsFrom_2 : decode cX7_hopsFrom 2 = .ok (.iload_n 3, 1) := by decide +kernel
theorem dX7_hopsFrom_3 : decode cX7_hopsFrom 3 = .ok (.bipush 121, 2) := by decide +kernel
theorem dX7_hopsFrom_5 : decode cX7_hopsFrom 5 = .ok (.if_icmp .ge 18, 3) := by decide +kernel
theorem dX7_hopsFrom_8 : decode cX7_hopsFrom 8 = .ok (.aload_n 0, 1) := by decide +kernel
theorem dX7_hopsFrom_9 : decode cX7_hopsFrom 9 = .ok (.getfield 56, 3) := by decide +kernel
theorem dX7_hopsFrom_12 : decode cX7_hopsFrom 12 = .ok (.iload_n 3, 1) := by decide +kernel
theorem dX7_hopsFrom_13 : decode cX7_hopsFrom 13 = .ok (.sipush 1000, 3) := by decide +kernel
theorem dX7_hopsFrom_16 : decode cX7_hopsFrom 16 = .ok (.iastore, 1) := by decide +kernel
theorem dX7_hopsFrom_17 : decode cX7_hopsFrom 17 = .ok (.iinc 3 1, 3) := by decide +kernel
theorem dX7_hopsFrom_20 : decode cX7_hopsFrom 20 = .ok (.goto (-18), 3) := by decide +kernel
theorem dX7_hopsFrom_23 : decode cX7_hopsFrom 23 = .ok (.aload_n 0, 1) := by decide +kernel
theorem dX7_hopsFrom_24 : decode cX7_hopsFrom 24 = .ok (.getfield 56, 3) := by decide +kernel
theorem dX7_hopsFrom_27 : decode cX7_hopsFrom 27 = .ok (.iload_n 1, 1) := by decide +kernel
theorem dX7_hopsFrom_28 : decode cX7_hopsFrom 28 = .ok (.iconst 0, 1) := by decide +kernel
theorem dX7_hopsFrom_29 : decode cX7_hopsFrom 29 = .ok (.iastore, 1) := by decide +kernel
theorem dX7_hopsFrom_30 : decode cX7_hopsFrom 30 = .ok (.aload_n 0, 1) := by decide +kernel
theorem dX7_hopsFrom_31 : decode cX7_hopsFrom 31 = .ok (.getfield 59, 3) := by decide +kernel
theorem dX7_hopsFrom_34 : decode cX7_hopsFrom 34 = .ok (.iconst 0, 1) := by decide +kernel
theorem dX7_hopsFrom_35 : decode cX7_hopsFrom 35 = .ok (.iload_n 1, 1) := by decide +kernel
theorem dX7_hopsFrom_36 : decode cX7_hopsFrom 36 = .ok (.iastore, 1) := by decide +kernel
theorem dX7_hopsFrom_37 : decode cX7_hopsFrom 37 = .ok (.iconst 1, 1) := by decide +kernel
theorem dX7_hopsFrom_38 : decode cX7_hopsFrom 38 = .ok (.istore_n 3, 1) := by decide +kernel
theorem dX7_hopsFrom_39 : decode cX7_hopsFrom 39 = .ok (.iconst 0, 1) := by decide +kernel
theorem dX7_hopsFrom_40 : decode cX7_hopsFrom 40 = .ok (.istore 4, 2) := by decide +kernel
theorem dX7_hopsFrom_42 : decode cX7_hopsFrom 42 = .ok (.iload 4, 2) := by decide +kernel
theorem dX7_hopsFrom_44 : decode cX7_hopsFrom 44 = .ok (.iload_n 3, 1) := by decide +kernel
theorem dX7_hopsFrom_45 : decode cX7_hopsFrom 45 = .ok (.if_icmp .ge 92, 3) := by decide +kernel
theorem dX7_hopsFrom_48 : decode cX7_hopsFrom 48 = .ok (.iconst 0, 1) := by decide +kernel
theorem dX7_hopsFrom_49 : decode cX7_hopsFrom 49 = .ok (.istore 5, 2) := by decide +kernel
theorem dX7_hopsFrom_51 : decode cX7_hopsFrom 51 = .ok (.iload 5, 2) := by decide +kernel
theorem dX7_hopsFrom_53 : decode cX7_hopsFrom 53 = .ok (.bipush 6, 2) := by decide +kernel
theorem dX7_hopsFrom_55 : decode cX7_hopsFrom 55 = .ok (.if_icmp .ge 76, 3) := by decide +kernel
theorem dX7_hopsFrom_58 : decode cX7_hopsFrom 58 = .ok (.aload_n 0, 1) := by decide +kernel
theorem dX7_hopsFrom_59 : decode cX7_hopsFrom 59 = .ok (.aload_n 0, 1) := by decide +kernel
theorem dX7_hopsFrom_60 : decode cX7_hopsFrom 60 = .ok (.getfield 59, 3) := by decide +kernel
theorem dX7_hopsFrom_63 : decode cX7_hopsFrom 63 = .ok (.iload 4, 2) := by decide +kernel
theorem dX7_hopsFrom_65 : decode cX7_hopsFrom 65 = .ok (.iaload, 1) := by decide +kernel
theorem dX7_hopsFrom_66 : decode cX7_hopsFrom 66 = .ok (.iload 5, 2) := by decide +kernel
theorem dX7_hopsFrom_68 : decode cX7_hopsFrom 68 = .ok (.iload_n 2, 1) := by decide +kernel
theorem dX7_hopsFrom_69 : decode cX7_hopsFrom 69 = .ok (.invokevirtual 148, 3) := by decide +kernel
theorem dX7_hopsFrom_72 : decode cX7_hopsFrom 72 = .ok (.istore 6, 2) := by decide +kernel
theorem dX7_hopsFrom_74 : decode cX7_hopsFrom 74 = .ok (.iload 6, 2) := by decide +kernel
theorem dX7_hopsFrom_76 : decode cX7_hopsFrom 76 = .ok (.iconst (-1), 1) := by decide +kernel
theorem dX7_hopsFrom_77 : decode cX7_hopsFrom 77 = .ok (.if_icmp .eq 48, 3) := by decide +kernel
theorem dX7_hopsFrom_80 : decode cX7_hopsFrom 80 = .ok (.aload_n 0, 1) := by decide +kernel
theorem dX7_hopsFrom_81 : decode cX7_hopsFrom 81 = .ok (.getfield 56, 3) := by decide +kernel
theorem dX7_hopsFrom_84 : decode cX7_hopsFrom 84 = .ok (.iload 6, 2) := by decide +kernel
theorem dX7_hopsFrom_86 : decode cX7_hopsFrom 86 = .ok (.iaload, 1) := by decide +kernel
theorem dX7_hopsFrom_87 : decode cX7_hopsFrom 87 = .ok (.sipush 1000, 3) := by decide +kernel
theorem dX7_hopsFrom_90 : decode cX7_hopsFrom 90 = .ok (.if_icmp .ne 35, 3) := by decide +kernel
theorem dX7_hopsFrom_93 : decode cX7_hopsFrom 93 = .ok (.aload_n 0, 1) := by decide +kernel
theorem dX7_hopsFrom_94 : decode cX7_hopsFrom 94 = .ok (.getfield 56, 3) := by decide +kernel
theorem dX7_hopsFrom_97 : decode cX7_hopsFrom 97 = .ok (.iload 6, 2) := by decide +kernel
theorem dX7_hopsFrom_99 : decode cX7_hopsFrom 99 = .ok (.aload_n 0, 1) := by decide +kernel
theorem dX7_hopsFrom_100 : decode cX7_hopsFrom 100 = .ok (.getfield 56, 3) := by decide +kernel
theorem dX7_hopsFrom_103 : decode cX7_hopsFrom 103 = .ok (.aload_n 0, 1) := by decide +kernel
theorem dX7_hopsFrom_104 : decode cX7_hopsFrom 104 = .ok (.getfield 59, 3) := by decide +kernel
theorem dX7_hopsFrom_107 : decode cX7_hopsFrom 107 = .ok (.iload 4, 2) := by decide +kernel
theorem dX7_hopsFrom_109 : decode cX7_hopsFrom 109 = .ok (.iaload, 1) := by decide +kernel
theorem dX7_hopsFrom_110 : decode cX7_hopsFrom 110 = .ok (.iaload, 1) := by decide +kernel
theorem dX7_hopsFrom_111 : decode cX7_hopsFrom 111 = .ok (.iconst 1, 1) := by decide +kernel
theorem dX7_hopsFrom_112 : decode cX7_hopsFrom 112 = .ok (.iadd, 1) := by decide +kernel
theorem dX7_hopsFrom_113 : decode cX7_hopsFrom 113 = .ok (.iastore, 1) := by decide +kernel
theorem dX7_hopsFrom_114 : decode cX7_hopsFrom 114 = .ok (.aload_n 0, 1) := by decide +kernel
theorem dX7_hopsFrom_115 : decode cX7_hopsFrom 115 = .ok (.getfield 59, 3) := by decide +kernel
theorem dX7_hopsFrom_118 : decode cX7_hopsFrom 118 = .ok (.iload_n 3, 1) := by decide +kernel
theorem dX7_hopsFrom_119 : decode cX7_hopsFrom 119 = .ok (.iload 6, 2) := by decide +kernel
theorem dX7_hopsFrom_121 : decode cX7_hopsFrom 121 = .ok (.iastore, 1) := by decide +kernel
theorem dX7_hopsFrom_122 : decode cX7_hopsFrom 122 = .ok (.iinc 3 1, 3) := by decide +kernel
theorem dX7_hopsFrom_125 : decode cX7_hopsFrom 125 = .ok (.iinc 5 1, 3) := by decide +kernel
theorem dX7_hopsFrom_128 : decode cX7_hopsFrom 128 = .ok (.goto (-77), 3) := by decide +kernel
theorem dX7_hopsFrom_131 : decode cX7_hopsFrom 131 = .ok (.iinc 4 1, 3) := by decide +kernel
theorem dX7_hopsFrom_134 : decode cX7_hopsFrom 134 = .ok (.goto (-92), 3) := by decide +kernel
theorem dX7_hopsFrom_137 : decode cX7_hopsFrom 137 = .ok (.return_, 1) := by decide +kernel
theorem dX7_isNext_0 : decode cX7_isNext 0 = .ok (.aload_n 0, 1) := by decide +kernel
theorem dX7_isNext_1 : decode cX7_isNext 1 = .ok (.getfield 22, 3) := by decide +kernel
theorem dX7_isNext_4 : decode cX7_isNext 4 = .ok (.bipush 121, 2) := by decide +kernel
theorem dX7_isNext_6 : decode cX7_isNext 6 = .ok (.iload_n 1, 1) := by decide +kernel
theorem dX7_isNext_7 : decode cX7_isNext 7 = .ok (.imul, 1) := by decide +kernel
theorem dX7_isNext_8 : decode cX7_isNext 8 = .ok (.iload_n 2, 1) := by decide +kernel
theorem dX7_isNext_9 : decode cX7_isNext 9 = .ok (.iadd, 1) := by decide +kernel
theorem dX7_isNext_10 : decode cX7_isNext 10 = .ok (.iaload, 1) := by decide +kernel
theorem dX7_isNext_11 : decode cX7_isNext 11 = .ok (.iconst 1, 1) := by decide +kernel
theorem dX7_isNext_12 : decode cX7_isNext 12 = .ok (.if_icmp .ne 7, 3) := by decide +kernel
theorem dX7_isNext_15 : decode cX7_isNext 15 = .ok (.iconst 1, 1) := by decide +kernel
theorem dX7_isNext_16 : decode cX7_isNext 16 = .ok (.goto 4, 3) := by decide +kernel
theorem dX7_isNext_19 : decode cX7_isNext 19 = .ok (.iconst 0, 1) := by decide +kernel
theorem dX7_isNext_20 : decode cX7_isNext 20 = .ok (.ireturn, 1) := by decide +kernel
theorem dX7_mayEnd_0 : decode cX7_mayEnd 0 = .ok (.aload_n 0, 1) := by decide +kernel
theorem dX7_mayEnd_1 : decode cX7_mayEnd 1 = .ok (.getfield 83, 3) := by decide +kernel
theorem dX7_mayEnd_4 : decode cX7_mayEnd 4 = .ok (.iconst 3, 1) := by decide +kernel
theorem dX7_mayEnd_5 : decode cX7_mayEnd 5 = .ok (.iadd, 1) := by decide +kernel
theorem dX7_mayEnd_6 : decode cX7_mayEnd 6 = .ok (.bipush 6, 2) := by decide +kernel
theorem dX7_mayEnd_8 : decode cX7_mayEnd 8 = .ok (.irem, 1) := by decide +kernel
theorem dX7_mayEnd_9 : decode cX7_mayEnd 9 = .ok (.istore_n 3, 1) := by decide +kernel
theorem dX7_mayEnd_10 : decode cX7_mayEnd 10 = .ok (.aload_n 0, 1) := by decide +kernel
theorem dX7_mayEnd_11 : decode cX7_mayEnd 11 = .ok (.getfield 16, 3) := by decide +kernel
theorem dX7_mayEnd_14 : decode cX7_mayEnd 14 = .ok (.iload_n 2, 1) := by decide +kernel
theorem dX7_mayEnd_15 : decode cX7_mayEnd 15 = .ok (.iaload, 1) := by decide +kernel
theorem dX7_mayEnd_16 : decode cX7_mayEnd 16 = .ok (.iconst (-1), 1) := by decide +kernel
theorem dX7_mayEnd_17 : decode cX7_mayEnd 17 = .ok (.if_icmp .eq 26, 3) := by decide +kernel
theorem dX7_mayEnd_20 : decode cX7_mayEnd 20 = .ok (.aload_n 0, 1) := by decide +kernel
theorem dX7_mayEnd_21 : decode cX7_mayEnd 21 = .ok (.getfield 16, 3) := by decide +kernel
theorem dX7_mayEnd_24 : decode cX7_mayEnd 24 = .ok (.iload_n 2, 1) := by decide +kernel
theorem dX7_mayEnd_25 : decode cX7_mayEnd 25 = .ok (.iaload, 1) := by decide +kernel
theorem dX7_mayEnd_26 : decode cX7_mayEnd 26 = .ok (.aload_n 0, 1) := by decide +kernel
theorem dX7_mayEnd_27 : decode cX7_mayEnd 27 = .ok (.getfield 83, 3) := by decide +kernel
theorem dX7_mayEnd_30 : decode cX7_mayEnd 30 = .ok (.if_icmp .eq 13, 3) := by decide +kernel
theorem dX7_mayEnd_33 : decode cX7_mayEnd 33 = .ok (.aload_n 0, 1) := by decide +kernel
theorem dX7_mayEnd_34 : decode cX7_mayEnd 34 = .ok (.getfield 16, 3) := by decide +kernel
theorem dX7_mayEnd_37 : decode cX7_mayEnd 37 = .ok (.iload_n 2, 1) := by decide +kernel
theorem dX7_mayEnd_38 : decode cX7_mayEnd 38 = .ok (.iaload, 1) := by decide +kernel
theorem dX7_mayEnd_39 : decode cX7_mayEnd 39 = .ok (.iload_n 3, 1) := by decide +kernel
theorem dX7_mayEnd_40 : decode cX7_mayEnd 40 = .ok (.if_icmp .ne 7, 3) := by decide +kernel
theorem dX7_mayEnd_43 : decode cX7_mayEnd 43 = .ok (.iconst 1, 1) := by decide +kernel
theorem dX7_mayEnd_44 : decode cX7_mayEnd 44 = .ok (.goto 4, 3) := by decide +kernel
theorem dX7_mayEnd_47 : decode cX7_mayEnd 47 = .ok (.iconst 0, 1) := by decide +kernel
theorem dX7_mayEnd_48 : decode cX7_mayEnd 48 = .ok (.istore 4, 2) := by decide +kernel
theorem dX7_mayEnd_50 : decode cX7_mayEnd 50 = .ok (.iload 4, 2) := by decide +kernel
theorem dX7_mayEnd_52 : decode cX7_mayEnd 52 = .ok (.ifCond .eq 27, 3) := by decide +kernel
theorem dX7_mayEnd_55 : decode cX7_mayEnd 55 = .ok (.aload_n 0, 1) := by decide +kernel
theorem dX7_mayEnd_56 : decode cX7_mayEnd 56 = .ok (.getfield 16, 3) := by decide +kernel
theorem dX7_mayEnd_59 : decode cX7_mayEnd 59 = .ok (.iload_n 1, 1) := by decide +kernel
theorem dX7_mayEnd_60 : decode cX7_mayEnd 60 = .ok (.iaload, 1) := by decide +kernel
theorem dX7_mayEnd_61 : decode cX7_mayEnd 61 = .ok (.iload_n 3, 1) := by decide +kernel
theorem dX7_mayEnd_62 : decode cX7_mayEnd 62 = .ok (.if_icmp .ne 13, 3) := by decide +kernel
theorem dX7_mayEnd_65 : decode cX7_mayEnd 65 = .ok (.aload_n 0, 1) := by decide +kernel
theorem dX7_mayEnd_66 : decode cX7_mayEnd 66 = .ok (.getfield 16, 3) := by decide +kernel
theorem dX7_mayEnd_69 : decode cX7_mayEnd 69 = .ok (.iload_n 2, 1) := by decide +kernel
theorem dX7_mayEnd_70 : decode cX7_mayEnd 70 = .ok (.iaload, 1) := by decide +kernel
theorem dX7_mayEnd_71 : decode cX7_mayEnd 71 = .ok (.iload_n 3, 1) := by decide +kernel
theorem dX7_mayEnd_72 : decode cX7_mayEnd 72 = .ok (.if_icmp .ne 7, 3) := by decide +kernel
theorem dX7_mayEnd_75 : decode cX7_mayEnd 75 = .ok (.iconst 1, 1) := by decide +kernel
theorem dX7_mayEnd_76 : decode cX7_mayEnd 76 = .ok (.goto 4, 3) := by decide +kernel
theorem dX7_mayEnd_79 : decode cX7_mayEnd 79 = .ok (.iconst 0, 1) := by decide +kernel
theorem dX7_mayEnd_80 : decode cX7_mayEnd 80 = .ok (.ireturn, 1) := by decide +kernel
theorem dX7_endsOf_0 : decode cX7_endsOf 0 = .ok (.iconst 0, 1) := by decide +kernel
theorem dX7_endsOf_1 : decode cX7_endsOf 1 = .ok (.istore_n 2, 1) := by decide +kernel
theorem dX7_endsOf_2 : decode cX7_endsOf 2 = .ok (.aload_n 0, 1) := by decide +kernel
theorem dX7_endsOf_3 : decode cX7_endsOf 3 = .ok (.getfield 83, 3) := by decide +kernel
theorem dX7_endsOf_6 : decode cX7_endsOf 6 = .ok (.iconst (-1), 1) := by decide +kernel
theorem dX7_endsOf_7 : decode cX7_endsOf 7 = .ok (.if_icmp .eq 20, 3) := by decide +kernel
theorem dX7_endsOf_10 : decode cX7_endsOf 10 = .ok (.aload_n 0, 1) := by decide +kernel
theorem dX7_endsOf_11 : decode cX7_endsOf 11 = .ok (.getfield 32, 3) := by decide +kernel
theorem dX7_endsOf_14 : decode cX7_endsOf 14 = .ok (.iload_n 1, 1) := by decide +kernel
theorem dX7_endsOf_15 : decode cX7_endsOf 15 = .ok (.iaload, 1) := by decide +kernel
theorem dX7_endsOf_16 : decode cX7_endsOf 16 = .ok (.aload_n 0, 1) := by decide +kernel
theorem dX7_endsOf_17 : decode cX7_endsOf 17 = .ok (.getfield 83, 3) := by decide +kernel
theorem dX7_endsOf_20 : decode cX7_endsOf 20 = .ok (.if_icmp .ne 7, 3) := by decide +kernel
theorem dX7_endsOf_23 : decode cX7_endsOf 23 = .ok (.iconst 1, 1) := by decide +kernel
theorem dX7_endsOf_24 : decode cX7_endsOf 24 = .ok (.goto 4, 3) := by decide +kernel
theorem dX7_endsOf_27 : decode cX7_endsOf 27 = .ok (.iconst 0, 1) := by decide +kernel
theorem dX7_endsOf_28 : decode cX7_endsOf 28 = .ok (.istore_n 3, 1) := by decide +kernel
theorem dX7_endsOf_29 : decode cX7_endsOf 29 = .ok (.aload_n 0, 1) := by decide +kernel
theorem dX7_endsOf_30 : decode cX7_endsOf 30 = .ok (.iload_n 1, 1) := by decide +kernel
theorem dX7_endsOf_31 : decode cX7_endsOf 31 = .ok (.iload_n 1, 1) := by decide +kernel
theorem dX7_endsOf_32 : decode cX7_endsOf 32 = .ok (.invokevirtual 152, 3) := by decide +kernel
theorem dX7_endsOf_35 : decode cX7_endsOf 35 = .ok (.iconst 0, 1) := by decide +kernel
theorem dX7_endsOf_36 : decode cX7_endsOf 36 = .ok (.istore 4, 2) := by decide +kernel
theorem dX7_endsOf_38 : decode cX7_endsOf 38 = .ok (.iload 4, 2) := by decide +kernel
theorem dX7_endsOf_40 : decode cX7_endsOf 40 = .ok (.bipush 121, 2) := by decide +kernel
theorem dX7_endsOf_42 : decode cX7_endsOf 42 = .ok (.if_icmp .ge 87, 3) := by decide +kernel
theorem dX7_endsOf_45 : decode cX7_endsOf 45 = .ok (.aload_n 0, 1) := by decide +kernel
theorem dX7_endsOf_46 : decode cX7_endsOf 46 = .ok (.getfield 62, 3) := by decide +kernel
theorem dX7_endsOf_49 : decode cX7_endsOf 49 = .ok (.iload 4, 2) := by decide +kernel
theorem dX7_endsOf_51 : decode cX7_endsOf 51 = .ok (.iload_n 3, 1) := by decide +kernel
theorem dX7_endsOf_52 : decode cX7_endsOf 52 = .ok (.ifCond .eq 51, 3) := by decide +kernel
theorem dX7_endsOf_55 : decode cX7_endsOf 55 = .ok (.aload_n 0, 1) := by decide +kernel
theorem dX7_endsOf_56 : decode cX7_endsOf 56 = .ok (.getfield 32, 3) := by decide +kernel
theorem dX7_endsOf_59 : decode cX7_endsOf 59 = .ok (.iload 4, 2) := by decide +kernel
theorem dX7_endsOf_61 : decode cX7_endsOf 61 = .ok (.iaload, 1) := by decide +kernel
theorem dX7_endsOf_62 : decode cX7_endsOf 62 = .ok (.iconst (-1), 1) := by decide +kernel
theorem dX7_endsOf_63 : decode cX7_endsOf 63 = .ok (.if_icmp .ne 40, 3) := by decide +kernel
theorem dX7_endsOf_66 : decode cX7_endsOf 66 = .ok (.aload_n 0, 1) := by decide +kernel
theorem dX7_endsOf_67 : decode cX7_endsOf 67 = .ok (.iload_n 1, 1) := by decide +kernel
theorem dX7_endsOf_68 : decode cX7_endsOf 68 = .ok (.iload 4, 2) := by decide +kernel
theorem dX7_endsOf_70 : decode cX7_endsOf 70 = .ok (.invokevirtual 155, 3) := by decide +kernel
theorem dX7_endsOf_73 : decode cX7_endsOf 73 = .ok (.ifCond .ne 16, 3) := by decide +kernel
theorem dX7_endsOf_76 : decode cX7_endsOf 76 = .ok (.aload_n 0, 1) := by decide +kernel
theorem dX7_endsOf_77 : decode cX7_endsOf 77 = .ok (.getfield 56, 3) := by decide +kernel
theorem dX7_endsOf_80 : decode cX7_endsOf 80 = .ok (.iload 4, 2) := by decide +kernel
theorem dX7_endsOf_82 : decode cX7_endsOf 82 = .ok (.iaload, 1) := by decide +kernel
theorem dX7_endsOf_83 : decode cX7_endsOf 83 = .ok (.sipush 1000, 3) := by decide +kernel
theorem dX7_endsOf_86 : decode cX7_endsOf 86 = .ok (.if_icmp .ge 17, 3) := by decide +kernel
theorem dX7_endsOf_89 : decode cX7_endsOf 89 = .ok (.aload_n 0, 1) := by decide +kernel
theorem dX7_endsOf_90 : decode cX7_endsOf 90 = .ok (.iload_n 1, 1) := by decide +kernel
theorem dX7_endsOf_91 : decode cX7_endsOf 91 = .ok (.iload 4, 2) := by decide +kernel
theorem dX7_endsOf_93 : decode cX7_endsOf 93 = .ok (.invokevirtual 158, 3) := by decide +kernel
theorem dX7_endsOf_96 : decode cX7_endsOf 96 = .ok (.ifCond .eq 7, 3) := by decide +kernel
theorem dX7_endsOf_99 : decode cX7_endsOf 99 = .ok (.iconst 1, 1) := by decide +kernel
theorem dX7_endsOf_100 : decode cX7_endsOf 100 = .ok (.goto 4, 3) := by decide +kernel
theorem dX7_endsOf_103 : decode cX7_endsOf 103 = .ok (.iconst 0, 1) := by decide +kernel
theorem dX7_endsOf_104 : decode cX7_endsOf 104 = .ok (.bastore, 1) := by decide +kernel
theorem dX7_endsOf_105 : decode cX7_endsOf 105 = .ok (.iload_n 2, 1) := by decide +kernel
theorem dX7_endsOf_106 : decode cX7_endsOf 106 = .ok (.aload_n 0, 1) := by decide +kernel
theorem dX7_endsOf_107 : decode cX7_endsOf 107 = .ok (.getfield 62, 3) := by decide +kernel
theorem dX7_endsOf_110 : decode cX7_endsOf 110 = .ok (.iload 4, 2) := by decide +kernel
theorem dX7_endsOf_112 : decode cX7_endsOf 112 = .ok (.baload, 1) := by decide +kernel
theorem dX7_endsOf_113 : decode cX7_endsOf 113 = .ok (.ifCond .eq 7, 3) := by decide +kernel
theorem dX7_endsOf_116 : decode cX7_endsOf 116 = .ok (.iconst 1, 1) := by decide +kernel
theorem dX7_endsOf_117 : decode cX7_endsOf 117 = .ok (.goto 4, 3) := by decide +kernel
theorem dX7_endsOf_120 : decode cX7_endsOf 120 = .ok (.iconst 0, 1) := by decide +kernel
theorem dX7_endsOf_121 : decode cX7_endsOf 121 = .ok (.iadd, 1) := by decide +kernel
theorem dX7_endsOf_122 : decode cX7_endsOf 122 = .ok (.istore_n 2, 1) := by decide +kernel
theorem dX7_endsOf_123 : decode cX7_endsOf 123 = .ok (.iinc 4 1, 3) := by decide +kernel
theorem dX7_endsOf_126 : decode cX7_endsOf 126 = .ok (.goto (-88), 3) := by decide +kernel
theorem dX7_endsOf_129 : decode cX7_endsOf 129 = .ok (.iload_n 2, 1) := by decide +kernel
theorem dX7_endsOf_130 : decode cX7_endsOf 130 = .ok (.ireturn, 1) := by decide +kernel
theorem dX7_hopsOf_0 : decode cX7_hopsOf 0 = .ok (.aload_n 0, 1) := by decide +kernel
theorem dX7_hopsOf_1 : decode cX7_hopsOf 1 = .ok (.iload_n 1, 1) := by decide +kernel
theorem dX7_hopsOf_2 : decode cX7_hopsOf 2 = .ok (.invokevirtual 161, 3) := by decide +kernel
theorem dX7_hopsOf_5 : decode cX7_hopsOf 5 = .ok (.pop, 1) := by decide +kernel
theorem dX7_hopsOf_6 : decode cX7_hopsOf 6 = .ok (.aload_n 0, 1) := by decide +kernel
theorem dX7_hopsOf_7 : decode cX7_hopsOf 7 = .ok (.getfield 62, 3) := by decide +kernel
theorem dX7_hopsOf_10 : decode cX7_hopsOf 10 = .ok (.iload_n 2, 1) := by decide +kernel
theorem dX7_hopsOf_11 : decode cX7_hopsOf 11 = .ok (.baload, 1) := by decide +kernel
theorem dX7_hopsOf_12 : decode cX7_hopsOf 12 = .ok (.ifCond .ne 7, 3) := by decide +kernel
theorem dX7_hopsOf_15 : decode cX7_hopsOf 15 = .ok (.iconst (-1), 1) := by decide +kernel
theorem dX7_hopsOf_16 : decode cX7_hopsOf 16 = .ok (.goto 22, 3) := by decide +kernel
theorem dX7_hopsOf_19 : decode cX7_hopsOf 19 = .ok (.aload_n 0, 1) := by decide +kernel
theorem dX7_hopsOf_20 : decode cX7_hopsOf 20 = .ok (.iload_n 1, 1) := by decide +kernel
theorem dX7_hopsOf_21 : decode cX7_hopsOf 21 = .ok (.iload_n 2, 1) := by decide +kernel
theorem dX7_hopsOf_22 : decode cX7_hopsOf 22 = .ok (.invokevirtual 155, 3) := by decide +kernel
theorem dX7_hopsOf_25 : decode cX7_hopsOf 25 = .ok (.ifCond .eq 7, 3) := by decide +kernel
theorem dX7_hopsOf_28 : decode cX7_hopsOf 28 = .ok (.iconst 0, 1) := by decide +kernel
theorem dX7_hopsOf_29 : decode cX7_hopsOf 29 = .ok (.goto 9, 3) := by decide +kernel
theorem dX7_hopsOf_32 : decode cX7_hopsOf 32 = .ok (.aload_n 0, 1) := by decide +kernel
theorem dX7_hopsOf_33 : decode cX7_hopsOf 33 = .ok (.getfield 56, 3) := by decide +kernel
theorem dX7_hopsOf_36 : decode cX7_hopsOf 36 = .ok (.iload_n 2, 1) := by decide +kernel
theorem dX7_hopsOf_37 : decode cX7_hopsOf 37 = .ok (.iaload, 1) := by decide +kernel
theorem dX7_hopsOf_38 : decode cX7_hopsOf 38 = .ok (.ireturn, 1) := by decide +kernel
theorem dX7_allMoves_0 : decode cX7_allMoves 0 = .ok (.iconst 0, 1) := by decide +kernel
theorem dX7_allMoves_1 : decode cX7_allMoves 1 = .ok (.istore_n 1, 1) := by decide +kernel
theorem dX7_allMoves_2 : decode cX7_allMoves 2 = .ok (.iconst 0, 1) := by decide +kernel
theorem dX7_allMoves_3 : decode cX7_allMoves 3 = .ok (.istore_n 2, 1) := by decide +kernel
theorem dX7_allMoves_4 : decode cX7_allMoves 4 = .ok (.iload_n 2, 1) := by decide +kernel
theorem dX7_allMoves_5 : decode cX7_allMoves 5 = .ok (.bipush 121, 2) := by decide +kernel
theorem dX7_allMoves_7 : decode cX7_allMoves 7 = .ok (.if_icmp .ge 17, 3) := by decide +kernel
theorem dX7_allMoves_10 : decode cX7_allMoves 10 = .ok (.iload_n 1, 1) := by decide +kernel
theorem dX7_allMoves_11 : decode cX7_allMoves 11 = .ok (.aload_n 0, 1) := by decide +kernel
theorem dX7_allMoves_12 : decode cX7_allMoves 12 = .ok (.iload_n 2, 1) := by decide +kernel
theorem dX7_allMoves_13 : decode cX7_allMoves 13 = .ok (.invokevirtual 161, 3) := by decide +kernel
theorem dX7_allMoves_16 : decode cX7_allMoves 16 = .ok (.iadd, 1) := by decide +kernel
theorem dX7_allMoves_17 : decode cX7_allMoves 17 = .ok (.istore_n 1, 1) := by decide +kernel
theorem dX7_allMoves_18 : decode cX7_allMoves 18 = .ok (.iinc 2 1, 3) := by decide +kernel
theorem dX7_allMoves_21 : decode cX7_allMoves 21 = .ok (.goto (-17), 3) := by decide +kernel
theorem dX7_allMoves_24 : decode cX7_allMoves 24 = .ok (.iload_n 1, 1) := by decide +kernel
theorem dX7_allMoves_25 : decode cX7_allMoves 25 = .ok (.ireturn, 1) := by decide +kernel
theorem dX7_turn_0 : decode cX7_turn 0 = .ok (.aload_n 0, 1) := by decide +kernel
theorem dX7_turn_1 : decode cX7_turn 1 = .ok (.iconst 0, 1) := by decide +kernel
theorem dX7_turn_2 : decode cX7_turn 2 = .ok (.putfield 86, 3) := by decide +kernel
theorem dX7_turn_5 : decode cX7_turn 5 = .ok (.aload_n 0, 1) := by decide +kernel
theorem dX7_turn_6 : decode cX7_turn 6 = .ok (.getfield 83, 3) := by decide +kernel
theorem dX7_turn_9 : decode cX7_turn 9 = .ok (.ireturn, 1) := by decide +kernel
theorem dX7_made_0 : decode cX7_made 0 = .ok (.aload_n 0, 1) := by decide +kernel
theorem dX7_made_1 : decode cX7_made 1 = .ok (.iconst 0, 1) := by decide +kernel
theorem dX7_made_2 : decode cX7_made 2 = .ok (.putfield 86, 3) := by decide +kernel
theorem dX7_made_5 : decode cX7_made 5 = .ok (.aload_n 0, 1) := by decide +kernel
theorem dX7_made_6 : decode cX7_made 6 = .ok (.getfield 103, 3) := by decide +kernel
theorem dX7_made_9 : decode cX7_made 9 = .ok (.ireturn, 1) := by decide +kernel
theorem dX7_ends_0 : decode cX7_ends 0 = .ok (.aload_n 0, 1) := by decide +kernel
theorem dX7_ends_1 : decode cX7_ends 1 = .ok (.iload_n 1, 1) := by decide +kernel
theorem dX7_ends_2 : decode cX7_ends 2 = .ok (.invokestatic 124, 3) := by decide +kernel
theorem dX7_ends_5 : decode cX7_ends 5 = .ok (.ifCond .eq 7, 3) := by decide +kernel
theorem dX7_ends_8 : decode cX7_ends 8 = .ok (.iconst 0, 1) := by decide +kernel
theorem dX7_ends_9 : decode cX7_ends 9 = .ok (.goto 4, 3) := by decide +kernel
theorem dX7_ends_12 : decode cX7_ends 12 = .ok (.iconst 1, 1) := by decide +kernel
theorem dX7_ends_13 : decode cX7_ends 13 = .ok (.invokevirtual 96, 3) := by decide +kernel
theorem dX7_ends_16 : decode cX7_ends 16 = .ok (.ifCond .eq 11, 3) := by decide +kernel
theorem dX7_ends_19 : decode cX7_ends 19 = .ok (.aload_n 0, 1) := by decide +kernel
theorem dX7_ends_20 : decode cX7_ends 20 = .ok (.iload_n 1, 1) := by decide +kernel
theorem dX7_ends_21 : decode cX7_ends 21 = .ok (.invokevirtual 161, 3) := by decide +kernel
theorem dX7_ends_24 : decode cX7_ends 24 = .ok (.goto 4, 3) := by decide +kernel
theorem dX7_ends_27 : decode cX7_ends 27 = .ok (.iconst 0, 1) := by decide +kernel
theorem dX7_ends_28 : decode cX7_ends 28 = .ok (.ireturn, 1) := by decide +kernel
theorem dX7_endAt_0 : decode cX7_endAt 0 = .ok (.iload_n 1, 1) := by decide +kernel
theorem dX7_endAt_1 : decode cX7_endAt 1 = .ok (.invokestatic 124, 3) := by decide +kernel
theorem dX7_endAt_4 : decode cX7_endAt 4 = .ok (.ifCond .eq 11, 3) := by decide +kernel
theorem dX7_endAt_7 : decode cX7_endAt 7 = .ok (.aload_n 0, 1) := by decide +kernel
theorem dX7_endAt_8 : decode cX7_endAt 8 = .ok (.iload_n 1, 1) := by decide +kernel
theorem dX7_endAt_9 : decode cX7_endAt 9 = .ok (.invokevirtual 161, 3) := by decide +kernel
theorem dX7_endAt_12 : decode cX7_endAt 12 = .ok (.goto 4, 3) := by decide +kernel
theorem dX7_endAt_15 : decode cX7_endAt 15 = .ok (.iconst 0, 1) := by decide +kernel
theorem dX7_endAt_16 : decode cX7_endAt 16 = .ok (.istore_n 3, 1) := by decide +kernel
theorem dX7_endAt_17 : decode cX7_endAt 17 = .ok (.aload_n 0, 1) := by decide +kernel
theorem dX7_endAt_18 : decode cX7_endAt 18 = .ok (.iload_n 2, 1) := by decide +kernel
theorem dX7_endAt_19 : decode cX7_endAt 19 = .ok (.iconst 0, 1) := by decide +kernel
theorem dX7_endAt_20 : decode cX7_endAt 20 = .ok (.iload_n 3, 1) := by decide +kernel
theorem dX7_endAt_21 : decode cX7_endAt 21 = .ok (.iconst 1, 1) := by decide +kernel
theorem dX7_endAt_22 : decode cX7_endAt 22 = .ok (.isub, 1) := by decide +kernel
theorem dX7_endAt_23 : decode cX7_endAt 23 = .ok (.invokestatic 89, 3) := by decide +kernel
theorem dX7_endAt_26 : decode cX7_endAt 26 = .ok (.ifCond .eq 7, 3) := by decide +kernel
theorem dX7_endAt_29 : decode cX7_endAt 29 = .ok (.iconst 0, 1) := by decide +kernel
theorem dX7_endAt_30 : decode cX7_endAt 30 = .ok (.goto 4, 3) := by decide +kernel
theorem dX7_endAt_33 : decode cX7_endAt 33 = .ok (.iconst 1, 1) := by decide +kernel
theorem dX7_endAt_34 : decode cX7_endAt 34 = .ok (.invokevirtual 96, 3) := by decide +kernel
theorem dX7_endAt_37 : decode cX7_endAt 37 = .ok (.ifCond .ne 5, 3) := by decide +kernel
theorem dX7_endAt_40 : decode cX7_endAt 40 = .ok (.iconst 0, 1) := by decide +kernel
theorem dX7_endAt_41 : decode cX7_endAt 41 = .ok (.ireturn, 1) := by decide +kernel
theorem dX7_endAt_42 : decode cX7_endAt 42 = .ok (.iload_n 2, 1) := by decide +kernel
theorem dX7_endAt_43 : decode cX7_endAt 43 = .ok (.istore 4, 2) := by decide +kernel
theorem dX7_endAt_45 : decode cX7_endAt 45 = .ok (.iconst (-1), 1) := by decide +kernel
theorem dX7_endAt_46 : decode cX7_endAt 46 = .ok (.istore 5, 2) := by decide +kernel
theorem dX7_endAt_48 : decode cX7_endAt 48 = .ok (.iconst 0, 1) := by decide +kernel
theorem dX7_endAt_49 : decode cX7_endAt 49 = .ok (.istore 6, 2) := by decide +kernel
theorem dX7_endAt_51 : decode cX7_endAt 51 = .ok (.iload 6, 2) := by decide +kernel
theorem dX7_endAt_53 : decode cX7_endAt 53 = .ok (.bipush 121, 2) := by decide +kernel
theorem dX7_endAt_55 : decode cX7_endAt 55 = .ok (.if_icmp .ge 58, 3) := by decide +kernel
theorem dX7_endAt_58 : decode cX7_endAt 58 = .ok (.iload 5, 2) := by decide +kernel
theorem dX7_endAt_60 : decode cX7_endAt 60 = .ok (.iconst (-1), 1) := by decide +kernel
theorem dX7_endAt_61 : decode cX7_endAt 61 = .ok (.if_icmp .ne 52, 3) := by decide +kernel
theorem dX7_endAt_64 : decode cX7_endAt 64 = .ok (.aload_n 0, 1) := by decide +kernel
theorem dX7_endAt_65 : decode cX7_endAt 65 = .ok (.getfield 62, 3) := by decide +kernel
theorem dX7_endAt_68 : decode cX7_endAt 68 = .ok (.iload 6, 2) := by decide +kernel
theorem dX7_endAt_70 : decode cX7_endAt 70 = .ok (.baload, 1) := by decide +kernel
theorem dX7_endAt_71 : decode cX7_endAt 71 = .ok (.ifCond .eq 13, 3) := by decide +kernel
theorem dX7_endAt_74 : decode cX7_endAt 74 = .ok (.iload 4, 2) := by decide +kernel
theorem dX7_endAt_76 : decode cX7_endAt 76 = .ok (.ifCond .ne 8, 3) := by decide +kernel
theorem dX7_endAt_79 : decode cX7_endAt 79 = .ok (.iload 6, 2) := by decide +kernel
theorem dX7_endAt_81 : decode cX7_endAt 81 = .ok (.goto 4, 3) := by decide +kernel
theorem dX7_endAt_84 : decode cX7_endAt 84 = .ok (.iconst (-1), 1) := by decide +kernel
theorem dX7_endAt_85 : decode cX7_endAt 85 = .ok (.istore 5, 2) := by decide +kernel
theorem dX7_endAt_87 : decode cX7_endAt 87 = .ok (.iload 4, 2) := by decide +kernel
theorem dX7_endAt_89 : decode cX7_endAt 89 = .ok (.aload_n 0, 1) := by decide +kernel
theorem dX7_endAt_90 : decode cX7_endAt 90 = .ok (.getfield 62, 3) := by decide +kernel
theorem dX7_endAt_93 : decode cX7_endAt 93 = .ok (.iload 6, 2) := by decide +kernel
theorem dX7_endAt_95 : decode cX7_endAt 95 = .ok (.baload, 1) := by decide +kernel
theorem dX7_endAt_96 : decode cX7_endAt 96 = .ok (.ifCond .eq 7, 3) := by decide +kernel
theorem dX7_endAt_99 : decode cX7_endAt 99 = .ok (.iconst 1, 1) := by decide +kernel
theorem dX7_endAt_100 : decode cX7_endAt 100 = .ok (.goto 4, 3) := by decide +kernel
theorem dX7_endAt_103 : decode cX7_endAt 103 = .ok (.iconst 0, 1) := by decide +kernel
theorem dX7_endAt_104 : decode cX7_endAt 104 = .ok (.isub, 1) := by decide +kernel
theorem dX7_endAt_105 : decode cX7_endAt 105 = .ok (.istore 4, 2) := by decide +kernel
theorem dX7_endAt_107 : decode cX7_endAt 107 = .ok (.iinc 6 1, 3) := by decide +kernel
theorem dX7_endAt_110 : decode cX7_endAt 110 = .ok (.goto (-59), 3) := by decide +kernel
theorem dX7_endAt_113 : decode cX7_endAt 113 = .ok (.iload 5, 2) := by decide +kernel
theorem dX7_endAt_115 : decode cX7_endAt 115 = .ok (.ireturn, 1) := by decide +kernel
theorem dX7_moves_0 : decode cX7_moves 0 = .ok (.aload_n 0, 1) := by decide +kernel
theorem dX7_moves_1 : decode cX7_moves 1 = .ok (.iconst 0, 1) := by decide +kernel
theorem dX7_moves_2 : decode cX7_moves 2 = .ok (.putfield 86, 3) := by decide +kernel
theorem dX7_moves_5 : decode cX7_moves 5 = .ok (.aload_n 0, 1) := by decide +kernel
theorem dX7_moves_6 : decode cX7_moves 6 = .ok (.invokevirtual 140, 3) := by decide +kernel
theorem dX7_moves_9 : decode cX7_moves 9 = .ok (.ireturn, 1) := by decide +kernel
theorem dX7_chainAt_0 : decode cX7_chainAt 0 = .ok (.aload_n 0, 1) := by decide +kernel
theorem dX7_chainAt_1 : decode cX7_chainAt 1 = .ok (.iload_n 1, 1) := by decide +kernel
theorem dX7_chainAt_2 : decode cX7_chainAt 2 = .ok (.invokestatic 124, 3) := by decide +kernel
theorem dX7_chainAt_5 : decode cX7_chainAt 5 = .ok (.ifCond .eq 14, 3) := by decide +kernel
theorem dX7_chainAt_8 : decode cX7_chainAt 8 = .ok (.iload_n 2, 1) := by decide +kernel
theorem dX7_chainAt_9 : decode cX7_chainAt 9 = .ok (.invokestatic 124, 3) := by decide +kernel
theorem dX7_chainAt_12 : decode cX7_chainAt 12 = .ok (.ifCond .eq 7, 3) := by decide +kernel
theorem dX7_chainAt_15 : decode cX7_chainAt 15 = .ok (.iload_n 3, 1) := by decide +kernel
theorem dX7_chainAt_16 : decode cX7_chainAt 16 = .ok (.ifCond .ge 7, 3) := by decide +kernel
theorem dX7_chainAt_19 : decode cX7_chainAt 19 = .ok (.iconst 1, 1) := by decide +kernel
theorem dX7_chainAt_20 : decode cX7_chainAt 20 = .ok (.goto 4, 3) := by decide +kernel
theorem dX7_chainAt_23 : decode cX7_chainAt 23 = .ok (.iconst 0, 1) := by decide +kernel
theorem dX7_chainAt_24 : decode cX7_chainAt 24 = .ok (.invokevirtual 96, 3) := by decide +kernel
theorem dX7_chainAt_27 : decode cX7_chainAt 27 = .ok (.ifCond .ne 5, 3) := by decide +kernel
theorem dX7_chainAt_30 : decode cX7_chainAt 30 = .ok (.iconst 0, 1) := by decide +kernel
theorem dX7_chainAt_31 : decode cX7_chainAt 31 = .ok (.ireturn, 1) := by decide +kernel
theorem dX7_chainAt_32 : decode cX7_chainAt 32 = .ok (.aload_n 0, 1) := by decide +kernel
theorem dX7_chainAt_33 : decode cX7_chainAt 33 = .ok (.iload_n 1, 1) := by decide +kernel
theorem dX7_chainAt_34 : decode cX7_chainAt 34 = .ok (.iload_n 2, 1) := by decide +kernel
theorem dX7_chainAt_35 : decode cX7_chainAt 35 = .ok (.invokevirtual 127, 3) := by decide +kernel
theorem dX7_chainAt_38 : decode cX7_chainAt 38 = .ok (.istore 4, 2) := by decide +kernel
theorem dX7_chainAt_40 : decode cX7_chainAt 40 = .ok (.iload 4, 2) := by decide +kernel
theorem dX7_chainAt_42 : decode cX7_chainAt 42 = .ok (.iconst (-1), 1) := by decide +kernel
theorem dX7_chainAt_43 : decode cX7_chainAt 43 = .ok (.if_icmp .eq 9, 3) := by decide +kernel
theorem dX7_chainAt_46 : decode cX7_chainAt 46 = .ok (.iload_n 3, 1) := by decide +kernel
theorem dX7_chainAt_47 : decode cX7_chainAt 47 = .ok (.iload 4, 2) := by decide +kernel
theorem dX7_chainAt_49 : decode cX7_chainAt 49 = .ok (.if_icmp .lt 5, 3) := by decide +kernel
theorem dX7_chainAt_52 : decode cX7_chainAt 52 = .ok (.iconst (-1), 1) := by decide +kernel
theorem dX7_chainAt_53 : decode cX7_chainAt 53 = .ok (.ireturn, 1) := by decide +kernel
theorem dX7_chainAt_54 : decode cX7_chainAt 54 = .ok (.aload_n 0, 1) := by decide +kernel
theorem dX7_chainAt_55 : decode cX7_chainAt 55 = .ok (.iload_n 2, 1) := by decide +kernel
theorem dX7_chainAt_56 : decode cX7_chainAt 56 = .ok (.iload_n 1, 1) := by decide +kernel
theorem dX7_chainAt_57 : decode cX7_chainAt 57 = .ok (.invokevirtual 152, 3) := by decide +kernel
theorem dX7_chainAt_60 : decode cX7_chainAt 60 = .ok (.iload_n 1, 1) := by decide +kernel
theorem dX7_chainAt_61 : decode cX7_chainAt 61 = .ok (.istore 5, 2) := by decide +kernel
theorem dX7_chainAt_63 : decode cX7_chainAt 63 = .ok (.iconst 0, 1) := by decide +kernel
theorem dX7_chainAt_64 : decode cX7_chainAt 64 = .ok (.istore 6, 2) := by decide +kernel
theorem dX7_chainAt_66 : decode cX7_chainAt 66 = .ok (.iload 6, 2) := by decide +kernel
theorem dX7_chainAt_68 : decode cX7_chainAt 68 = .ok (.iload_n 3, 1) := by decide +kernel
theorem dX7_chainAt_69 : decode cX7_chainAt 69 = .ok (.if_icmp .gt 88, 3) := by decide +kernel
theorem dX7_chainAt_72 : decode cX7_chainAt 72 = .ok (.iconst (-1), 1) := by decide +kernel
theorem dX7_chainAt_73 : decode cX7_chainAt 73 = .ok (.istore 7, 2) := by decide +kernel
theorem dX7_chainAt_75 : decode cX7_chainAt 75 = .ok (.iconst 0, 1) := by decide +kernel
theorem dX7_chainAt_76 : decode cX7_chainAt 76 = .ok (.istore 8, 2) := by decide +kernel
theorem dX7_chainAt_78 : decode cX7_chainAt 78 = .ok (.iload 8, 2) := by decide +kernel
theorem dX7_chainAt_80 : decode cX7_chainAt 80 = .ok (.bipush 6, 2) := by decide +kernel
theorem dX7_chainAt_82 : decode cX7_chainAt 82 = .ok (.if_icmp .ge 65, 3) := by decide +kernel
theorem dX7_chainAt_85 : decode cX7_chainAt 85 = .ok (.aload_n 0, 1) := by decide +kernel
theorem dX7_chainAt_86 : decode cX7_chainAt 86 = .ok (.iload 5, 2) := by decide +kernel
theorem dX7_chainAt_88 : decode cX7_chainAt 88 = .ok (.iload 8, 2) := by decide +kernel
theorem dX7_chainAt_90 : decode cX7_chainAt 90 = .ok (.iload_n 1, 1) := by decide +kernel
theorem dX7_chainAt_91 : decode cX7_chainAt 91 = .ok (.invokevirtual 148, 3) := by decide +kernel
theorem dX7_chainAt_94 : decode cX7_chainAt 94 = .ok (.istore 9, 2) := by decide +kernel
theorem dX7_chainAt_96 : decode cX7_chainAt 96 = .ok (.iload 9, 2) := by decide +kernel
theorem dX7_chainAt_98 : decode cX7_chainAt 98 = .ok (.iconst (-1), 1) := by decide +kernel
theorem dX7_chainAt_99 : decode cX7_chainAt 99 = .ok (.if_icmp .eq 38, 3) := by decide +kernel
theorem dX7_chainAt_102 : decode cX7_chainAt 102 = .ok (.aload_n 0, 1) := by decide +kernel
theorem dX7_chainAt_103 : decode cX7_chainAt 103 = .ok (.getfield 56, 3) := by decide +kernel
theorem dX7_chainAt_106 : decode cX7_chainAt 106 = .ok (.iload 9, 2) := by decide +kernel
theorem dX7_chainAt_108 : decode cX7_chainAt 108 = .ok (.iaload, 1) := by decide +kernel
theorem dX7_chainAt_109 : decode cX7_chainAt 109 = .ok (.iload 4, 2) := by decide +kernel
theorem dX7_chainAt_111 : decode cX7_chainAt 111 = .ok (.iconst 1, 1) := by decide +kernel
theorem dX7_chainAt_112 : decode cX7_chainAt 112 = .ok (.isub, 1) := by decide +kernel
theorem dX7_chainAt_113 : decode cX7_chainAt 113 = .ok (.iload 6, 2) := by decide +kernel
theorem dX7_chainAt_115 : decode cX7_chainAt 115 = .ok (.isub, 1) := by decide +kernel
theorem dX7_chainAt_116 : decode cX7_chainAt 116 = .ok (.if_icmp .ne 21, 3) := by decide +kernel
theorem dX7_chainAt_119 : decode cX7_chainAt 119 = .ok (.iload 7, 2) := by decide +kernel
theorem dX7_chainAt_121 : decode cX7_chainAt 121 = .ok (.iconst (-1), 1) := by decide +kernel
theorem dX7_chainAt_122 : decode cX7_chainAt 122 = .ok (.if_icmp .eq 10, 3) := by decide +kernel
theorem dX7_chainAt_125 : decode cX7_chainAt 125 = .ok (.iload 9, 2) := by decide +kernel
theorem dX7_chainAt_127 : decode cX7_chainAt 127 = .ok (.iload 7, 2) := by decide +kernel
theorem dX7_chainAt_129 : decode cX7_chainAt 129 = .ok (.if_icmp .ge 8, 3) := by decide +kernel
theorem dX7_chainAt_132 : decode cX7_chainAt 132 = .ok (.iload 9, 2) := by decide +kernel
theorem dX7_chainAt_134 : decode cX7_chainAt 134 = .ok (.goto 5, 3) := by decide +kernel
theorem dX7_chainAt_137 : decode cX7_chainAt 137 = .ok (.iload 7, 2) := by decide +kernel
theorem dX7_chainAt_139 : decode cX7_chainAt 139 = .ok (.istore 7, 2) := by decide +kernel
theorem dX7_chainAt_141 : decode cX7_chainAt 141 = .ok (.iinc 8 1, 3) := by decide +kernel
theorem dX7_chainAt_144 : decode cX7_chainAt 144 = .ok (.goto (-66), 3) := by decide +kernel
theorem dX7_chainAt_147 : decode cX7_chainAt 147 = .ok (.iload 7, 2) := by decide +kernel
theorem dX7_chainAt_149 : decode cX7_chainAt 149 = .ok (.istore 5, 2) := by decide +kernel
theorem dX7_chainAt_151 : decode cX7_chainAt 151 = .ok (.iinc 6 1, 3) := by decide +kernel
theorem dX7_chainAt_154 : decode cX7_chainAt 154 = .ok (.goto (-88), 3) := by decide +kernel
theorem dX7_chainAt_157 : decode cX7_chainAt 157 = .ok (.iload 5, 2) := by decide +kernel
theorem dX7_chainAt_159 : decode cX7_chainAt 159 = .ok (.ireturn, 1) := by decide +kernel
theorem dX7_hops_0 : decode cX7_hops 0 = .ok (.aload_n 0, 1) := by decide +kernel
theorem dX7_hops_1 : decode cX7_hops 1 = .ok (.iload_n 1, 1) := by decide +kernel
theorem dX7_hops_2 : decode cX7_hops 2 = .ok (.iload_n 2, 1) := by decide +kernel
theorem dX7_hops_3 : decode cX7_hops 3 = .ok (.invokevirtual 144, 3) := by decide +kernel
theorem dX7_hops_6 : decode cX7_hops 6 = .ok (.ifCond .eq 12, 3) := by decide +kernel
theorem dX7_hops_9 : decode cX7_hops 9 = .ok (.aload_n 0, 1) := by decide +kernel
theorem dX7_hops_10 : decode cX7_hops 10 = .ok (.iload_n 1, 1) := by decide +kernel
theorem dX7_hops_11 : decode cX7_hops 11 = .ok (.iload_n 2, 1) := by decide +kernel
theorem dX7_hops_12 : decode cX7_hops 12 = .ok (.invokevirtual 127, 3) := by decide +kernel
theorem dX7_hops_15 : decode cX7_hops 15 = .ok (.goto 4, 3) := by decide +kernel
theorem dX7_hops_18 : decode cX7_hops 18 = .ok (.iconst 0, 1) := by decide +kernel
theorem dX7_hops_19 : decode cX7_hops 19 = .ok (.ireturn, 1) := by decide +kernel
theorem dX7_finished_0 : decode cX7_finished 0 = .ok (.aload_n 0, 1) := by decide +kernel
theorem dX7_finished_1 : decode cX7_finished 1 = .ok (.iload_n 1, 1) := by decide +kernel
theorem dX7_finished_2 : decode cX7_finished 2 = .ok (.iconst 0, 1) := by decide +kernel
theorem dX7_finished_3 : decode cX7_finished 3 = .ok (.iconst 5, 1) := by decide +kernel
theorem dX7_finished_4 : decode cX7_finished 4 = .ok (.invokestatic 89, 3) := by decide +kernel
theorem dX7_finished_7 : decode cX7_finished 7 = .ok (.ifCond .eq 7, 3) := by decide +kernel
theorem dX7_finished_10 : decode cX7_finished 10 = .ok (.iconst 0, 1) := by decide +kernel
theorem dX7_finished_11 : decode cX7_finished 11 = .ok (.goto 4, 3) := by decide +kernel
theorem dX7_finished_14 : decode cX7_finished 14 = .ok (.iconst 1, 1) := by decide +kernel
theorem dX7_finished_15 : decode cX7_finished 15 = .ok (.invokevirtual 96, 3) := by decide +kernel
theorem dX7_finished_18 : decode cX7_finished 18 = .ok (.ifCond .eq 24, 3) := by decide +kernel
theorem dX7_finished_21 : decode cX7_finished 21 = .ok (.iload_n 1, 1) := by decide +kernel
theorem dX7_finished_22 : decode cX7_finished 22 = .ok (.aload_n 0, 1) := by decide +kernel
theorem dX7_finished_23 : decode cX7_finished 23 = .ok (.getfield 109, 3) := by decide +kernel
theorem dX7_finished_26 : decode cX7_finished 26 = .ok (.if_icmp .ge 12, 3) := by decide +kernel
theorem dX7_finished_29 : decode cX7_finished 29 = .ok (.aload_n 0, 1) := by decide +kernel
theorem dX7_finished_30 : decode cX7_finished 30 = .ok (.getfield 38, 3) := by decide +kernel
theorem dX7_finished_33 : decode cX7_finished 33 = .ok (.iload_n 1, 1) := by decide +kernel
theorem dX7_finished_34 : decode cX7_finished 34 = .ok (.iaload, 1) := by decide +kernel
theorem dX7_finished_35 : decode cX7_finished 35 = .ok (.goto 8, 3) := by decide +kernel
theorem dX7_finished_38 : decode cX7_finished 38 = .ok (.iconst (-1), 1) := by decide +kernel
theorem dX7_finished_39 : decode cX7_finished 39 = .ok (.goto 4, 3) := by decide +kernel
theorem dX7_finished_42 : decode cX7_finished 42 = .ok (.iconst 0, 1) := by decide +kernel
theorem dX7_finished_43 : decode cX7_finished 43 = .ok (.ireturn, 1) := by decide +kernel
theorem dX7_isOut_0 : decode cX7_isOut 0 = .ok (.aload_n 0, 1) := by decide +kernel
theorem dX7_isOut_1 : decode cX7_isOut 1 = .ok (.iload_n 1, 1) := by decide +kernel
theorem dX7_isOut_2 : decode cX7_isOut 2 = .ok (.iconst 0, 1) := by decide +kernel
theorem dX7_isOut_3 : decode cX7_isOut 3 = .ok (.iconst 5, 1) := by decide +kernel
theorem dX7_isOut_4 : decode cX7_isOut 4 = .ok (.invokestatic 89, 3) := by decide +kernel
theorem dX7_isOut_7 : decode cX7_isOut 7 = .ok (.ifCond .eq 7, 3) := by decide +kernel
theorem dX7_isOut_10 : decode cX7_isOut 10 = .ok (.iconst 0, 1) := by decide +kernel
theorem dX7_isOut_11 : decode cX7_isOut 11 = .ok (.goto 4, 3) := by decide +kernel
theorem dX7_isOut_14 : decode cX7_isOut 14 = .ok (.iconst 1, 1) := by decide +kernel
theorem dX7_isOut_15 : decode cX7_isOut 15 = .ok (.invokevirtual 96, 3) := by decide +kernel
theorem dX7_isOut_18 : decode cX7_isOut 18 = .ok (.ifCond .eq 19, 3) := by decide +kernel
theorem dX7_isOut_21 : decode cX7_isOut 21 = .ok (.aload_n 0, 1) := by decide +kernel
theorem dX7_isOut_22 : decode cX7_isOut 22 = .ok (.getfield 106, 3) := by decide +kernel
theorem dX7_isOut_25 : decode cX7_isOut 25 = .ok (.iload_n 1, 1) := by decide +kernel
theorem dX7_isOut_26 : decode cX7_isOut 26 = .ok (.ishr, 1) := by decide +kernel
theorem dX7_isOut_27 : decode cX7_isOut 27 = .ok (.iconst 1, 1) := by decide +kernel
theorem dX7_isOut_28 : decode cX7_isOut 28 = .ok (.iand, 1) := by decide +kernel
theorem dX7_isOut_29 : decode cX7_isOut 29 = .ok (.iconst 1, 1) := by decide +kernel
theorem dX7_isOut_30 : decode cX7_isOut 30 = .ok (.if_icmp .ne 7, 3) := by decide +kernel
theorem dX7_isOut_33 : decode cX7_isOut 33 = .ok (.iconst 1, 1) := by decide +kernel
theorem dX7_isOut_34 : decode cX7_isOut 34 = .ok (.goto 4, 3) := by decide +kernel
theorem dX7_isOut_37 : decode cX7_isOut 37 = .ok (.iconst 0, 1) := by decide +kernel
theorem dX7_isOut_38 : decode cX7_isOut 38 = .ok (.ireturn, 1) := by decide +kernel
theorem dX7_wayOf_0 : decode cX7_wayOf 0 = .ok (.iconst 0, 1) := by decide +kernel
theorem dX7_wayOf_1 : decode cX7_wayOf 1 = .ok (.istore_n 2, 1) := by decide +kernel
theorem dX7_wayOf_2 : decode cX7_wayOf 2 = .ok (.iconst 0, 1) := by decide +kernel
theorem dX7_wayOf_3 : decode cX7_wayOf 3 = .ok (.istore_n 3, 1) := by decide +kernel
theorem dX7_wayOf_4 : decode cX7_wayOf 4 = .ok (.iload_n 3, 1) := by decide +kernel
theorem dX7_wayOf_5 : decode cX7_wayOf 5 = .ok (.bipush 121, 2) := by decide +kernel
theorem dX7_wayOf_7 : decode cX7_wayOf 7 = .ok (.if_icmp .ge 29, 3) := by decide +kernel
theorem dX7_wayOf_10 : decode cX7_wayOf 10 = .ok (.aload_n 0, 1) := by decide +kernel
theorem dX7_wayOf_11 : decode cX7_wayOf 11 = .ok (.getfield 32, 3) := by decide +kernel
theorem dX7_wayOf_14 : decode cX7_wayOf 14 = .ok (.iload_n 3, 1) := by decide +kernel
theorem dX7_wayOf_15 : decode cX7_wayOf 15 = .ok (.iaload, 1) := by decide +kernel
theorem dX7_wayOf_16 : decode cX7_wayOf 16 = .ok (.iload_n 1, 1) := by decide +kernel
theorem dX7_wayOf_17 : decode cX7_wayOf 17 = .ok (.if_icmp .ne 13, 3) := by decide +kernel
theorem dX7_wayOf_20 : decode cX7_wayOf 20 = .ok (.aload_n 0, 1) := by decide +kernel
theorem dX7_wayOf_21 : decode cX7_wayOf 21 = .ok (.getfield 69, 3) := by decide +kernel
theorem dX7_wayOf_24 : decode cX7_wayOf 24 = .ok (.iload_n 2, 1) := by decide +kernel
theorem dX7_wayOf_25 : decode cX7_wayOf 25 = .ok (.iload_n 3, 1) := by decide +kernel
theorem dX7_wayOf_26 : decode cX7_wayOf 26 = .ok (.iastore, 1) := by decide +kernel
theorem dX7_wayOf_27 : decode cX7_wayOf 27 = .ok (.iinc 2 1, 3) := by decide +kernel
theorem dX7_wayOf_30 : decode cX7_wayOf 30 = .ok (.iinc 3 1, 3) := by decide +kernel
theorem dX7_wayOf_33 : decode cX7_wayOf 33 = .ok (.goto (-29), 3) := by decide +kernel
theorem dX7_wayOf_36 : decode cX7_wayOf 36 = .ok (.bipush 10, 2) := by decide +kernel
theorem dX7_wayOf_38 : decode cX7_wayOf 38 = .ok (.iload_n 1, 1) := by decide +kernel
theorem dX7_wayOf_39 : decode cX7_wayOf 39 = .ok (.iconst 3, 1) := by decide +kernel
theorem dX7_wayOf_40 : decode cX7_wayOf 40 = .ok (.iadd, 1) := by decide +kernel
theorem dX7_wayOf_41 : decode cX7_wayOf 41 = .ok (.bipush 6, 2) := by decide +kernel
theorem dX7_wayOf_43 : decode cX7_wayOf 43 = .ok (.irem, 1) := by decide +kernel
theorem dX7_wayOf_44 : decode cX7_wayOf 44 = .ok (.imul, 1) := by decide +kernel
theorem dX7_wayOf_45 : decode cX7_wayOf 45 = .ok (.istore_n 3, 1) := by decide +kernel
theorem dX7_wayOf_46 : decode cX7_wayOf 46 = .ok (.aload_n 0, 1) := by decide +kernel
theorem dX7_wayOf_47 : decode cX7_wayOf 47 = .ok (.getfield 66, 3) := by decide +kernel
theorem dX7_wayOf_50 : decode cX7_wayOf 50 = .ok (.iconst 0, 1) := by decide +kernel
theorem dX7_wayOf_51 : decode cX7_wayOf 51 = .ok (.iconst 0, 1) := by decide +kernel
theorem dX7_wayOf_52 : decode cX7_wayOf 52 = .ok (.iastore, 1) := by decide +kernel
theorem dX7_wayOf_53 : decode cX7_wayOf 53 = .ok (.iconst 1, 1) := by decide +kernel
theorem dX7_wayOf_54 : decode cX7_wayOf 54 = .ok (.istore 4, 2) := by decide +kernel
theorem dX7_wayOf_56 : decode cX7_wayOf 56 = .ok (.iload 4, 2) := by decide +kernel
theorem dX7_wayOf_58 : decode cX7_wayOf 58 = .ok (.sipush 1024, 3) := by decide +kernel
theorem dX7_wayOf_61 : decode cX7_wayOf 61 = .ok (.if_icmp .ge 152, 3) := by decide +kernel
theorem dX7_wayOf_64 : decode cX7_wayOf 64 = .ok (.iconst (-1), 1) := by decide +kernel
theorem dX7_wayOf_65 : decode cX7_wayOf 65 = .ok (.istore 5, 2) := by decide +kernel
theorem dX7_wayOf_67 : decode cX7_wayOf 67 = .ok (.iconst 0, 1) := by decide +kernel
theorem dX7_wayOf_68 : decode cX7_wayOf 68 = .ok (.istore 6, 2) := by decide +kernel
theorem dX7_wayOf_70 : decode cX7_wayOf 70 = .ok (.iload 6, 2) := by decide +kernel
theorem dX7_wayOf_72 : decode cX7_wayOf 72 = .ok (.bipush 10, 2) := by decide +kernel
theorem dX7_wayOf_74 : decode cX7_wayOf 74 = .ok (.if_icmp .ge 21, 3) := by decide +kernel
theorem dX7_wayOf_77 : decode cX7_wayOf 77 = .ok (.iload 5, 2) := by decide +kernel
theorem dX7_wayOf_79 : decode cX7_wayOf 79 = .ok (.iload 4, 2) := by decide +kernel
theorem dX7_wayOf_81 : decode cX7_wayOf 81 = .ok (.iload 6, 2) := by decide +kernel
theorem dX7_wayOf_83 : decode cX7_wayOf 83 = .ok (.ishr, 1) := by decide +kernel
theorem dX7_wayOf_84 : decode cX7_wayOf 84 = .ok (.iconst 1, 1) := by decide +kernel
theorem dX7_wayOf_85 : decode cX7_wayOf 85 = .ok (.iand, 1) := by decide +kernel
theorem dX7_wayOf_86 : decode cX7_wayOf 86 = .ok (.iadd, 1) := by decide +kernel
theorem dX7_wayOf_87 : decode cX7_wayOf 87 = .ok (.istore 5, 2) := by decide +kernel
theorem dX7_wayOf_89 : decode cX7_wayOf 89 = .ok (.iinc 6 1, 3) := by decide +kernel
theorem dX7_wayOf_92 : decode cX7_wayOf 92 = .ok (.goto (-22), 3) := by decide +kernel
theorem dX7_wayOf_95 : decode cX7_wayOf 95 = .ok (.aload_n 0, 1) := by decide +kernel
theorem dX7_wayOf_96 : decode cX7_wayOf 96 = .ok (.getfield 66, 3) := by decide +kernel
theorem dX7_wayOf_99 : decode cX7_wayOf 99 = .ok (.iload 4, 2) := by decide +kernel
theorem dX7_wayOf_101 : decode cX7_wayOf 101 = .ok (.ldc 165, 2) := by decide +kernel
theorem dX7_wayOf_103 : decode cX7_wayOf 103 = .ok (.iastore, 1) := by decide +kernel
theorem dX7_wayOf_104 : decode cX7_wayOf 104 = .ok (.iconst 0, 1) := by decide +kernel
theorem dX7_wayOf_105 : decode cX7_wayOf 105 = .ok (.istore 6, 2) := by decide +kernel
theorem dX7_wayOf_107 : decode cX7_wayOf 107 = .ok (.iload 6, 2) := by decide +kernel
theorem dX7_wayOf_109 : decode cX7_wayOf 109 = .ok (.bipush 10, 2) := by decide +kernel
theorem dX7_wayOf_111 : decode cX7_wayOf 111 = .ok (.if_icmp .ge 96, 3) := by decide +kernel
theorem dX7_wayOf_114 : decode cX7_wayOf 114 = .ok (.iload 4, 2) := by decide +kernel
theorem dX7_wayOf_116 : decode cX7_wayOf 116 = .ok (.iload 6, 2) := by decide +kernel
theorem dX7_wayOf_118 : decode cX7_wayOf 118 = .ok (.ishr, 1) := by decide +kernel
theorem dX7_wayOf_119 : decode cX7_wayOf 119 = .ok (.iconst 1, 1) := by decide +kernel
theorem dX7_wayOf_120 : decode cX7_wayOf 120 = .ok (.iand, 1) := by decide +kernel
theorem dX7_wayOf_121 : decode cX7_wayOf 121 = .ok (.iconst 1, 1) := by decide +kernel
theorem dX7_wayOf_122 : decode cX7_wayOf 122 = .ok (.if_icmp .ne 44, 3) := by decide +kernel
theorem dX7_wayOf_125 : decode cX7_wayOf 125 = .ok (.aload_n 0, 1) := by decide +kernel
theorem dX7_wayOf_126 : decode cX7_wayOf 126 = .ok (.getfield 66, 3) := by decide +kernel
theorem dX7_wayOf_129 : decode cX7_wayOf 129 = .ok (.iload 4, 2) := by decide +kernel
theorem dX7_wayOf_131 : decode cX7_wayOf 131 = .ok (.iconst 1, 1) := by decide +kernel
theorem dX7_wayOf_132 : decode cX7_wayOf 132 = .ok (.iload 6, 2) := by decide +kernel
theorem dX7_wayOf_134 : decode cX7_wayOf 134 = .ok (.ishl, 1) := by decide +kernel
theorem dX7_wayOf_135 : decode cX7_wayOf 135 = .ok (.ixor, 1) := by decide +kernel
theorem dX7_wayOf_136 : decode cX7_wayOf 136 = .ok (.iaload, 1) := by decide +kernel
theorem dX7_wayOf_137 : decode cX7_wayOf 137 = .ok (.aload_n 0, 1) := by decide +kernel
theorem dX7_wayOf_138 : decode cX7_wayOf 138 = .ok (.getfield 22, 3) := by decide +kernel
theorem dX7_wayOf_141 : decode cX7_wayOf 141 = .ok (.bipush 121, 2) := by decide +kernel
theorem dX7_wayOf_143 : decode cX7_wayOf 143 = .ok (.aload_n 0, 1) := by decide +kernel
theorem dX7_wayOf_144 : decode cX7_wayOf 144 = .ok (.getfield 69, 3) := by decide +kernel
theorem dX7_wayOf_147 : decode cX7_wayOf 147 = .ok (.iload 5, 2) := by decide +kernel
theorem dX7_wayOf_149 : decode cX7_wayOf 149 = .ok (.iaload, 1) := by decide +kernel
theorem dX7_wayOf_150 : decode cX7_wayOf 150 = .ok (.imul, 1) := by decide +kernel
theorem dX7_wayOf_151 : decode cX7_wayOf 151 = .ok (.aload_n 0, 1) := by decide +kernel
theorem dX7_wayOf_152 : decode cX7_wayOf 152 = .ok (.getfield 25, 3) := by decide +kernel
theorem dX7_wayOf_155 : decode cX7_wayOf 155 = .ok (.iload_n 3, 1) := by decide +kernel
theorem dX7_wayOf_156 : decode cX7_wayOf 156 = .ok (.iload 6, 2) := by decide +kernel
theorem dX7_wayOf_158 : decode cX7_wayOf 158 = .ok (.iadd, 1) := by decide +kernel
theorem dX7_wayOf_159 : decode cX7_wayOf 159 = .ok (.iaload, 1) := by decide +kernel
theorem dX7_wayOf_160 : decode cX7_wayOf 160 = .ok (.iadd, 1) := by decide +kernel
theorem dX7_wayOf_161 : decode cX7_wayOf 161 = .ok (.iaload, 1) := by decide +kernel
theorem dX7_wayOf_162 : decode cX7_wayOf 162 = .ok (.iadd, 1) := by decide +kernel
theorem dX7_wayOf_163 : decode cX7_wayOf 163 = .ok (.goto 5, 3) := by decide +kernel
theorem dX7_wayOf_166 : decode cX7_wayOf 166 = .ok (.ldc 165, 2) := by decide +kernel
theorem dX7_wayOf_168 : decode cX7_wayOf 168 = .ok (.istore 7, 2) := by decide +kernel
theorem dX7_wayOf_170 : decode cX7_wayOf 170 = .ok (.aload_n 0, 1) := by decide +kernel
theorem dX7_wayOf_171 : decode cX7_wayOf 171 = .ok (.getfield 66, 3) := by decide +kernel
theorem dX7_wayOf_174 : decode cX7_wayOf 174 = .ok (.iload 4, 2) := by decide +kernel
theorem dX7_wayOf_176 : decode cX7_wayOf 176 = .ok (.iload 7, 2) := by decide +kernel
theorem dX7_wayOf_178 : decode cX7_wayOf 178 = .ok (.aload_n 0, 1) := by decide +kernel
theorem dX7_wayOf_179 : decode cX7_wayOf 179 = .ok (.getfield 66, 3) := by decide +kernel
theorem dX7_wayOf_182 : decode cX7_wayOf 182 = .ok (.iload 4, 2) := by decide +kernel
theorem dX7_wayOf_184 : decode cX7_wayOf 184 = .ok (.iaload, 1) := by decide +kernel
theorem dX7_wayOf_185 : decode cX7_wayOf 185 = .ok (.if_icmp .ge 8, 3) := by decide +kernel
theorem dX7_wayOf_188 : decode cX7_wayOf 188 = .ok (.iload 7, 2) := by decide +kernel
theorem dX7_wayOf_190 : decode cX7_wayOf 190 = .ok (.goto 10, 3) := by decide +kernel
theorem dX7_wayOf_193 : decode cX7_wayOf 193 = .ok (.aload_n 0, 1) := by decide +kernel
theorem dX7_wayOf_194 : decode cX7_wayOf 194 = .ok (.getfield 66, 3) := by decide +kernel
theorem dX7_wayOf_197 : decode cX7_wayOf 197 = .ok (.iload 4, 2) := by decide +kernel
theorem dX7_wayOf_199 : decode cX7_wayOf 199 = .ok (.iaload, 1) := by decide +kernel
theorem dX7_wayOf_200 : decode cX7_wayOf 200 = .ok (.iastore, 1) := by decide +kernel
theorem dX7_wayOf_201 : decode cX7_wayOf 201 = .ok (.iinc 6 1, 3) := by decide +kernel
theorem dX7_wayOf_204 : decode cX7_wayOf 204 = .ok (.goto (-97), 3) := by decide +kernel
theorem dX7_wayOf_207 : decode cX7_wayOf 207 = .ok (.iinc 4 1, 3) := by decide +kernel
theorem dX7_wayOf_210 : decode cX7_wayOf 210 = .ok (.goto (-154), 3) := by decide +kernel
theorem dX7_wayOf_213 : decode cX7_wayOf 213 = .ok (.aload_n 0, 1) := by decide +kernel
theorem dX7_wayOf_214 : decode cX7_wayOf 214 = .ok (.getfield 66, 3) := by decide +kernel
theorem dX7_wayOf_217 : decode cX7_wayOf 217 = .ok (.sipush 1023, 3) := by decide +kernel
theorem dX7_wayOf_220 : decode cX7_wayOf 220 = .ok (.iaload, 1) := by decide +kernel
theorem dX7_wayOf_221 : decode cX7_wayOf 221 = .ok (.ireturn, 1) := by decide +kernel
theorem dX7_way_0 : decode cX7_way 0 = .ok (.aload_n 0, 1) := by decide +kernel
theorem dX7_way_1 : decode cX7_way 1 = .ok (.iload_n 1, 1) := by decide +kernel
theorem dX7_way_2 : decode cX7_way 2 = .ok (.iconst 0, 1) := by decide +kernel
theorem dX7_way_3 : decode cX7_way 3 = .ok (.iconst 5, 1) := by decide +kernel
theorem dX7_way_4 : decode cX7_way 4 = .ok (.invokestatic 89, 3) := by decide +kernel
theorem dX7_way_7 : decode cX7_way 7 = .ok (.ifCond .eq 7, 3) := by decide +kernel
theorem dX7_way_10 : decode cX7_way 10 = .ok (.iconst 0, 1) := by decide +kernel
theorem dX7_way_11 : decode cX7_way 11 = .ok (.goto 4, 3) := by decide +kernel
theorem dX7_way_14 : decode cX7_way 14 = .ok (.iconst 1, 1) := by decide +kernel
theorem dX7_way_15 : decode cX7_way 15 = .ok (.invokevirtual 96, 3) := by decide +kernel
theorem dX7_way_18 : decode cX7_way 18 = .ok (.ifCond .eq 23, 3) := by decide +kernel
theorem dX7_way_21 : decode cX7_way 21 = .ok (.aload_n 0, 1) := by decide +kernel
theorem dX7_way_22 : decode cX7_way 22 = .ok (.iload_n 1, 1) := by decide +kernel
theorem dX7_way_23 : decode cX7_way 23 = .ok (.invokevirtual 100, 3) := by decide +kernel
theorem dX7_way_26 : decode cX7_way 26 = .ok (.ifCond .eq 11, 3) := by decide +kernel
theorem dX7_way_29 : decode cX7_way 29 = .ok (.aload_n 0, 1) := by decide +kernel
theorem dX7_way_30 : decode cX7_way 30 = .ok (.iload_n 1, 1) := by decide +kernel
theorem dX7_way_31 : decode cX7_way 31 = .ok (.invokevirtual 166, 3) := by decide +kernel
theorem dX7_way_34 : decode cX7_way 34 = .ok (.goto 8, 3) := by decide +kernel
theorem dX7_way_37 : decode cX7_way 37 = .ok (.iconst (-1), 1) := by decide +kernel
theorem dX7_way_38 : decode cX7_way 38 = .ok (.goto 4, 3) := by decide +kernel
theorem dX7_way_41 : decode cX7_way 41 = .ok (.iconst 0, 1) := by decide +kernel
theorem dX7_way_42 : decode cX7_way 42 = .ok (.ireturn, 1) := by decide +kernel
theorem dX7_best_0 : decode cX7_best 0 = .ok (.iconst (-1), 1) := by decide +kernel
theorem dX7_best_1 : decode cX7_best 1 = .ok (.istore_n 1, 1) := by decide +kernel
theorem dX7_best_2 : decode cX7_best 2 = .ok (.ldc 165, 2) := by decide +kernel
theorem dX7_best_4 : decode cX7_best 4 = .ok (.istore_n 2, 1) := by decide +kernel
theorem dX7_best_5 : decode cX7_best 5 = .ok (.iconst 0, 1) := by decide +kernel
theorem dX7_best_6 : decode cX7_best 6 = .ok (.istore_n 3, 1) := by decide +kernel
theorem dX7_best_7 : decode cX7_best 7 = .ok (.iload_n 3, 1) := by decide +kernel
theorem dX7_best_8 : decode cX7_best 8 = .ok (.sipush 14641, 3) := by decide +kernel
theorem dX7_best_11 : decode cX7_best 11 = .ok (.if_icmp .ge 124, 3) := by decide +kernel
theorem dX7_best_14 : decode cX7_best 14 = .ok (.aload_n 0, 1) := by decide +kernel
theorem dX7_best_15 : decode cX7_best 15 = .ok (.getfield 83, 3) := by decide +kernel
theorem dX7_best_18 : decode cX7_best 18 = .ok (.iconst (-1), 1) := by decide +kernel
theorem dX7_best_19 : decode cX7_best 19 = .ok (.if_icmp .eq 116, 3) := by decide +kernel
theorem dX7_best_22 : decode cX7_best 22 = .ok (.iload_n 3, 1) := by decide +kernel
theorem dX7_best_23 : decode cX7_best 23 = .ok (.bipush 121, 2) := by decide +kernel
theorem dX7_best_25 : decode cX7_best 25 = .ok (.idiv, 1) := by decide +kernel
theorem dX7_best_26 : decode cX7_best 26 = .ok (.istore 4, 2) := by decide +kernel
theorem dX7_best_28 : decode cX7_best 28 = .ok (.iload_n 3, 1) := by decide +kernel
theorem dX7_best_29 : decode cX7_best 29 = .ok (.bipush 121, 2) := by decide +kernel
theorem dX7_best_31 : decode cX7_best 31 = .ok (.irem, 1) := by decide +kernel
theorem dX7_best_32 : decode cX7_best 32 = .ok (.istore 5, 2) := by decide +kernel
theorem dX7_best_34 : decode cX7_best 34 = .ok (.iload 5, 2) := by decide +kernel
theorem dX7_best_36 : decode cX7_best 36 = .ok (.ifCond .ne 10, 3) := by decide +kernel
theorem dX7_best_39 : decode cX7_best 39 = .ok (.aload_n 0, 1) := by decide +kernel
theorem dX7_best_40 : decode cX7_best 40 = .ok (.iload 4, 2) := by decide +kernel
theorem dX7_best_42 : decode cX7_best 42 = .ok (.invokevirtual 161, 3) := by decide +kernel
theorem dX7_best_45 : decode cX7_best 45 = .ok (.pop, 1) := by decide +kernel
theorem dX7_best_46 : decode cX7_best 46 = .ok (.aload_n 0, 1) := by decide +kernel
theorem dX7_best_47 : decode cX7_best 47 = .ok (.getfield 62, 3) := by decide +kernel
theorem dX7_best_50 : decode cX7_best 50 = .ok (.iload 5, 2) := by decide +kernel
theorem dX7_best_52 : decode cX7_best 52 = .ok (.baload, 1) := by decide +kernel
theorem dX7_best_53 : decode cX7_best 53 = .ok (.ifCond .eq 76, 3) := by decide +kernel
theorem dX7_best_56 : decode cX7_best 56 = .ok (.aload_n 0, 1) := by decide +kernel
theorem dX7_best_57 : decode cX7_best 57 = .ok (.getfield 32, 3) := by decide +kernel
theorem dX7_best_60 : decode cX7_best 60 = .ok (.iload 5, 2) := by decide +kernel
theorem dX7_best_62 : decode cX7_best 62 = .ok (.aload_n 0, 1) := by decide +kernel
theorem dX7_best_63 : decode cX7_best 63 = .ok (.getfield 83, 3) := by decide +kernel
theorem dX7_best_66 : decode cX7_best 66 = .ok (.iastore, 1) := by decide +kernel
theorem dX7_best_67 : decode cX7_best 67 = .ok (.aload_n 0, 1) := by decide +kernel
theorem dX7_best_68 : decode cX7_best 68 = .ok (.getfield 32, 3) := by decide +kernel
theorem dX7_best_71 : decode cX7_best 71 = .ok (.iload 4, 2) := by decide +kernel
theorem dX7_best_73 : decode cX7_best 73 = .ok (.iconst (-1), 1) := by decide +kernel
theorem dX7_best_74 : decode cX7_best 74 = .ok (.iastore, 1) := by decide +kernel
theorem dX7_best_75 : decode cX7_best 75 = .ok (.aload_n 0, 1) := by decide +kernel
theorem dX7_best_76 : decode cX7_best 76 = .ok (.aload_n 0, 1) := by decide +kernel
theorem dX7_best_77 : decode cX7_best 77 = .ok (.getfield 83, 3) := by decide +kernel
theorem dX7_best_80 : decode cX7_best 80 = .ok (.invokevirtual 166, 3) := by decide +kernel
theorem dX7_best_83 : decode cX7_best 83 = .ok (.istore 6, 2) := by decide +kernel
theorem dX7_best_85 : decode cX7_best 85 = .ok (.aload_n 0, 1) := by decide +kernel
theorem dX7_best_86 : decode cX7_best 86 = .ok (.getfield 32, 3) := by decide +kernel
theorem dX7_best_89 : decode cX7_best 89 = .ok (.iload 5, 2) := by decide +kernel
theorem dX7_best_91 : decode cX7_best 91 = .ok (.iconst (-1), 1) := by decide +kernel
theorem dX7_best_92 : decode cX7_best 92 = .ok (.iastore, 1) := by decide +kernel
theorem dX7_best_93 : decode cX7_best 93 = .ok (.aload_n 0, 1) := by decide +kernel
theorem dX7_best_94 : decode cX7_best 94 = .ok (.getfield 32, 3) := by decide +kernel
theorem dX7_best_97 : decode cX7_best 97 = .ok (.iload 4, 2) := by decide +kernel
theorem dX7_best_99 : decode cX7_best 99 = .ok (.aload_n 0, 1) := by decide +kernel
theorem dX7_best_100 : decode cX7_best 100 = .ok (.getfield 83, 3) := by decide +kernel
theorem dX7_best_103 : decode cX7_best 103 = .ok (.iastore, 1) := by decide +kernel
theorem dX7_best_104 : decode cX7_best 104 = .ok (.iload 6, 2) := by decide +kernel
theorem dX7_best_106 : decode cX7_best 106 = .ok (.iload_n 2, 1) := by decide +kernel
theorem dX7_best_107 : decode cX7_best 107 = .ok (.if_icmp .ge 7, 3) := by decide +kernel
theorem dX7_best_110 : decode cX7_best 110 = .ok (.iload_n 3, 1) := by decide +kernel
theorem dX7_best_111 : decode cX7_best 111 = .ok (.goto 4, 3) := by decide +kernel
theorem dX7_best_114 : decode cX7_best 114 = .ok (.iload_n 1, 1) := by decide +kernel
theorem dX7_best_115 : decode cX7_best 115 = .ok (.istore_n 1, 1) := by decide +kernel
theorem dX7_best_116 : decode cX7_best 116 = .ok (.iload 6, 2) := by decide +kernel
theorem dX7_best_118 : decode cX7_best 118 = .ok (.iload_n 2, 1) := by decide +kernel
theorem dX7_best_119 : decode cX7_best 119 = .ok (.if_icmp .ge 8, 3) := by decide +kernel
theorem dX7_best_122 : decode cX7_best 122 = .ok (.iload 6, 2) := by decide +kernel
theorem dX7_best_124 : decode cX7_best 124 = .ok (.goto 4, 3) := by decide +kernel
theorem dX7_best_127 : decode cX7_best 127 = .ok (.iload_n 2, 1) := by decide +kernel
theorem dX7_best_128 : decode cX7_best 128 = .ok (.istore_n 2, 1) := by decide +kernel
theorem dX7_best_129 : decode cX7_best 129 = .ok (.iinc 3 1, 3) := by decide +kernel
theorem dX7_best_132 : decode cX7_best 132 = .ok (.goto (-125), 3) := by decide +kernel
theorem dX7_best_135 : decode cX7_best 135 = .ok (.iload_n 1, 1) := by decide +kernel
theorem dX7_best_136 : decode cX7_best 136 = .ok (.ireturn, 1) := by decide +kernel
theorem dX7_bestFrom_0 : decode cX7_bestFrom 0 = .ok (.aload_n 0, 1) := by decide +kernel
theorem dX7_bestFrom_1 : decode cX7_bestFrom 1 = .ok (.iconst 0, 1) := by decide +kernel
theorem dX7_bestFrom_2 : decode cX7_bestFrom 2 = .ok (.putfield 86, 3) := by decide +kernel
theorem dX7_bestFrom_5 : decode cX7_bestFrom 5 = .ok (.aload_n 0, 1) := by decide +kernel
theorem dX7_bestFrom_6 : decode cX7_bestFrom 6 = .ok (.invokevirtual 169, 3) := by decide +kernel
theorem dX7_bestFrom_9 : decode cX7_bestFrom 9 = .ok (.istore_n 1, 1) := by decide +kernel
theorem dX7_bestFrom_10 : decode cX7_bestFrom 10 = .ok (.iload_n 1, 1) := by decide +kernel
theorem dX7_bestFrom_11 : decode cX7_bestFrom 11 = .ok (.iconst (-1), 1) := by decide +kernel
theorem dX7_bestFrom_12 : decode cX7_bestFrom 12 = .ok (.if_icmp .ne 7, 3) := by decide +kernel
theorem dX7_bestFrom_15 : decode cX7_bestFrom 15 = .ok (.iconst (-1), 1) := by decide +kernel
theorem dX7_bestFrom_16 : decode cX7_bestFrom 16 = .ok (.goto 7, 3) := by decide +kernel
theorem dX7_bestFrom_19 : decode cX7_bestFrom 19 = .ok (.iload_n 1, 1) := by decide +kernel
theorem dX7_bestFrom_20 : decode cX7_bestFrom 20 = .ok (.bipush 121, 2) := by decide +kernel
theorem dX7_bestFrom_22 : decode cX7_bestFrom 22 = .ok (.idiv, 1) := by decide +kernel
theorem dX7_bestFrom_23 : decode cX7_bestFrom 23 = .ok (.ireturn, 1) := by decide +kernel
theorem dX7_bestTo_0 : decode cX7_bestTo 0 = .ok (.aload_n 0, 1) := by decide +kernel
theorem dX7_bestTo_1 : decode cX7_bestTo 1 = .ok (.iconst 0, 1) := by decide +kernel
theorem dX7_bestTo_2 : decode cX7_bestTo 2 = .ok (.putfield 86, 3) := by decide +kernel
theorem dX7_bestTo_5 : decode cX7_bestTo 5 = .ok (.aload_n 0, 1) := by decide +kernel
theorem dX7_bestTo_6 : decode cX7_bestTo 6 = .ok (.invokevirtual 169, 3) := by decide +kernel
theorem dX7_bestTo_9 : decode cX7_bestTo 9 = .ok (.istore_n 1, 1) := by decide +kernel
theorem dX7_bestTo_10 : decode cX7_bestTo 10 = .ok (.iload_n 1, 1) := by decide +kernel
theorem dX7_bestTo_11 : decode cX7_bestTo 11 = .ok (.iconst (-1), 1) := by decide +kernel
theorem dX7_bestTo_12 : decode cX7_bestTo 12 = .ok (.if_icmp .ne 7, 3) := by decide +kernel
theorem dX7_bestTo_15 : decode cX7_bestTo 15 = .ok (.iconst (-1), 1) := by decide +kernel
theorem dX7_bestTo_16 : decode cX7_bestTo 16 = .ok (.goto 7, 3) := by decide +kernel
theorem dX7_bestTo_19 : decode cX7_bestTo 19 = .ok (.iload_n 1, 1) := by decide +kernel
theorem dX7_bestTo_20 : decode cX7_bestTo 20 = .ok (.bipush 121, 2) := by decide +kernel
theorem dX7_bestTo_22 : decode cX7_bestTo 22 = .ok (.irem, 1) := by decide +kernel
theorem dX7_bestTo_23 : decode cX7_bestTo 23 = .ok (.ireturn, 1) := by decide +kernel
end
section
/-! WHAT IS GIVEN AT EVERY ENTRY, and calls in one row -/
/-- the links to private members of nest mates -/
def NW (U : State) : Prop := va_Nw (.methodLinkNest RX5 43 yX6_isCell RX6) U ∧ va_Nw (.methodLinkNest RX1 29 yX6_isCell RX6) U ∧ va_Nw (.methodLinkNest RX3 53 yX6_isCell RX6) U ∧ va_Nw (.methodLinkNest RX3 63 yX6_goalOf RX6) U ∧ va_Nw (.methodLinkNest RX2 68 yX6_goalOf RX6) U ∧ va_Nw (.methodLinkNest RX4 39 yX6_isCamp RX6) U ∧ va_Nw (.methodLinkNest RX4 58 yX6_goalOf RX6) U ∧ va_Nw (.methodLinkNest RX6 52 yX0_init RX6) U
theorem NW_warm {s U : State} (hW : s.WarmedH U.vm) (h : NW s) : NW U := ⟨va_Nw.warmM hW h.1, va_Nw.warmM hW h.2.1, va_Nw.warmM hW h.2.2.1, va_Nw.warmM hW h.2.2.2.1, va_Nw.warmM hW h.2.2.2.2.1, va_Nw.warmM hW h.2.2.2.2.2.1, va_Nw.warmM hW h.2.2.2.2.2.2.1, va_Nw.warmM hW h.2.2.2.2.2.2.2⟩
theorem NW_vm {u U : State} (e : u.vm = U.vm) (h : NW u) : NW U := ⟨va_Nw.same rfl e h.1, va_Nw.same rfl e h.2.1, va_Nw.same rfl e h.2.2.1, va_Nw.same rfl e h.2.2.2.1, va_Nw.same rfl e h.2.2.2.2.1, va_Nw.same rfl e h.2.2.2.2.2.1, va_Nw.same rfl e h.2.2.2.2.2.2.1, va_Nw.same rfl e h.2.2.2.2.2.2.2⟩
def PX (D : va_G) (ws : va_W) (ty : List (ClassId × FieldType)) (sz : Nat) (U : State) : Prop := U.heap.size = sz ∧ va_P D vwCl ws U.heap ∧ va_K D vwCl ty U ∧ va_D (fun _ => True) ws ∧ NW U
theorem PX_blind {av : List Value} {D : va_G} {ws : va_W} {ty : List (ClassId × FieldType)} {sz : Nat} : FrameBlind (va_Pc av (PX D ws ty sz)) := fun a U g mk q => ⟨q.1, q.2.1, q.2.2.1, va_K.moved (u := U) (U := U.calling g mk a) (Vm.Alike.refl U.vm) q.2.2.2.1, q.2.2.2.2.1, NW_vm (u := U) (U := U.calling g mk a) rfl q.2.2.2.2.2⟩
theorem PX_at {A : Nat → Prop} {D : va_G} {ws wc : va_W} {ty tc : List (ClassId × FieldType)} {s : State} {H : Heap} {As : List Value} (hN : NW s) (hK : va_K D vwCl ty s) (hP : va_P D vwCl ws H) (hD : va_D A ws) (isC isT : List Nat) (hC : isC.map (fun i => ws[i]?) = wc.map some) (hn : va_nd isC = true) (hT : isT.filterMap (fun i => ty[i]?) = tc) :
    ∀ U : State, U.heap = H → s.WarmedH U.vm → va_Pc As (PX D wc tc H.size) As.toArray U := by
  intro U hU hW
  refine ⟨rfl, by rw [hU], ?_, va_K.moved hW.alike (hK.sub isT hT), (hD.sub isC hn hC).weaken (fun _ _ _ _ => trivial), NW_warm hW hN⟩
  rw [hU]
  refine hP.sub isC ?_
  have : isC.filterMap (fun i => ws[i]?) = (isC.map (fun i => ws[i]?)).filterMap id := by
    rw [List.filterMap_map]; rfl
  rw [this, hC, List.filterMap_map]
  show List.filterMap some wc = wc
  exact List.filterMap_some ..
section PXC
variable {p : Program} {l : Launch} {e : Env} {R : Room} {s : State} {m : MethodId} {args : Array Value} {below : List Frame} {meth : Method} {c : Code} {H : Heap} {locs : List Loc} {cells slots : Nat} {Q : State → Prop}
variable {y : MethodName} {bytes cc : ByteArray} {maxL nL mc ms n index : Nat} {ret : Option FieldType} {wsY : List Cond} {rm : Room} {Ts : List Cond} {own C host : String} {b : Addr} {As rest st0 : List Value} {pc : Nat} {ls : Array Slot}
variable {A : Nat → Prop} {D : va_G} {ws wc wr : va_W} {ty tc : List (ClassId × FieldType)} {fs : List Value} {ci : Nat} {cq : u_T × Nat}
/-- what a call site says of the worlds -/
def pxS (A : Nat → Prop) (ws wc wr : va_W) (ty tc : List (ClassId × FieldType)) (isC isR isT : List Nat) : Prop := isC.map (fun i => ws[i]?) = wc.map some ∧ va_nd isC = true ∧ isT.filterMap (fun i => ty[i]?) = tc ∧ isR.map (fun i => ws[i]?) = wr.map some ∧ va_nd isR = true ∧ ∀ i ∈ isR, i ∉ isC
/-- an instance call that only reads, int -/
theorem pcV {post : Int32 → Prop} (S : CallFix p m c cc nL s args Ts own) (hM : Met l y wsY rm (va_Pc (.ref b :: As) (PX D wc tc H.size)) (vp_Si post) 0 0 (fun _ => False)) (cw : CallW R s args own C index y bytes maxL ret wsY rm 0 0 n) (hN : NW s) (hK : va_K D vwCl ty s) (hP : va_P D vwCl ws H) (hD : va_D A ws)
    (isC isT : List Nat) (hC : isC.map (fun i => ws[i]?) = wc.map some) (hnd : va_nd isC = true) (hT : isT.filterMap (fun i => ty[i]?) = tc) (q0 : Nat) (hc : vwCl[ci]? = some (C, cq)) (he : ws[q0]? = some (b, .inr (ci, fs))) (hst : st0 = As.reverse ++ .ref b :: rest) (hn : As.length = n) (hl : ls.size = nL) (hroom : (rest.map fun v => v.category).sum ≤ 8) (hcs : cells ≤ R.cells ∧ slots ≤ R.slots) (hdg : decode cc pc = .ok (.invokevirtual index, 3))
    (kk : ∀ r : Int32, post r → W p l e R s m args below meth c H locs cells slots Q (F0 m (pc + 3) ls (.int r :: rest))) : W p l e R s m args below meth c H locs cells slots Q (F0 m pc ls st0) := by
  subst hst
  exact vp_callSi (va_runV (As := As) (rest := rest) S hM cw ⟨PX_blind, va_recv hK hP hc he, PX_at hN hK hP hD isC isT hC hnd hT⟩ rfl hn hl rfl (lv_room (pc := pc) (ls := ls) (rest := As.reverse ++ .ref b :: rest) hroom) hdg hcs).run kk
/-- a static call that only reads, int -/
theorem pcS {post : Int32 → Prop} (S : CallFix p m c cc nL s args Ts own) (hM : Met l y wsY rm (va_Pc As (PX D wc tc H.size)) (vp_Si post) 0 0 (fun _ => False)) (cw : CallB R s args own index y bytes maxL ret wsY rm 0 0 n ∧ (Cond.static y).before args s = true) (hN : NW s) (hK : va_K D vwCl ty s) (hP : va_P D vwCl ws H) (hD : va_D A ws)
    (isC isT : List Nat) (hC : isC.map (fun i => ws[i]?) = wc.map some) (hnd : va_nd isC = true) (hT : isT.filterMap (fun i => ty[i]?) = tc) (hst : st0 = As.reverse ++ rest) (hn : As.length = n) (hl : ls.size = nL) (hroom : (rest.map fun v => v.category).sum ≤ 8) (hcs : cells ≤ R.cells ∧ slots ≤ R.slots) (hdg : decode cc pc = .ok (.invokestatic index, 3))
    (kk : ∀ r : Int32, post r → W p l e R s m args below meth c H locs cells slots Q (F0 m (pc + 3) ls (.int r :: rest))) : W p l e R s m args below meth c H locs cells slots Q (F0 m pc ls st0) := by
  subst hst
  exact vp_callSi (va_runS (As := As) (rest := rest) S hM cw ⟨PX_blind, PX_at hN hK hP hD isC isT hC hnd hT⟩ rfl hn hl rfl (lv_room (pc := pc) (ls := ls) (rest := As.reverse ++ rest) hroom) hdg hcs).run kk
/-- a static call of a nest mate's private method, that only reads, int -/
theorem pcSN {post : Int32 → Prop} (S : CallFix p m c cc nL s args Ts own) (hM : Met l y wsY rm (va_Pc As (PX D wc tc H.size)) (vp_Si post) 0 0 (fun _ => False)) (cw : va_CN R s args own index y host bytes maxL ret wsY rm 0 0 n ∧ (Cond.static y).before args s = true ∧ True) (hN : NW s) (hK : va_K D vwCl ty s) (hP : va_P D vwCl ws H) (hD : va_D A ws)
    (isC isT : List Nat) (hC : isC.map (fun i => ws[i]?) = wc.map some) (hnd : va_nd isC = true) (hT : isT.filterMap (fun i => ty[i]?) = tc) (hst : st0 = As.reverse ++ rest) (hn : As.length = n) (hl : ls.size = nL) (hroom : (rest.map fun v => v.category).sum ≤ 8) (hcs : cells ≤ R.cells ∧ slots ≤ R.slots) (hdg : decode cc pc = .ok (.invokestatic index, 3))
    (kk : ∀ r : Int32, post r → W p l e R s m args below meth c H locs cells slots Q (F0 m (pc + 3) ls (.int r :: rest))) : W p l e R s m args below meth c H locs cells slots Q (F0 m pc ls st0) := by
  subst hst
  exact vp_callSi (va_runSN (As := As) (rest := rest) S hM cw ⟨PX_blind, PX_at hN hK hP hD isC isT hC hnd hT⟩ rfl hn hl rfl (lv_room (pc := pc) (ls := ls) (rest := As.reverse ++ rest) hroom) hdg hcs).run kk
/-- an instance call that writes, int -/
theorem pcVi {S' : Type} {post : Int32 → S' → Prop} {w1 : S' → va_W} (S : CallFix p m c cc nL s args Ts own) (hM : Met l y wsY rm (va_Pc (.ref b :: As) (PX D wc tc H.size)) (va_Qi post (fun u t => va_P D vwCl (w1 u) t.heap ∧ va_D (va_A wc H.size) (w1 u)) (va_A wc H.size)) mc ms (va_A wc H.size)) (cw : CallW R s args own C index y bytes maxL ret wsY rm mc ms n) (hN : NW s) (hK : va_K D vwCl ty s) (hP : va_P D vwCl ws H) (hD : va_D A ws)
    (hS : va_S A s.heap H locs) (hA : ∀ q, s.heap.size ≤ q → A q) (isC isR isT : List Nat) (hx : pxS A ws wc wr ty tc isC isR isT) (q0 : Nat) (hc : vwCl[ci]? = some (C, cq)) (he : ws[q0]? = some (b, .inr (ci, fs))) (hst : st0 = As.reverse ++ .ref b :: rest) (hn : As.length = n) (hl : ls.size = nL) (hroom : (rest.map fun v => v.category).sum ≤ 8) (hcs : cells + mc ≤ R.cells ∧ slots + ms ≤ R.slots) (hdg : decode cc pc = .ok (.invokevirtual index, 3))
    (kk : ∀ (r : Int32) (u : S') (H1 : Heap) (locs1 : List Loc), post r u → va_P D vwCl (wr ++ w1 u) H1 → va_D A (wr ++ w1 u) → va_S A s.heap H1 locs1 → W p l e R s m args below meth c H1 locs1 (cells + mc) (slots + ms) Q (F0 m (pc + 3) ls (.int r :: rest))) : W p l e R s m args below meth c H locs cells slots Q (F0 m pc ls st0) := by
  subst hst
  obtain ⟨hC, hnd, hT, hR, hnr, hdis⟩ := hx
  have hFc := va_free (wc := wc) hD hS hA isC hC
  refine va_calli (va_runV (As := As) (rest := rest) S hM cw ⟨PX_blind, va_recv hK hP hc he, PX_at hN hK hP hD isC isT hC hnd hT⟩ rfl hn hl rfl (lv_room (pc := pc) (ls := ls) (rest := As.reverse ++ .ref b :: rest) hroom) hdg hcs) hS (fun q _ h => hFc q h) hFc (fun r u t H1 locs1 ht hvm hw hB hz1 hk1 hS => ?_)
  obtain ⟨hP1, hD1⟩ := hB
  rw [ht] at hP1
  obtain ⟨hP2, hD2⟩ := va_join hP hD isC isR hC hR hnr hdis hk1 hFc hP1 hD1
  exact kk r u H1 locs1 hw hP2 hD2 hS
/-- an instance call that writes, void -/
theorem pcVv {S' : Type} {post : S' → Prop} {w1 : S' → va_W} (S : CallFix p m c cc nL s args Ts own) (hM : Met l y wsY rm (va_Pc (.ref b :: As) (PX D wc tc H.size)) (va_Qv post (fun u t => va_P D vwCl (w1 u) t.heap ∧ va_D (va_A wc H.size) (w1 u)) (va_A wc H.size)) mc ms (va_A wc H.size)) (cw : CallW R s args own C index y bytes maxL ret wsY rm mc ms n) (hN : NW s) (hK : va_K D vwCl ty s) (hP : va_P D vwCl ws H) (hD : va_D A ws)
    (hS : va_S A s.heap H locs) (hA : ∀ q, s.heap.size ≤ q → A q) (isC isR isT : List Nat) (hx : pxS A ws wc wr ty tc isC isR isT) (q0 : Nat) (hc : vwCl[ci]? = some (C, cq)) (he : ws[q0]? = some (b, .inr (ci, fs))) (hst : st0 = As.reverse ++ .ref b :: rest) (hn : As.length = n) (hl : ls.size = nL) (hroom : (rest.map fun v => v.category).sum ≤ 8) (hcs : cells + mc ≤ R.cells ∧ slots + ms ≤ R.slots) (hdg : decode cc pc = .ok (.invokevirtual index, 3))
    (kk : ∀ (u : S') (H1 : Heap) (locs1 : List Loc), post u → va_P D vwCl (wr ++ w1 u) H1 → va_D A (wr ++ w1 u) → va_S A s.heap H1 locs1 → W p l e R s m args below meth c H1 locs1 (cells + mc) (slots + ms) Q (F0 m (pc + 3) ls rest)) : W p l e R s m args below meth c H locs cells slots Q (F0 m pc ls st0) := by
  subst hst
  obtain ⟨hC, hnd, hT, hR, hnr, hdis⟩ := hx
  have hFc := va_free (wc := wc) hD hS hA isC hC
  refine va_callv (va_runV (As := As) (rest := rest) S hM cw ⟨PX_blind, va_recv hK hP hc he, PX_at hN hK hP hD isC isT hC hnd hT⟩ rfl hn hl rfl (lv_room (pc := pc) (ls := ls) (rest := As.reverse ++ .ref b :: rest) hroom) hdg hcs) hS (fun q _ h => hFc q h) hFc (fun u t H1 locs1 ht hvm hw hB hz1 hk1 hS => ?_)
  obtain ⟨hP1, hD1⟩ := hB
  rw [ht] at hP1
  obtain ⟨hP2, hD2⟩ := va_join hP hD isC isR hC hR hnr hdis hk1 hFc hP1 hD1
  exact kk u H1 locs1 hw hP2 hD2 hS
end PXC
def nb (r : Int32) : Prop := narrow .boolean (.int r) = .int r
theorem nb_0 : nb 0 := by unfold nb; first | rfl | decide
theorem nb_1 : nb 1 := by unfold nb; first | rfl | decide
end
section
abbrev rm_X6_isCell : Room := { frames := 0, cells := 0, slots := 0, locals := 0 }
abbrev cl_X6_isCell (ad : Nat → Nat) (cs : Nat → ClassId)  : va_W := []
abbrev ty_X6_isCell (cs : Nat → ClassId) : List (ClassId × FieldType) := []
def wp_X6_isCell (x0 : Int32) (Q : Int32 → Prop) : Prop :=
 ((x0 < 0 → Q (0 : Int32)) ∧
 (¬ x0 < 0 → (((121 : Int32) ≤ x0 → Q (0 : Int32)) ∧
 (¬ (121 : Int32) ≤ x0 → Q (1 : Int32)))))
set_option maxHeartbeats 4000000 in
set_option maxRecDepth 100000 in
theorem b_X6_isCell {p : Program} {e : Env} {s : State} {m : MethodId} {args : Array Value} {below : List Frame} {meth : Method} {c : Code} {QQ : State → Prop} {A : Nat → Prop} {ls : Array Slot} (l : Launch) (D : va_G) (ad : Nat → Nat) (cs : Nat → ClassId) (x0 : Int32) (Q : Int32 → Prop) (hx : p.tables.exec = Jvm.exec) (hb : c.code = cX6_isCell) (hml : c.maxLocals = 1) (hown : s.vm.findClass RX6 = some m.cls) (hts : ∀ w ∈ wsX6_isCell, w.before args s = true) (hN : NW s) (hP : va_P D vwCl (cl_X6_isCell ad cs) s.heap) (hK : va_K D vwCl (ty_X6_isCell cs) s) (hD : va_D A (cl_X6_isCell ad cs)) (hA : ∀ q : Nat, s.heap.size ≤ q → A q) (hl : lv_has ls 1 [(0, .int x0)])
  (hret : ∀ (r : Int32) (pc : Nat) (ls : Array Slot), nb r → Q r → decode cX6_isCell pc = .ok (.ireturn, 1) → W p l e rm_X6_isCell s m args below meth c s.heap [] 0 0 QQ (F0 m pc ls [.int r]))
  (hw : wp_X6_isCell x0 Q) :
  W p l e rm_X6_isCell s m args below meth c s.heap [] 0 0 QQ (F0 m 0 ls []) := by
  have S0 : CallFix p m c cX6_isCell 1 s args wsX6_isCell RX6 := ⟨hx, hb, hml, hown, hts⟩
  unfold wp_X6_isCell at hw
  refine lv_iload_n hx hb dX6_isCell_0 rfl (lv_at hl 0 rfl) ?_
  refine lv_if_lt (tgt := 14) hx hb dX6_isCell_1 (by decide) (fun c_1 => ?_) (fun c_1 => ?_)
  · have hw := hw.1 c_1
    refine lv_iconst (v := (0 : Int32)) hx hb dX6_isCell_14 (by decide) ?_
    exact hret _ _ _ nb_0 hw dX6_isCell_15
  · have hw := hw.2 c_1
    refine lv_iload_n hx hb dX6_isCell_4 rfl (lv_at hl 0 rfl) ?_
    refine lv_bipush (v := (121 : Int32)) hx hb dX6_isCell_5 (by decide) ?_
    refine lv_icmp_ge (tgt := 14) hx hb dX6_isCell_7 (by decide) (fun c_2 => ?_) (fun c_2 => ?_)
    · have hw := hw.1 c_2
      refine lv_iconst (v := (0 : Int32)) hx hb dX6_isCell_14 (by decide) ?_
      exact hret _ _ _ nb_0 hw dX6_isCell_15
    · have hw := hw.2 c_2
      refine lv_iconst (v := (1 : Int32)) hx hb dX6_isCell_10 (by decide) ?_
      refine lv_goto (tgt := 15) hx hb dX6_isCell_11 (by decide) ?_
      exact hret _ _ _ nb_1 hw dX6_isCell_15
set_option maxHeartbeats 4000000 in
set_option maxRecDepth 100000 in
theorem c_X6_isCell (l : Launch) (D : va_G) (ad : Nat → Nat) (cs : Nat → ClassId) (sz : Nat) (x0 : Int32) (Q : Int32 → Prop) (hw : wp_X6_isCell x0 Q) :
  Met l yX6_isCell wsX6_isCell rm_X6_isCell (va_Pc [.int x0] (PX D (cl_X6_isCell ad cs) (ty_X6_isCell cs) sz)) (vp_Si Q) 0 0 (fun _ => False) := by
  refine Met.ofW (cc := cX6_isCell) (maxL := 1) (ret := (some .boolean)) (by decide) rfl ?_
  intro p e s m args below meth c s₁ B hml hv
  obtain ⟨rfl, hsz, hP, hK, hD0, hN⟩ := hv
  subst hsz
  have hl := lv_entry ([.int x0]) (n := 1) (Nat.le_of_ble_eq_true rfl)
  rw [lg_entry_eq]
  have hx := B.exec
  have hb := B.bytes
  have hr := B.returns
  exact b_X6_isCell l D ad cs x0 Q hx hb hml (findClass_of_methodNamed B.named) (atoms_spec (ws := wsX6_isCell) B.pre) hN hP hK hD0.self (fun q h => Or.inr h) hl (A := va_A (cl_X6_isCell ad cs) s.heap.size) (fun r pc ls hn hq hd => W.zret (v := r) hx hb hr hn (fun t ht hW => ⟨r, rfl, hq, ht⟩) (fun _ h => nomatch h) hd) hw
abbrev rm_X1_owner : Room := { frames := 1, cells := 0, slots := 0, locals := 20 }
abbrev cl_X1_owner (ad : Nat → Nat) (cs : Nat → ClassId) (vM_owners : Nat → Int32) : va_W := [((ad 6), .inr (1, [.ref (ad 1), .ref (ad 7)])), ((ad 7), .inl ((cs 7), 121, .inl vM_owners))]
abbrev ty_X1_owner (cs : Nat → ClassId) : List (ClassId × FieldType) := [((cs 7), .int)]
def wp_X1_owner (vM_owners : Nat → Int32) (x1 : Int32) (Q : Int32 → Prop) : Prop :=
 wp_X6_isCell x1 (fun r_1 =>
 ((r_1 = 0 → Q (-1 : Int32)) ∧
 (¬ r_1 = 0 → (vp_in x1 121 ∧
 Q (vM_owners x1.toNatClampNeg)))))
set_option maxHeartbeats 4000000 in
set_option maxRecDepth 100000 in
theorem b_X1_owner {p : Program} {e : Env} {s : State} {m : MethodId} {args : Array Value} {below : List Frame} {meth : Method} {c : Code} {QQ : State → Prop} {A : Nat → Prop} {ls : Array Slot} (l : Launch) (D : va_G) (ad : Nat → Nat) (cs : Nat → ClassId) (vM_owners : Nat → Int32) (x1 : Int32) (Q : Int32 → Prop) (hx : p.tables.exec = Jvm.exec) (hb : c.code = cX1_owner) (hml : c.maxLocals = 2) (hown : s.vm.findClass RX1 = some m.cls) (hts : ∀ w ∈ wsX1_owner, w.before args s = true) (hN : NW s) (hP : va_P D vwCl (cl_X1_owner ad cs vM_owners) s.heap) (hK : va_K D vwCl (ty_X1_owner cs) s) (hD : va_D A (cl_X1_owner ad cs vM_owners)) (hA : ∀ q : Nat, s.heap.size ≤ q → A q) (hl : lv_has ls 2 [(0, .ref (ad 6)), (1, .int x1)])
  (hret : ∀ (r : Int32) (pc : Nat) (ls : Array Slot), Q r → decode cX1_owner pc = .ok (.ireturn, 1) → W p l e rm_X1_owner s m args below meth c s.heap [] 0 0 QQ (F0 m pc ls [.int r]))
  (hw : wp_X1_owner vM_owners x1 Q) :
  W p l e rm_X1_owner s m args below meth c s.heap [] 0 0 QQ (F0 m 0 ls []) := by
  have S0 : CallFix p m c cX1_owner 2 s args wsX1_owner RX1 := ⟨hx, hb, hml, hown, hts⟩
  have inX1 : ∀ w ∈ u_ws RX1 TX1 2, w ∈ wsX1_owner := by decide +kernel
  have fl_9 := hts (.fieldLink RX1 9 "HopperCourt$Marbles" "owners" "[I") (by decide +kernel)
  unfold wp_X1_owner at hw
  refine lv_iload_n hx hb dX1_owner_0 rfl (lv_at hl 1 rfl) ?_
  refine pcSN (rest := []) S0 (c_X6_isCell l D ad cs s.heap.size x1 _ hw) ⟨va_cnB (host := RX6) 1 hts gX1_owner_X6_isCell_n29 rfl rfl rfl hN.2.1 (hts (.initialized RX6) (by decide +kernel)) (by decide +kernel) ⟨Nat.le_of_ble_eq_true rfl, Nat.le_of_ble_eq_true rfl⟩, hts (.static yX6_isCell) (by decide +kernel), trivial⟩ hN hK hP hD [] [] rfl rfl rfl rfl rfl hl.1 (Nat.le_of_ble_eq_true rfl) ⟨Nat.le_of_ble_eq_true rfl, Nat.le_of_ble_eq_true rfl⟩ dX1_owner_1 (fun r_1 hw => ?_)
  refine lv_if_eq (tgt := 16) hx hb dX1_owner_4 (by decide) (fun c_2 => ?_) (fun c_2 => ?_)
  · have hw := hw.1 c_2
    refine lv_iconst (v := (-1 : Int32)) hx hb dX1_owner_16 (by decide) ?_
    exact hret _ _ _ hw dX1_owner_17
  · have hw := hw.2 c_2
    refine lv_aload_n hx hb dX1_owner_7 rfl (lv_at hl 0 rfl) ?_
    refine va_get (D := D) (ci := 1) (v := .ref (ad 7)) (C := RX1) (T := TX1) (N := 2) hx hb hts inX1 hown hK hP 0 rfl rfl 1 (by decide) fl_9 (fun _ h9 => h9) rfl dX1_owner_8 ?_
    refine lv_iload_n hx hb dX1_owner_11 rfl (lv_at hl 1 rfl) ?_
    obtain ⟨h_3, hw⟩ := hw
    refine va_iald hx hb hK hP 1 0 rfl rfl h_3 dX1_owner_12 ?_
    refine lv_goto (tgt := 17) hx hb dX1_owner_13 (by decide) ?_
    exact hret _ _ _ hw dX1_owner_17
set_option maxHeartbeats 4000000 in
set_option maxRecDepth 100000 in
theorem c_X1_owner (l : Launch) (D : va_G) (ad : Nat → Nat) (cs : Nat → ClassId) (sz : Nat) (vM_owners : Nat → Int32) (x1 : Int32) (Q : Int32 → Prop) (hw : wp_X1_owner vM_owners x1 Q) :
  Met l yX1_owner wsX1_owner rm_X1_owner (va_Pc [.ref (ad 6), .int x1] (PX D (cl_X1_owner ad cs vM_owners) (ty_X1_owner cs) sz)) (vp_Si Q) 0 0 (fun _ => False) := by
  refine Met.ofW (cc := cX1_owner) (maxL := 2) (ret := (some .int)) (by decide) rfl ?_
  intro p e s m args below meth c s₁ B hml hv
  obtain ⟨rfl, hsz, hP, hK, hD0, hN⟩ := hv
  subst hsz
  have hl := lv_entry ([.ref (ad 6), .int x1]) (n := 2) (Nat.le_of_ble_eq_true rfl)
  rw [lg_entry_eq]
  have hx := B.exec
  have hb := B.bytes
  have hr := B.returns
  exact b_X1_owner l D ad cs vM_owners x1 Q hx hb hml (findClass_of_methodNamed B.named) (atoms_spec (ws := wsX1_owner) B.pre) hN hP hK hD0.self (fun q h => Or.inr h) hl (A := va_A (cl_X1_owner ad cs vM_owners) s.heap.size) (fun r pc ls hq hd => W.iret (v := r) hx hb hr (fun t ht hW => ⟨r, rfl, hq, ht⟩) (fun _ h => nomatch h) hd) hw
abbrev rm_X3_countEnds : Room := { frames := 0, cells := 0, slots := 0, locals := 0 }
abbrev cl_X3_countEnds (ad : Nat → Nat) (cs : Nat → ClassId) (vR_hopsToEnd : Nat → Int32) : va_W := [((ad 8), .inr (3, [.ref (ad 1), .ref (ad 6), .ref (ad 9), .ref (ad 10), .ref (ad 11)])), ((ad 9), .inl ((cs 9), 121, .inl vR_hopsToEnd))]
abbrev ty_X3_countEnds (cs : Nat → ClassId) : List (ClassId × FieldType) := [((cs 9), .int)]
def wb_X3_countEnds_4 (vR_hopsToEnd : Nat → Int32) (K4 : Int32 → Prop) (P4 : Int32 → Int32 → Prop) (x1 x2 : Int32) : Prop :=
 (((121 : Int32) ≤ x2 → K4 x1) ∧
 (¬ (121 : Int32) ≤ x2 → (vp_in x2 121 ∧
 (((vR_hopsToEnd x2.toNatClampNeg) = (-1 : Int32) → P4 x1 (x2 + (1 : Int32))) ∧
 (¬ (vR_hopsToEnd x2.toNatClampNeg) = (-1 : Int32) → P4 (x1 + (1 : Int32)) (x2 + (1 : Int32)))))))
def wl_X3_countEnds_4 (vR_hopsToEnd : Nat → Int32) (K4 : Int32 → Prop) (x1 x2 : Int32) : Prop := ∀ P4 : Int32 → Int32 → Prop, (∀ (x1 x2 : Int32), wb_X3_countEnds_4 vR_hopsToEnd K4 P4 x1 x2 → P4 x1 x2) → P4 x1 x2
def wp_X3_countEnds (vR_hopsToEnd : Nat → Int32) (Q : Int32 → Prop) : Prop :=
 wl_X3_countEnds_4 vR_hopsToEnd (fun x1_4 => Q x1_4) (0 : Int32) (0 : Int32)
set_option maxHeartbeats 4000000 in
set_option maxRecDepth 100000 in
theorem b_X3_countEnds {p : Program} {e : Env} {s : State} {m : MethodId} {args : Array Value} {below : List Frame} {meth : Method} {c : Code} {QQ : State → Prop} {A : Nat → Prop} {ls : Array Slot} (l : Launch) (D : va_G) (ad : Nat → Nat) (cs : Nat → ClassId) (vR_hopsToEnd : Nat → Int32) (Q : Int32 → Prop) (hx : p.tables.exec = Jvm.exec) (hb : c.code = cX3_countEnds) (hml : c.maxLocals = 3) (hown : s.vm.findClass RX3 = some m.cls) (hts : ∀ w ∈ wsX3_countEnds, w.before args s = true) (hN : NW s) (hP : va_P D vwCl (cl_X3_countEnds ad cs vR_hopsToEnd) s.heap) (hK : va_K D vwCl (ty_X3_countEnds cs) s) (hD : va_D A (cl_X3_countEnds ad cs vR_hopsToEnd)) (hA : ∀ q : Nat, s.heap.size ≤ q → A q) (hl : lv_has ls 3 [(0, .ref (ad 8))])
  (hret : ∀ (r : Int32) (pc : Nat) (ls : Array Slot), Q r → decode cX3_countEnds pc = .ok (.ireturn, 1) → W p l e rm_X3_countEnds s m args below meth c s.heap [] 0 0 QQ (F0 m pc ls [.int r]))
  (hw : wp_X3_countEnds vR_hopsToEnd Q) :
  W p l e rm_X3_countEnds s m args below meth c s.heap [] 0 0 QQ (F0 m 0 ls []) := by
  have S0 : CallFix p m c cX3_countEnds 3 s args wsX3_countEnds RX3 := ⟨hx, hb, hml, hown, hts⟩
  have inX3 : ∀ w ∈ u_ws RX3 TX3 5, w ∈ wsX3_countEnds := by decide +kernel
  have fl_9 := hts (.fieldLink RX3 9 "HopperCourt$Reach" "hopsToEnd" "[I") (by decide +kernel)
  have hL4 : ∀ (K4 : Int32 → Prop) (x1 x2 : Int32), wl_X3_countEnds_4 vR_hopsToEnd K4 x1 x2 → (∀ (x1 : Int32), K4 x1 → ∀ (ls : Array Slot), lv_has ls 3 [(1, .int x1)] → W p l e rm_X3_countEnds s m args below meth c s.heap [] 0 0 QQ (F0 m 29 ls [])) → ∀ (ls : Array Slot), lv_has ls 3 [(0, .ref (ad 8)), (1, .int x1), (2, .int x2)] → W p l e rm_X3_countEnds s m args below meth c s.heap [] 0 0 QQ (F0 m 4 ls []) := by
    intro K4 x1 x2 hw hK4
    unfold wl_X3_countEnds_4 at hw
    refine hw (fun (x1 x2 : Int32) => ∀ (ls : Array Slot), lv_has ls 3 [(0, .ref (ad 8)), (1, .int x1), (2, .int x2)] → W p l e rm_X3_countEnds s m args below meth c s.heap [] 0 0 QQ (F0 m 4 ls [])) ?_
    intro x1 x2 hw ls hl
    unfold wb_X3_countEnds_4 at hw
    refine lv_iload_n hx hb dX3_countEnds_4 rfl (lv_at hl 2 rfl) ?_
    refine lv_bipush (v := (121 : Int32)) hx hb dX3_countEnds_5 (by decide) ?_
    refine lv_icmp_ge (tgt := 29) hx hb dX3_countEnds_7 (by decide) (fun c_1 => ?_) (fun c_1 => ?_)
    · have hw := hw.1 c_1
      exact hK4 x1 hw _ (lv_sub hl [1] rfl)
    · have hw := hw.2 c_1
      refine lv_aload_n hx hb dX3_countEnds_10 rfl (lv_at hl 0 rfl) ?_
      refine va_get (D := D) (ci := 3) (v := .ref (ad 9)) (C := RX3) (T := TX3) (N := 5) hx hb hts inX3 hown hK hP 0 rfl rfl 2 (by decide) fl_9 (fun _ h9 => h9) rfl dX3_countEnds_11 ?_
      refine lv_iload_n hx hb dX3_countEnds_14 rfl (lv_at hl 2 rfl) ?_
      obtain ⟨h_2, hw⟩ := hw
      refine va_iald hx hb hK hP 1 0 rfl rfl h_2 dX3_countEnds_15 ?_
      refine lv_iconst (v := (-1 : Int32)) hx hb dX3_countEnds_16 (by decide) ?_
      refine lv_icmp_eq (tgt := 23) hx hb dX3_countEnds_17 (by decide) (fun c_3 => ?_) (fun c_3 => ?_)
      · have hw := hw.1 c_3
        refine lv_iinc (v := (x2 + (1 : Int32))) (lv' := [(2, .int (x2 + (1 : Int32))), (0, .ref (ad 8)), (1, .int x1)]) hx hb dX3_countEnds_23 hl (k := 2) rfl rfl (by decide) rfl (fun ls hl => ?_)
        refine lv_goto (tgt := 4) hx hb dX3_countEnds_26 (by decide) ?_
        exact hw _ (lv_sub hl [1, 2, 0] rfl)
      · have hw := hw.2 c_3
        refine lv_iinc (v := (x1 + (1 : Int32))) (lv' := [(1, .int (x1 + (1 : Int32))), (0, .ref (ad 8)), (2, .int x2)]) hx hb dX3_countEnds_20 hl (k := 1) rfl rfl (by decide) rfl (fun ls hl => ?_)
        refine lv_iinc (v := (x2 + (1 : Int32))) (lv' := [(2, .int (x2 + (1 : Int32))), (1, .int (x1 + (1 : Int32))), (0, .ref (ad 8))]) hx hb dX3_countEnds_23 hl (k := 2) rfl rfl (by decide) rfl (fun ls hl => ?_)
        refine lv_goto (tgt := 4) hx hb dX3_countEnds_26 (by decide) ?_
        exact hw _ (lv_sub hl [2, 1, 0] rfl)
  unfold wp_X3_countEnds at hw
  refine lv_iconst (v := (0 : Int32)) hx hb dX3_countEnds_0 (by decide) ?_
  refine lv_istore_n (lv' := [(1, .int (0 : Int32)), (0, .ref (ad 8))]) hx hb dX3_countEnds_1 rfl hl (by decide) rfl (fun ls hl => ?_)
  refine lv_iconst (v := (0 : Int32)) hx hb dX3_countEnds_2 (by decide) ?_
  refine lv_istore_n (lv' := [(2, .int (0 : Int32)), (1, .int (0 : Int32)), (0, .ref (ad 8))]) hx hb dX3_countEnds_3 rfl hl (by decide) rfl (fun ls hl => ?_)
  refine hL4 _ (0 : Int32) (0 : Int32) hw ?_ _ (lv_sub hl [2, 1, 0] rfl)
  intro x1_4 hw ls hl
  refine lv_iload_n hx hb dX3_countEnds_29 rfl (lv_at hl 0 rfl) ?_
  exact hret _ _ _ hw dX3_countEnds_30
set_option maxHeartbeats 4000000 in
set_option maxRecDepth 100000 in
theorem c_X3_countEnds (l : Launch) (D : va_G) (ad : Nat → Nat) (cs : Nat → ClassId) (sz : Nat) (vR_hopsToEnd : Nat → Int32) (Q : Int32 → Prop) (hw : wp_X3_countEnds vR_hopsToEnd Q) :
  Met l yX3_countEnds wsX3_countEnds rm_X3_countEnds (va_Pc [.ref (ad 8)] (PX D (cl_X3_countEnds ad cs vR_hopsToEnd) (ty_X3_countEnds cs) sz)) (vp_Si Q) 0 0 (fun _ => False) := by
  refine Met.ofW (cc := cX3_countEnds) (maxL := 3) (ret := (some .int)) (by decide) rfl ?_
  intro p e s m args below meth c s₁ B hml hv
  obtain ⟨rfl, hsz, hP, hK, hD0, hN⟩ := hv
  subst hsz
  have hl := lv_entry ([.ref (ad 8)]) (n := 3) (Nat.le_of_ble_eq_true rfl)
  rw [lg_entry_eq]
  have hx := B.exec
  have hb := B.bytes
  have hr := B.returns
  exact b_X3_countEnds l D ad cs vR_hopsToEnd Q hx hb hml (findClass_of_methodNamed B.named) (atoms_spec (ws := wsX3_countEnds) B.pre) hN hP hK hD0.self (fun q h => Or.inr h) hl (A := va_A (cl_X3_countEnds ad cs vR_hopsToEnd) s.heap.size) (fun r pc ls hq hd => W.iret (v := r) hx hb hr (fun t ht hW => ⟨r, rfl, hq, ht⟩) (fun _ h => nomatch h) hd) hw
end
