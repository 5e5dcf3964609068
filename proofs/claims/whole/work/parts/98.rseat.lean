/-! THE SEATS, as the reference has them -/
/-- the cells of the camps, in order -/
def GCA (v : Nat → Int32) : Prop := ∀ a j, a < 6 → j < 10 → v (10 * a + j) = nI (gc a j)
theorem gc_all : ((List.range 6).all fun a => (List.range 10).all fun j => decide (gc a j < 121) && decide (cp (gc a j) = some a)) = true := by decide +kernel
theorem gc_lt {a j : Nat} (ha : a < 6) (hj : j < 10) : gc a j < 121 := by
  have h := all_lt (all_lt gc_all ha) hj
  rw [Bool.and_eq_true] at h
  exact of_decide_eq_true h.1
theorem gc_list : ((List.range 6).all fun a => ((List.range 121).filter fun x => decide (cp x = some a)) == (List.range 10).map (gc a)) = true := by decide +kernel
theorem cnt_list (p : Nat → Bool) : ∀ n, cnt p n = (List.range n).countP p
  | 0 => rfl
  | n + 1 => by
    rw [List.range_succ, List.countP_append, ← cnt_list p n]
    show cnt p n + (if p n then 1 else 0) = cnt p n + List.countP p [n]
    rw [List.countP_singleton]
theorem cntc_gc {B : Nat → Option Nat} {a : Nat} (o : Option Nat) (ha : a < 6) : cntc B a o = cnt (fun j => decide (B (gc a j) = o)) 10 := by
  have h := eq_of_beq (all_lt gc_list ha)
  unfold cntc
  rw [cnt_list, cnt_list]
  have h2 : (List.range 121).countP (fun x => decide (cp x = some a) && decide (B x = o)) = ((List.range 121).filter fun x => decide (cp x = some a)).countP (fun x => decide (B x = o)) := by
    rw [List.countP_filter]
    congr 1
    funext x
    rw [Bool.and_comm]
  rw [h2, h, List.countP_map]
  rfl
theorem upLo {σ : Type} {P : σ → Int32 → Prop} (I : Nat → σ → Prop) (b N : Nat) (he : ∀ s, I N s → P s (nI (b + N))) (hs : ∀ i s, i < N → I i s → (∀ s', I (i + 1) s' → P s' (nI (b + i) + 1)) → P s (nI (b + i))) (s : σ) (h : I 0 s) : P s (nI b) := by
  have key : ∀ m i, i + m = N → ∀ s, I i s → P s (nI (b + i)) := by
    intro m
    induction m with
    | zero => intro i hi s h; have e : i = N := by omega
              subst e; exact he s h
    | succ m ih => intro i hi s h; exact hs i s (by omega) h (fun s' h' => by rw [nI_1]; exact ih (i + 1) (by omega) s' h')
  exact key N 0 (by omega) s h
section RSEAT
variable {z1 z2 z3 z4 z5 z6 z7 z8 : Int32} {vc vb vg : Nat → Int32} {B : Nat → Option Nat} {pl out : Int32} {pls mb : Nat → Int32} {P : Nat}
theorem t7_plays {k : Nat} {Q : Int32 → Prop} (hk : k < 6) (h : Q (bi (bitB pl k))) : wp_X7_plays pl z2 z3 z4 z5 z6 z7 z8 (nI k) Q := by
  unfold wp_X7_plays wp_X7_isIn
  exact br_f (nI_pos (by omega)) (br_f (nI_nlt (b := k) (a := 5) (by omega) (by decide)) (br_f (by decide) (bd' h)))
theorem t7_hasFinished {k : Nat} {Q : Int32 → Prop} (hP : P ≤ 6) (h : Q (bi (plcd pls P k))) : wp_X7_hasFinished z1 z2 z3 z4 z5 z6 (nI P) z8 pls (nI k) Q := by
  unfold wp_X7_hasFinished
  intro R hR
  refine upL (P := fun v i => R v i) (fun i v => v = bi (anyN (fun i => decide (pls i = nI k)) i)) P (fun v hv => hR _ _ ?_) (fun i v hi hv ih => hR _ _ ?_) 0 (by omega) 0 rfl
  · unfold wb_X7_hasFinished_4
    subst hv
    exact pk_le P P (fun _ => ⟨nb_bi _, h⟩) (fun z => absurd z (by omega))
  · unfold wb_X7_hasFinished_4
    subst hv
    have e9 : anyN (fun i => decide (pls i = nI k)) (i + 1) = (anyN (fun i => decide (pls i = nI k)) i || decide (pls i = nI k)) := rfl
    refine pk_le P i (fun z => absurd z (by omega)) (fun _ => bb (fun e => ih _ ?_) (fun e => ⟨vp_in_nI (by omega) (by omega), ?_⟩))
    · rw [e9, e]; rfl
    · rw [nI_clamp (n := i) (by omega)]
      refine ⟨fun e2 => ih _ ?_, fun e2 => ih _ ?_⟩
      · rw [e9, e, decide_eq_false e2]; rfl
      · rw [e9, e, decide_eq_true e2]; rfl
theorem t7_ownIn {a : Nat} {o : Option Nat} {Q : Int32 → Prop} (hg : GCA vg) (hv : BD vb B) (hB : BK B) (ha : a < 6) (ho : ob 6 o) (h : Q (nI (cntc B a o))) : wp_X7_ownIn z1 z2 z3 z4 z5 z6 z7 z8 vg vb (oi o) (nI a) Q := by
  unfold wp_X7_ownIn
  rw [cntc_gc o ha] at h
  have e1 : (10 : Int32) * nI a = nI (10 * a) := by rw [show (10 : Int32) = nI 10 from rfl, pk_mul]
  have e2 : nI (10 * a) + (10 : Int32) = nI (10 * a + 10) := nI_add (10 * a) 10
  intro R hR
  rw [e1]
  refine upLo (P := fun v i => R v i) (fun i v => v = nI (cnt (fun j => decide (B (gc a j) = o)) i)) (10 * a) 10 (fun v hv => hR _ _ ?_) (fun i v hi hv9 ih => hR _ _ ?_) 0 rfl
  · unfold wb_X7_ownIn_8
    subst hv
    rw [e1, e2]
    exact pk_le (10 * a + 10) (10 * a + 10) (fun _ => h) (fun z => absurd z (by omega))
  · unfold wb_X7_ownIn_8
    subst hv9
    rw [e1, e2]
    have hgl := gc_lt ha hi
    refine pk_le (10 * a + 10) (10 * a + i) (fun z => absurd z (by omega)) (fun _ => ⟨vp_in_nI (by omega) (by omega), ?_⟩)
    rw [nI_clamp (n := 10 * a + i) (by omega), hg a i ha hi]
    refine ⟨vp_in_nI hgl (by omega), ?_⟩
    rw [nI_clamp (n := gc a i) (by omega), hv _ hgl]
    refine bo_eq' (hB _ hgl) ho rfl rfl (fun e => ih _ ?_) (fun e => ih _ ?_)
    · rw [cnt_t (decide_eq_true e), ← nI_1]
    · rw [cnt_f (decide_eq_false e), show nI (cnt (fun j => decide (B (gc a j) = o)) i) + 0 = nI (cnt (fun j => decide (B (gc a j) = o)) i) from nI_add _ 0]
theorem t7_isFull {a : Nat} {Q : Int32 → Prop} (hg : GCA vg) (hv : BD vb B) (hB : BK B) (ha : a < 6) (h : Q (bi (decide (cntc B a none = 0)))) : wp_X7_isFull z1 z2 z3 z4 z5 z6 z7 z8 vg vb (nI a) Q := by
  unfold wp_X7_isFull
  have hl := cntc_le B a none
  refine t7_ownIn (o := none) hg hv hB ha ob_none ⟨fun e => ?_, fun e => ?_⟩
  · rw [decide_eq_false (fun z => e (by rw [z]; rfl))] at h
    exact h
  · rw [decide_eq_true (show cntc B a none = 0 from nI_inj (by omega) (by omega) (show _ = nI 0 from e))] at h
    exact h
theorem t7_finishes {fill : Int32} {Q : Int32 → (Nat → Int32) → Prop} (hg : GCA vg) (hv : BD vb B) (hB : BK B) (hD : PLD pls P) (hP : P ≤ 6) (h : Q (nI (finS pl out fill B (P, pls) 6).1) (finS pl out fill B (P, pls) 6).2) : wp_X7_finishes pl fill z3 z4 z5 out (nI P) z8 vg vb pls Q := by
  unfold wp_X7_finishes
  intro R hR
  refine upL (P := fun (z : Int32 × (Nat → Int32)) i => R z.1 z.2 i) (fun i z => z = (nI (finS pl out fill B (P, pls) i).1, (finS pl out fill B (P, pls) i).2)) 6 (fun z hz => hR _ _ _ ?_) (fun i z hi hz ih => hR _ _ _ ?_) 0 (by omega) (nI P, pls) rfl
  · unfold wb_X7_finishes_2
    subst hz
    exact pk_le 6 6 (fun _ => h) (fun z => absurd z (by omega))
  · unfold wb_X7_finishes_2
    subst hz
    obtain ⟨a1, a2, -⟩ := finS_ok (pl := pl) (out := out) (fill := fill) (B := B) (z := (P, pls)) hD hP i (by omega)
    generalize hy : finS pl out fill B (P, pls) i = y at a1 a2 ih ⊢
    have hgl : (i + 3) % 6 < 6 := by omega
    have no : ¬ (inB pl out y.2 y.1 i = true ∧ filB B i fill = true) → R (nI y.1) y.2 (nI i + 1) := fun z => ih (nI y.1, y.2) (by rw [finS_f hy z])
    have ni : inB pl out y.2 y.1 i = false → R (nI y.1) y.2 (nI i + 1) := fun e => no (fun z => by rw [e] at z; cases z.1)
    have nf : filB B i fill = false → R (nI y.1) y.2 (nI i + 1) := fun e => no (fun z => by rw [e] at z; cases z.2)
    rw [goal_eq hi]
    refine pk_le 6 i (fun z => absurd z (by omega)) (fun _ => t7_plays hi (bb' (fun e => ⟨fun e2 => ?_, fun e2 => t7_hasFinished a2 (bb (fun e3 => ?_) (fun e3 => t7_isFull hg hv hB hgl (bb' (fun e4 => t7_ownIn (o := some i) hg hv hB hgl (ob_some hi) ⟨fun e5 => ?_, fun e5 => ?_⟩) (fun e4 => ?_))))⟩) (fun e => ni (in_n1 e))))
    · refine ni (in_n2 ?_)
      cases e9 : bitB out i with
      | true => rfl
      | false => exact absurd (bitB_0.mpr e9) e2
    · exact ni (in_n3 e3)
    · refine nf ?_
      unfold filB
      rw [decide_eq_true e5, Bool.not_true, Bool.and_false]
    · have hin := in_of e (bitB_0.mp e2) e3
      have b1 := (PLD_room a1 hi e3).1
      refine ⟨vp_in_nI b1 (by omega), ?_⟩
      rw [nI_clamp (n := y.1) (by omega), nI_1]
      refine ih (nI (y.1 + 1), upd y.2 y.1 (nI i)) (by rw [finS_t hy hin (by
        unfold filB
        rw [e4, decide_eq_false e5]; rfl)])
    · refine nf ?_
      unfold filB
      rw [e4, Bool.false_and]
theorem or0 (x : Int32) : x ||| 0 = x := by
  refine Int32.toBitVec_inj.mp ?_
  rw [Int32.toBitVec_or]
  exact BitVec.or_zero
theorem t7_turns {pat : Int32} {t : Nat} {Q : Int32 → Int32 → Prop} (hg : GCA vg) (hv : BD vb B) (hB : BK B) (hP : P ≤ 6) (ht : t < 6) (h : Q (oi (goS pl pat mb pls P B t out 6).2) (goS pl pat mb pls P B t out 6).1) : wp_X7_turns pl z2 pat (nI t) z5 out (nI P) z8 vg vb mb pls Q := by
  unfold wp_X7_turns
  intro R hR
  have fin : ∀ n o k, n ≤ 6 → k < 6 → goS pl pat mb pls P B t out n = (o, some k) → R (nI k) o (nI n + 1) := fun n o k hn hk e => by
    have e6 := goS_up e (6 - n)
    rw [show n + (6 - n) = 6 by omega] at e6
    rw [e6] at h
    refine hR _ _ _ ?_
    unfold wb_X7_turns_12
    rw [nI_1]
    refine pk_lt 6 (n + 1) (fun _ => h) (fun _ => ⟨fun _ => h, fun z => absurd z (nI_m1 (by omega))⟩)
  have key := upL (P := fun (z : Int32 × Int32) i => R z.2 z.1 (i + 1)) (fun i z => z.2 = -1 ∧ goS pl pat mb pls P B t out i = (z.1, none)) 6 (fun z hz => hR _ _ _ ?_) (fun i z hi hz ih => hR _ _ _ ?_) 0 (by omega) (out, -1) ⟨rfl, rfl⟩
  · rw [nI_1] at key; exact key
  · unfold wb_X7_turns_12
    rw [nI_1]
    rw [hz.2] at h
    rw [hz.1]
    exact pk_lt 6 7 (fun _ => h) (fun z => absurd z (by omega))
  · unfold wb_X7_turns_12
    obtain ⟨o, tt⟩ := z
    obtain ⟨h1, h2⟩ := hz
    dsimp only at h1 h2 ⊢
    subst h1
    have hk : (t + (i + 1)) % 6 < 6 := by omega
    rw [nI_1, rem6 t (i + 1) (by omega)]
    generalize hkk : (t + (i + 1)) % 6 = k at hk ⊢
    have ni : inB pl o pls P k = false → R (-1) o (nI (i + 1) + 1) := fun e => by
      rw [← nI_1]
      exact ih (o, -1) ⟨rfl, goS_no h2 (by rw [hkk]; exact e)⟩
    have hl := cntc_le B k (some k)
    refine pk_lt 6 (i + 1) (fun z => absurd z (by omega)) (fun _ => ⟨fun z => absurd rfl z, fun _ => t7_plays hk (bb' (fun e => t7_hasFinished hP (bb (fun e3 => ni (in_n3 e3)) (fun e3 => ⟨fun e2 => ni (in_n2 ?_), fun e2 => ?_⟩))) (fun e => ni (in_n1 e)))⟩)
    · cases e9 : bitB o k with
      | true => rfl
      | false => exact absurd (bitB_0.mpr e9) e2
    · have hin := in_of e (bitB_0.mp e2) e3
      have late : lateB mb pat B k = true → wJ_X7_turns_94 o (nI (i + 1)) (nI k) 1 R := fun e4 => by
        unfold wJ_X7_turns_94 wJ_X7_turns_113
        refine br_f (by decide) (br_f (by decide) ?_)
        rw [← nI_1]
        exact ih (_, -1) ⟨rfl, by rw [← hkk]; exact goS_late h2 (by rw [hkk]; exact hin) (by rw [hkk]; exact e4)⟩
      have now : lateB mb pat B k = false → wJ_X7_turns_94 o (nI (i + 1)) (nI k) 0 R := fun e4 => by
        unfold wJ_X7_turns_94 wJ_X7_turns_113
        refine br_t rfl (br_t rfl ?_)
        rw [or0]
        exact fin (i + 1) o k (by omega) hk (by rw [← hkk]; exact goS_yes h2 (by rw [hkk]; exact hin) (by rw [hkk]; exact e4))
      refine ⟨fun e4 => now ?_, fun e4 => ⟨vp_in_nI hk (by omega), ?_⟩⟩
      · unfold lateB
        rw [decide_eq_true e4]; rfl
      · rw [nI_clamp (n := k) (by omega)]
        refine ⟨fun e5 => now ?_, fun e5 => t7_ownIn (o := some k) hg hv hB hk (ob_some hk) (pk_le (cntc B k (some k)) 0 (fun e6 => now ?_) (fun e6 => late ?_))⟩
        · unfold lateB
          rw [decide_eq_false e4, decide_eq_true e5]; rfl
        · unfold lateB
          rw [decide_eq_false e4, decide_eq_false e5, decide_eq_true (show cntc B k (some k) = 0 by omega)]; rfl
        · unfold lateB
          rw [decide_eq_false e4, decide_eq_false e5, decide_eq_false (show ¬ cntc B k (some k) = 0 by omega)]; rfl
end RSEAT
