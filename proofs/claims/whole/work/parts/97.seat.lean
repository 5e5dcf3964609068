/-! THE SEATS: who plays, who has finished, who is out, who is on turn -/
def bcE (x0 : Int32) : Int32 := ((((((((x0 - (((x0.toUInt32 >>> ((1 : Int32).toUInt32 &&& Int32.toUInt32 31)).toInt32) &&& (1431655765 : Int32))) &&& (858993459 : Int32)) + ((((x0 - (((x0.toUInt32 >>> ((1 : Int32).toUInt32 &&& Int32.toUInt32 31)).toInt32) &&& (1431655765 : Int32))).toUInt32 >>> ((2 : Int32).toUInt32 &&& Int32.toUInt32 31)).toInt32) &&& (858993459 : Int32))) + (((((x0 - (((x0.toUInt32 >>> ((1 : Int32).toUInt32 &&& Int32.toUInt32 31)).toInt32) &&& (1431655765 : Int32))) &&& (858993459 : Int32)) + ((((x0 - (((x0.toUInt32 >>> ((1 : Int32).toUInt32 &&& Int32.toUInt32 31)).toInt32) &&& (1431655765 : Int32))).toUInt32 >>> ((2 : Int32).toUInt32 &&& Int32.toUInt32 31)).toInt32) &&& (858993459 : Int32))).toUInt32 >>> ((4 : Int32).toUInt32 &&& Int32.toUInt32 31)).toInt32)) &&& (252645135 : Int32)) + (((((((x0 - (((x0.toUInt32 >>> ((1 : Int32).toUInt32 &&& Int32.toUInt32 31)).toInt32) &&& (1431655765 : Int32))) &&& (858993459 : Int32)) + ((((x0 - (((x0.toUInt32 >>> ((1 : Int32).toUInt32 &&& Int32.toUInt32 31)).toInt32) &&& (1431655765 : Int32))).toUInt32 >>> ((2 : Int32).toUInt32 &&& Int32.toUInt32 31)).toInt32) &&& (858993459 : Int32))) + (((((x0 - (((x0.toUInt32 >>> ((1 : Int32).toUInt32 &&& Int32.toUInt32 31)).toInt32) &&& (1431655765 : Int32))) &&& (858993459 : Int32)) + ((((x0 - (((x0.toUInt32 >>> ((1 : Int32).toUInt32 &&& Int32.toUInt32 31)).toInt32) &&& (1431655765 : Int32))).toUInt32 >>> ((2 : Int32).toUInt32 &&& Int32.toUInt32 31)).toInt32) &&& (858993459 : Int32))).toUInt32 >>> ((4 : Int32).toUInt32 &&& Int32.toUInt32 31)).toInt32)) &&& (252645135 : Int32)).toUInt32 >>> ((8 : Int32).toUInt32 &&& Int32.toUInt32 31)).toInt32)) + ((((((((x0 - (((x0.toUInt32 >>> ((1 : Int32).toUInt32 &&& Int32.toUInt32 31)).toInt32) &&& (1431655765 : Int32))) &&& (858993459 : Int32)) + ((((x0 - (((x0.toUInt32 >>> ((1 : Int32).toUInt32 &&& Int32.toUInt32 31)).toInt32) &&& (1431655765 : Int32))).toUInt32 >>> ((2 : Int32).toUInt32 &&& Int32.toUInt32 31)).toInt32) &&& (858993459 : Int32))) + (((((x0 - (((x0.toUInt32 >>> ((1 : Int32).toUInt32 &&& Int32.toUInt32 31)).toInt32) &&& (1431655765 : Int32))) &&& (858993459 : Int32)) + ((((x0 - (((x0.toUInt32 >>> ((1 : Int32).toUInt32 &&& Int32.toUInt32 31)).toInt32) &&& (1431655765 : Int32))).toUInt32 >>> ((2 : Int32).toUInt32 &&& Int32.toUInt32 31)).toInt32) &&& (858993459 : Int32))).toUInt32 >>> ((4 : Int32).toUInt32 &&& Int32.toUInt32 31)).toInt32)) &&& (252645135 : Int32)) + (((((((x0 - (((x0.toUInt32 >>> ((1 : Int32).toUInt32 &&& Int32.toUInt32 31)).toInt32) &&& (1431655765 : Int32))) &&& (858993459 : Int32)) + ((((x0 - (((x0.toUInt32 >>> ((1 : Int32).toUInt32 &&& Int32.toUInt32 31)).toInt32) &&& (1431655765 : Int32))).toUInt32 >>> ((2 : Int32).toUInt32 &&& Int32.toUInt32 31)).toInt32) &&& (858993459 : Int32))) + (((((x0 - (((x0.toUInt32 >>> ((1 : Int32).toUInt32 &&& Int32.toUInt32 31)).toInt32) &&& (1431655765 : Int32))) &&& (858993459 : Int32)) + ((((x0 - (((x0.toUInt32 >>> ((1 : Int32).toUInt32 &&& Int32.toUInt32 31)).toInt32) &&& (1431655765 : Int32))).toUInt32 >>> ((2 : Int32).toUInt32 &&& Int32.toUInt32 31)).toInt32) &&& (858993459 : Int32))).toUInt32 >>> ((4 : Int32).toUInt32 &&& Int32.toUInt32 31)).toInt32)) &&& (252645135 : Int32)).toUInt32 >>> ((8 : Int32).toUInt32 &&& Int32.toUInt32 31)).toInt32)).toUInt32 >>> ((16 : Int32).toUInt32 &&& Int32.toUInt32 31)).toInt32)) &&& (63 : Int32))
theorem and1 (x : Int32) : x &&& 1 = 0 ∨ x &&& 1 = 1 := by
  have key : ∀ b : BitVec 32, b &&& 1#32 = 0#32 ∨ b &&& 1#32 = 1#32 := by
    intro b
    have h0 : (b &&& 1#32).toNat = b.toNat % 2 := by
      rw [BitVec.toNat_and]
      exact Nat.and_one_is_mod _
    rcases Nat.mod_two_eq_zero_or_one b.toNat with h | h
    · left; apply BitVec.eq_of_toNat_eq; rw [h0, h]; rfl
    · right; apply BitVec.eq_of_toNat_eq; rw [h0, h]; rfl
  rcases key x.toBitVec with h | h
  · exact Or.inl (Int32.toBitVec_inj.mp (by rw [Int32.toBitVec_and]; exact h))
  · exact Or.inr (Int32.toBitVec_inj.mp (by rw [Int32.toBitVec_and]; exact h))
/-- the bit k of a word -/
def bitB (w : Int32) (k : Nat) : Bool := decide ((w >>> (nI k &&& 31)) &&& 1 = 1)
theorem bitB_0 {w : Int32} {k : Nat} : (w >>> (nI k &&& 31)) &&& 1 = 0 ↔ bitB w k = false := by
  unfold bitB
  rcases and1 (w >>> (nI k &&& 31)) with h | h
  · rw [h]; exact ⟨fun _ => by decide, fun _ => rfl⟩
  · rw [h]; exact ⟨fun z => absurd z (by decide), fun z => absurd z (by decide)⟩
/-- a choice of 1 and 0 by a condition -/
theorem bd {c : Prop} [Decidable c] {Q : Int32 → Prop} (h : Q (bi (decide c))) : (c → Q 1) ∧ (¬ c → Q 0) := ⟨fun e => by rw [decide_eq_true e] at h; exact h, fun e => by rw [decide_eq_false e] at h; exact h⟩
theorem bd' {c : Prop} [Decidable c] {Q : Int32 → Prop} (h : Q (bi (decide c))) : (¬ c → Q 0) ∧ (c → Q 1) := ⟨(bd h).2, (bd h).1⟩
theorem nb_bi (b : Bool) : nb (bi b) := by cases b; exact nb_0; exact nb_1
theorem t_isCamp {k : Nat} {Q : Int32 → Prop} (hk : k < 6) (h : Q 1) : wp_X6_isCamp (nI k) Q := by
  unfold wp_X6_isCamp
  exact br_f (nI_pos (by omega)) (br_f (nI_ge (b := 6) hk (by decide)) h)
theorem t_isCamp_any {Q : Int32 → Prop} (x : Int32) (h1 : ∀ c, c < 6 → x = nI c → Q 1) (h0 : (∀ c, c < 6 → ¬ x = nI c) → Q 0) : wp_X6_isCamp x Q := by
  unfold wp_X6_isCamp
  refine br_c (fun a => h0 (fun c hc e => ?_)) (fun a => br_c (fun b => h0 (fun c hc e => ?_)) (fun b => ?_))
  · rw [e] at a; exact nI_pos (by omega) a
  · rw [e] at b; exact nI_ge hc (by omega) b
  · rcases pk_ix x (n := 6) (by omega) with h | h | ⟨j, hj, e⟩
    · exact absurd h a
    · exact absurd h b
    · exact h1 j hj e
theorem t7_isIn {a b : Nat} {Q : Int32 → Prop} (hab : a ≤ b) (hb : b < 2 ^ 31) (x : Int32) (h1 : ∀ c, a ≤ c → c ≤ b → x = nI c → Q 1) (h0 : (∀ c, a ≤ c → c ≤ b → ¬ x = nI c) → Q 0) : wp_X7_isIn x (nI a) (nI b) Q := by
  unfold wp_X7_isIn
  refine br_c (fun z => h0 (fun c h2 h3 e => ?_)) (fun z => br_c (fun y => h0 (fun c h2 h3 e => ?_)) (fun y => ?_))
  · rw [e] at z; exact nI_nlt h2 (by omega) z
  · rw [e] at y; exact nI_nlt h3 (by omega) y
  · rw [Int32.lt_iff_toInt_lt, nI_toInt (by omega)] at z y
    have h2 : x = nI x.toInt.toNat := by
      apply Int32.toInt_inj.mp
      rw [nI_toInt (by omega)]
      omega
    exact h1 x.toInt.toNat (by omega) (by omega) h2
/-- one of the first n -/
def anyN (p : Nat → Bool) : Nat → Bool
  | 0 => false
  | n + 1 => anyN p n || p n
theorem anyN_t {p : Nat → Bool} {i : Nat} (h : p i = true) : ∀ {n : Nat}, i < n → anyN p n = true
  | 0, hn => absurd hn (Nat.not_lt_zero i)
  | n + 1, hn => by
    show (anyN p n || p n) = true
    by_cases e : i = n
    · subst e; rw [h, Bool.or_true]
    · rw [anyN_t h (show i < n by omega), Bool.true_or]
theorem anyN_f {p : Nat → Bool} : ∀ {n : Nat}, anyN p n = false → ∀ i, i < n → p i = false
  | 0, _, i, hi => absurd hi (Nat.not_lt_zero i)
  | n + 1, h, i, hi => by
    have h' : (anyN p n || p n) = false := h
    rw [Bool.or_eq_false_iff] at h'
    by_cases e : i = n
    · subst e; exact h'.2
    · exact anyN_f h'.1 i (by omega)
def plcd (pls : Nat → Int32) (P k : Nat) : Bool := anyN (fun i => decide (pls i = nI k)) P
def inB (pl out : Int32) (pls : Nat → Int32) (P k : Nat) : Bool := bitB pl k && !bitB out k && !plcd pls P k
theorem in_all {pl out : Int32} {pls : Nat → Int32} {P k : Nat} (h : inB pl out pls P k = true) : bitB pl k = true ∧ bitB out k = false ∧ plcd pls P k = false := by
  unfold inB at h
  simp only [Bool.and_eq_true, Bool.not_eq_true'] at h
  exact ⟨h.1.1, h.1.2, h.2⟩
theorem in_of {pl out : Int32} {pls : Nat → Int32} {P k : Nat} (h1 : bitB pl k = true) (h2 : bitB out k = false) (h3 : plcd pls P k = false) : inB pl out pls P k = true := by
  unfold inB; rw [h1, h2, h3]; rfl
theorem in_n1 {pl out : Int32} {pls : Nat → Int32} {P k : Nat} (h1 : bitB pl k = false) : inB pl out pls P k = false := by
  unfold inB; rw [h1]; rfl
theorem in_n2 {pl out : Int32} {pls : Nat → Int32} {P k : Nat} (h1 : bitB out k = true) : inB pl out pls P k = false := by
  unfold inB; rw [h1]; cases bitB pl k <;> rfl
theorem in_n3 {pl out : Int32} {pls : Nat → Int32} {P k : Nat} (h1 : plcd pls P k = true) : inB pl out pls P k = false := by
  unfold inB; rw [h1]; cases bitB pl k <;> cases bitB out k <;> rfl
/-- the marbles of a player (or the empty cells) in a camp -/
def cntc (B : Nat → Option Nat) (a : Nat) (o : Option Nat) : Nat := cnt (fun x => decide (cp x = some a) && decide (B x = o)) 121
theorem cntc_le (B : Nat → Option Nat) (a : Nat) (o : Option Nat) : cntc B a o ≤ 121 := cnt_le _ 121
def filB (B : Nat → Option Nat) (k : Nat) (fill : Int32) : Bool := decide (cntc B ((k + 3) % 6) none = 0) && !decide (nI (cntc B ((k + 3) % 6) (some k)) < fill)
def lateB (mb : Nat → Int32) (pat : Int32) (B : Nat → Option Nat) (k : Nat) : Bool := !decide (pat ≤ 0) && !decide (mb k < pat) && !decide (cntc B k (some k) = 0)
section SEAT
variable {vc vo : Nat → Int32} {B : Nat → Option Nat} {pl out : Int32} {pls mb : Nat → Int32} {P : Nat} {z1 z2 z3 z4 : Int32}
theorem t_plays {k : Nat} {Q : Int32 → Prop} (hk : k < 6) (h : Q (bi (bitB pl k))) : wp_X4_plays z1 pl z3 z4 (nI k) Q := by
  unfold wp_X4_plays
  exact t_isCamp hk (br_f (by decide) (bd' h))
theorem t_dropped {k : Nat} {Q : Int32 → Prop} (hk : k < 6) (h : Q (bi (bitB out k))) : wp_X4_hasDroppedOut z1 z2 out z4 (nI k) Q := by
  unfold wp_X4_hasDroppedOut
  exact t_isCamp hk (br_f (by decide) (bd' h))
theorem t_isPlaced {k : Nat} {Q : Int32 → Prop} (hP : P ≤ 6) (h : Q (bi (plcd pls P k))) : wp_X4_isPlaced (nI P) z2 z3 z4 pls (nI k) Q := by
  unfold wp_X4_isPlaced
  intro R hR
  refine upL (P := fun (_ : Unit) i => R i) (fun i _ => anyN (fun i => decide (pls i = nI k)) i = false) P (fun _ hv => hR _ ?_) (fun i _ hi hv ih => hR _ ?_) 0 (by omega) () rfl
  · unfold wb_X4_isPlaced_2
    refine pk_le P P (fun _ => ?_) (fun z => absurd z (by omega))
    rw [show plcd pls P k = false from hv] at h
    exact h
  · unfold wb_X4_isPlaced_2
    refine pk_le P i (fun z => absurd z (by omega)) (fun _ => pk_le 6 i (fun z => absurd z (by omega)) (fun _ => ⟨vp_in_nI (by omega) (by omega), ?_⟩))
    rw [nI_clamp (n := i) (by omega)]
    refine ⟨fun e => ih () ?_, fun e => ?_⟩
    · show (anyN _ i || decide (pls i = nI k)) = false
      rw [hv, decide_eq_false e]; rfl
    · rw [show plcd pls P k = true from anyN_t (decide_eq_true e) hi] at h
      exact h
theorem t_isStillIn {k : Nat} {Q : Int32 → Prop} (hk : k < 6) (hP : P ≤ 6) (h : Q (bi (inB pl out pls P k))) : wp_X4_isStillIn (nI P) pl out z4 pls (nI k) Q := by
  unfold wp_X4_isStillIn
  refine t_plays hk (bb' (fun e => t_dropped hk (bb (fun e2 => ?_) (fun e2 => t_isPlaced hP (bb (fun e3 => ?_) (fun e3 => ?_))))) (fun e => ?_))
  · rw [in_n2 e2] at h; exact h
  · rw [in_n3 e3] at h; exact h
  · rw [in_of e e2 e3] at h; exact h
  · rw [in_n1 e] at h; exact h
theorem t_countInCamp {a : Nat} {o : Option Nat} {Q : Int32 → Prop} (hcv : CPA vc) (hv : BD vo B) (hB : BK B) (ha : a < 6) (ho : ob 6 o) (h : Q (nI (cntc B a o))) : wp_X1_countInCamp vc vo (nI a) (oi o) Q := by
  unfold wp_X1_countInCamp
  intro R hR
  refine upL (P := fun v i => R v i) (fun i v => v = nI (cnt (fun x => decide (cp x = some a) && decide (B x = o)) i)) 121 (fun v hv => hR _ _ ?_) (fun i v hi hv9 ih => hR _ _ ?_) 0 (by omega) 0 rfl
  · unfold wb_X1_countInCamp_5
    rw [hv]
    exact pk_le 121 121 (fun _ => h) (fun z => absurd z (by omega))
  · unfold wb_X1_countInCamp_5
    subst hv9
    have hab : ob 6 (some a) := ob_some ha
    refine pk_le 121 i (fun z => absurd z (by omega)) (fun _ => t_camp hcv hi (bo_eq' (cp_ob hi) hab rfl rfl (fun e => ⟨vp_in_nI hi (by omega), ?_⟩) (fun e => ih _ ?_)))
    · rw [nI_clamp (n := i) (by omega), hv i hi]
      refine bo_eq' (hB i hi) ho rfl rfl (fun e2 => ih _ ?_) (fun e2 => ih _ ?_)
      · rw [cnt_t (by show (_ && _) = true; rw [decide_eq_true e, decide_eq_true e2]; rfl), ← nI_1]
      · rw [cnt_f (by show (_ && _) = false; rw [decide_eq_false e2, Bool.and_false])]
    · rw [cnt_f (by show (_ && _) = false; rw [decide_eq_false e, Bool.false_and])]
theorem t_fillsGoal {k : Nat} {fill : Int32} {Q : Int32 → Prop} (hcv : CPA vc) (hv : BD vo B) (hB : BK B) (hk : k < 6) (h : Q (bi (filB B k fill))) : wp_X4_fillsGoal vc vo z1 z2 z3 z4 (nI k) fill Q := by
  unfold wp_X4_fillsGoal
  have hg : (k + 3) % 6 < 6 := by omega
  have hl := cntc_le B ((k + 3) % 6) none
  refine t_goalOf hk (t_countInCamp (o := none) hcv hv hB hg ob_none ⟨fun e => ?_, fun e => t_countInCamp (o := some k) hcv hv hB hg (ob_some hk) ⟨fun e2 => ?_, fun e2 => ?_⟩⟩)
  · rw [show filB B k fill = false by
      unfold filB
      rw [decide_eq_false (fun z => e (by rw [z]; rfl))]; rfl] at h
    exact h
  · rw [show filB B k fill = false by
      unfold filB
      rw [decide_eq_true e2, Bool.not_true, Bool.and_false]] at h
    exact h
  · have e3 : cntc B ((k + 3) % 6) none = 0 := nI_inj (by omega) (by omega) (show _ = nI 0 from e)
    rw [show filB B k fill = true by
      unfold filB
      rw [decide_eq_false e2, decide_eq_true e3]; rfl] at h
    exact h
theorem t_isTooLate {k : Nat} {pat : Int32} {Q : Int32 → Prop} (hcv : CPA vc) (hv : BD vo B) (hB : BK B) (hk : k < 6) (h : Q (bi (lateB mb pat B k))) : wp_X4_isTooLate vc vo z1 z2 z3 z4 mb (nI k) pat Q := by
  unfold wp_X4_isTooLate
  have hl := cntc_le B k (some k)
  refine ⟨fun e => ?_, fun e => t_isCamp hk (br_f (by decide) ⟨vp_in_nI hk (by omega), ?_⟩)⟩
  · rw [show lateB mb pat B k = false by
      unfold lateB
      rw [decide_eq_true e]; rfl] at h
    exact h
  · rw [nI_clamp (n := k) (by omega)]
    refine ⟨fun e2 => ?_, fun e2 => t_countInCamp (o := some k) hcv hv hB hk (ob_some hk) (pk_le (cntc B k (some k)) 0 (fun e3 => ?_) (fun e3 => ?_))⟩
    · rw [show lateB mb pat B k = false by
        unfold lateB
        rw [decide_eq_false e, decide_eq_true e2]; rfl] at h
      exact h
    · rw [show lateB mb pat B k = false by
        unfold lateB
        rw [decide_eq_false e, decide_eq_false e2, decide_eq_true (show cntc B k (some k) = 0 by omega)]; rfl] at h
      exact h
    · rw [show lateB mb pat B k = true by
        unfold lateB
        rw [decide_eq_false e, decide_eq_false e2, decide_eq_false (show ¬ cntc B k (some k) = 0 by omega)]; rfl] at h
      exact h
/-- the finishers' places: distinct players -/
def PLD (pls : Nat → Int32) (P : Nat) : Prop := ∃ f : Nat → Nat, (∀ i, i < P → pls i = nI (f i) ∧ f i < 6) ∧ ∀ i j, i < P → j < P → f i = f j → i = j
theorem PLD_room {k : Nat} (h : PLD pls P) (hk : k < 6) (hn : plcd pls P k = false) : P < 6 ∧ PLD (upd pls P (nI k)) (P + 1) := by
  obtain ⟨f, h1, h2⟩ := h
  have hne : ∀ i, i < P → f i ≠ k := fun i hi e => by
    have h3 := anyN_f hn i hi
    rw [decide_eq_true (by rw [(h1 i hi).1, e])] at h3
    cases h3
  have a1 : ∀ i, i < P + 1 → fu f P k i < 6 := fun i hi => by
    by_cases e : i = P
    · rw [e, fu_s]; exact hk
    · rw [fu_n e]; exact (h1 i (by omega)).2
  have a2 : ∀ i j, i < P + 1 → j < P + 1 → fu f P k i = fu f P k j → i = j := fun i j hi hj e => by
    by_cases e1 : i = P <;> by_cases e2 : j = P
    · omega
    · rw [e1, fu_s, fu_n e2] at e; exact absurd e.symm (hne j (by omega))
    · rw [e2, fu_s, fu_n e1] at e; exact absurd e (hne i (by omega))
    · rw [fu_n e1, fu_n e2] at e; exact h2 i j (by omega) (by omega) e
  refine ⟨by have := pigeon 6 (P + 1) _ a1 a2; omega, fu f P k, fun i hi => ⟨?_, a1 i hi⟩, a2⟩
  show (if i = P then _ else pls i) = _
  by_cases e : i = P
  · rw [if_pos e, e, fu_s]
  · rw [if_neg e, fu_n e]; exact (h1 i (by omega)).1
theorem PLD_le {P' : Nat} (h : PLD pls P) (h2 : P' ≤ P) : PLD pls P' := by
  obtain ⟨f, h1, h3⟩ := h
  exact ⟨f, fun i hi => h1 i (by omega), fun i j hi hj e => h3 i j (by omega) (by omega) e⟩
/-- what the finishers' round leaves: how many, and their places -/
def finS (pl out fill : Int32) (B : Nat → Option Nat) (z : Nat × (Nat → Int32)) : Nat → Nat × (Nat → Int32)
  | 0 => z
  | k + 1 => if inB pl out (finS pl out fill B z k).2 (finS pl out fill B z k).1 k && filB B k fill then ((finS pl out fill B z k).1 + 1, upd (finS pl out fill B z k).2 (finS pl out fill B z k).1 (nI k)) else finS pl out fill B z k
theorem finS_t {fill : Int32} {z y : Nat × (Nat → Int32)} {k : Nat} (e : finS pl out fill B z k = y) (h1 : inB pl out y.2 y.1 k = true) (h2 : filB B k fill = true) : finS pl out fill B z (k + 1) = (y.1 + 1, upd y.2 y.1 (nI k)) := by
  subst e
  exact if_pos (by rw [h1, h2]; rfl)
theorem finS_f {fill : Int32} {z y : Nat × (Nat → Int32)} {k : Nat} (e : finS pl out fill B z k = y) (h : ¬ (inB pl out y.2 y.1 k = true ∧ filB B k fill = true)) : finS pl out fill B z (k + 1) = y := by
  subst e
  exact if_neg (by rw [Bool.and_eq_true]; exact h)
theorem finS_ok {fill : Int32} {z : Nat × (Nat → Int32)} (h : PLD z.2 z.1) (hP : z.1 ≤ 6) : ∀ k, k ≤ 6 → PLD (finS pl out fill B z k).2 (finS pl out fill B z k).1 ∧ (finS pl out fill B z k).1 ≤ 6 ∧ z.1 ≤ (finS pl out fill B z k).1
  | 0, _ => ⟨h, hP, Nat.le_refl _⟩
  | k + 1, hk => by
    obtain ⟨a1, a2, a3⟩ := finS_ok h hP k (by omega)
    by_cases e : inB pl out (finS pl out fill B z k).2 (finS pl out fill B z k).1 k = true ∧ filB B k fill = true
    · obtain ⟨b1, b2⟩ := PLD_room a1 (show k < 6 by omega) (in_all e.1).2.2
      rw [finS_t rfl e.1 e.2]
      exact ⟨b2, by show _ + 1 ≤ 6; omega, by show _ ≤ _ + 1; omega⟩
    · rw [finS_f rfl e]
      exact ⟨a1, a2, a3⟩
theorem t_placeFinishers {fill : Int32} {Q : Int32 → (Nat → Int32) → Prop} (hcv : CPA vc) (hv : BD vo B) (hB : BK B) (hD : PLD pls P) (hP : P ≤ 6) (h : Q (nI (finS pl out fill B (P, pls) 6).1) (finS pl out fill B (P, pls) 6).2) : wp_X4_placeFinishers vc vo (nI P) pl out z4 pls fill Q := by
  unfold wp_X4_placeFinishers
  intro R hR
  refine upL (P := fun (z : Int32 × (Nat → Int32)) i => R z.1 z.2 i) (fun i z => z = (nI (finS pl out fill B (P, pls) i).1, (finS pl out fill B (P, pls) i).2)) 6 (fun z hz => hR _ _ _ ?_) (fun i z hi hz ih => hR _ _ _ ?_) 0 (by omega) (nI P, pls) rfl
  · unfold wb_X4_placeFinishers_2
    subst hz
    exact pk_le 6 6 (fun _ => h) (fun z => absurd z (by omega))
  · unfold wb_X4_placeFinishers_2
    subst hz
    obtain ⟨a1, a2, -⟩ := finS_ok (pl := pl) (out := out) (fill := fill) (B := B) (z := (P, pls)) hD hP i (by omega)
    generalize hy : finS pl out fill B (P, pls) i = y at a1 a2 ih ⊢
    have no : ¬ (inB pl out y.2 y.1 i = true ∧ filB B i fill = true) → R (nI y.1) y.2 (nI i + 1) := fun z => ih (nI y.1, y.2) (by rw [finS_f hy z])
    refine pk_le 6 i (fun z => absurd z (by omega)) (fun _ => t_isStillIn hi a2 (bb' (fun e => t_fillsGoal hcv hv hB hi (bb' (fun e2 => ?_) (fun e2 => no (fun z => by rw [e2] at z; cases z.2)))) (fun e => no (fun z => by rw [e] at z; cases z.1))))
    have b1 := (PLD_room a1 hi (in_all e).2.2).1
    refine pk_le 6 y.1 (fun z => absurd z (by omega)) (fun _ => ⟨vp_in_nI b1 (by omega), ?_⟩)
    rw [nI_clamp (n := y.1) (by omega), nI_1]
    exact ih (nI (y.1 + 1), upd y.2 y.1 (nI i)) (by rw [finS_t hy e e2])
/-- who is on turn after n tries, and who is out -/
def goS (pl pat : Int32) (mb pls : Nat → Int32) (P : Nat) (B : Nat → Option Nat) (t : Nat) (out : Int32) : Nat → Int32 × Option Nat
  | 0 => (out, none)
  | n + 1 => match (goS pl pat mb pls P B t out n).2 with
    | some k => ((goS pl pat mb pls P B t out n).1, some k)
    | none => if inB pl (goS pl pat mb pls P B t out n).1 pls P ((t + (n + 1)) % 6) then (if lateB mb pat B ((t + (n + 1)) % 6) then ((goS pl pat mb pls P B t out n).1 ||| ((1 : Int32) <<< (nI ((t + (n + 1)) % 6) &&& 31)), none) else ((goS pl pat mb pls P B t out n).1, some ((t + (n + 1)) % 6))) else ((goS pl pat mb pls P B t out n).1, none)
variable {pat : Int32} {t : Nat}
theorem goS_s {n k : Nat} {o : Int32} (e : goS pl pat mb pls P B t out n = (o, some k)) : goS pl pat mb pls P B t out (n + 1) = (o, some k) := by
  unfold goS
  rw [e]
theorem goS_no {n : Nat} {o : Int32} (e : goS pl pat mb pls P B t out n = (o, none)) (h : inB pl o pls P ((t + (n + 1)) % 6) = false) : goS pl pat mb pls P B t out (n + 1) = (o, none) := by
  unfold goS
  rw [e]
  dsimp only
  rw [if_neg (by rw [h]; decide)]
theorem goS_late {n : Nat} {o : Int32} (e : goS pl pat mb pls P B t out n = (o, none)) (h : inB pl o pls P ((t + (n + 1)) % 6) = true) (h2 : lateB mb pat B ((t + (n + 1)) % 6) = true) : goS pl pat mb pls P B t out (n + 1) = (o ||| ((1 : Int32) <<< (nI ((t + (n + 1)) % 6) &&& 31)), none) := by
  unfold goS
  rw [e]
  dsimp only
  rw [if_pos h, if_pos h2]
theorem goS_yes {n : Nat} {o : Int32} (e : goS pl pat mb pls P B t out n = (o, none)) (h : inB pl o pls P ((t + (n + 1)) % 6) = true) (h2 : lateB mb pat B ((t + (n + 1)) % 6) = false) : goS pl pat mb pls P B t out (n + 1) = (o, some ((t + (n + 1)) % 6)) := by
  unfold goS
  rw [e]
  dsimp only
  rw [if_pos h, if_neg (by rw [h2]; decide)]
theorem goS_up {n k : Nat} {o : Int32} (e : goS pl pat mb pls P B t out n = (o, some k)) : ∀ j, goS pl pat mb pls P B t out (n + j) = (o, some k)
  | 0 => e
  | j + 1 => goS_s (goS_up e j)
theorem goS_cases (o : Int32) (n : Nat) (e : goS pl pat mb pls P B t out n = (o, none)) : inB pl o pls P ((t + (n + 1)) % 6) = false ∨ (inB pl o pls P ((t + (n + 1)) % 6) = true ∧ lateB mb pat B ((t + (n + 1)) % 6) = true) ∨ (inB pl o pls P ((t + (n + 1)) % 6) = true ∧ lateB mb pat B ((t + (n + 1)) % 6) = false) := by
  cases inB pl o pls P ((t + (n + 1)) % 6) with
  | false => exact Or.inl rfl
  | true => cases lateB mb pat B ((t + (n + 1)) % 6) with
    | true => exact Or.inr (Or.inl ⟨rfl, rfl⟩)
    | false => exact Or.inr (Or.inr ⟨rfl, rfl⟩)
/-- whoever gets the turn plays -/
theorem goS_ok : ∀ n k, (goS pl pat mb pls P B t out n).2 = some k → k < 6 ∧ bitB pl k = true
  | 0, k, h => by cases h
  | n + 1, k, h => by
    cases e : goS pl pat mb pls P B t out n with
    | mk o u =>
      cases u with
      | some k' =>
        rw [goS_s e] at h
        cases h
        exact goS_ok n k (by rw [e])
      | none =>
        rcases goS_cases o n e with h1 | ⟨h1, h2⟩ | ⟨h1, h2⟩
        · rw [goS_no e h1] at h; cases h
        · rw [goS_late e h1 h2] at h; cases h
        · rw [goS_yes e h1 h2] at h; cases h; exact ⟨by omega, (in_all h1).1⟩
theorem rem6 (a b : Nat) (h : a + b < 2 ^ 31) : (nI a + nI b) - (nI a + nI b) / (6 : Int32) * (6 : Int32) = nI ((a + b) % 6) := by
  rw [nI_add, show (6 : Int32) = nI 6 from rfl]
  exact pk_rem (by omega) (by omega) (by omega)
theorem t_goOn {Q : Int32 → Int32 → Prop} (hcv : CPA vc) (hv : BD vo B) (hB : BK B) (hP : P ≤ 6) (ht : t < 6) (h : Q (goS pl pat mb pls P B t out 6).1 (oi (goS pl pat mb pls P B t out 6).2)) : wp_X4_goOn vc vo (nI P) pl out (nI t) mb pls pat Q := by
  unfold wp_X4_goOn
  intro R hR
  have fin : ∀ n o k, n ≤ 6 → k < 6 → goS pl pat mb pls P B t out n = (o, some k) → R o (nI k) (nI n + 1) := fun n o k hn hk e => by
    have e6 := goS_up e (6 - n)
    rw [show n + (6 - n) = 6 by omega] at e6
    rw [e6] at h
    refine hR _ _ _ ?_
    unfold wb_X4_goOn_12
    rw [nI_1]
    refine pk_lt 6 (n + 1) (fun _ => h) (fun _ => ⟨fun _ => h, fun z => absurd z (nI_m1 (by omega))⟩)
  have key := upL (P := fun (z : Int32 × Int32) i => R z.1 z.2 (i + 1)) (fun i z => z.2 = -1 ∧ goS pl pat mb pls P B t out i = (z.1, none)) 6 (fun z hz => hR _ _ _ ?_) (fun i z hi hz ih => hR _ _ _ ?_) 0 (by omega) (out, -1) ⟨rfl, rfl⟩
  · rw [nI_1] at key; exact key
  · unfold wb_X4_goOn_12
    rw [nI_1]
    rw [hz.2] at h
    rw [hz.1]
    exact pk_lt 6 7 (fun _ => h) (fun z => absurd z (by omega))
  · unfold wb_X4_goOn_12
    obtain ⟨o, tt⟩ := z
    obtain ⟨h1, h2⟩ := hz
    dsimp only at h1 h2 ⊢
    subst h1
    have hk : (t + (i + 1)) % 6 < 6 := by omega
    rw [nI_1, rem6 t (i + 1) (by omega)]
    refine pk_lt 6 (i + 1) (fun z => absurd z (by omega)) (fun _ => ⟨fun z => absurd rfl z, fun _ => t_isStillIn hk hP (bb (fun e => t_isTooLate hcv hv hB hk (bb' (fun e2 => ?_) (fun e2 => ?_))) (fun e => ?_))⟩)
    · rw [← nI_1]
      exact ih (_, -1) ⟨rfl, goS_late h2 e e2⟩
    · exact fin (i + 1) o _ (by omega) hk (goS_yes h2 e e2)
    · rw [← nI_1]
      exact ih (o, -1) ⟨rfl, goS_no h2 e⟩
end SEAT
