/-! CELLS by row and column; small calls on both sides -/
def fcN (r : Nat) : Nat := ([0, 1, 3, 6, 10, 23, 35, 46, 56, 65, 75, 86, 98, 111, 115, 118, 120, 121] : List Nat).getD r 0
def fkN (r : Nat) : Nat := ([12, 11, 10, 9, 0, 1, 2, 3, 4, 3, 2, 1, 0, 9, 10, 11, 12] : List Nat).getD r 0
theorem fc_all : ((List.range 18).all fun r => tb_FIRST_CELL r == nI (fcN r)) = true := by decide +kernel
theorem fk_all : ((List.range 17).all fun r => tb_FIRST_COLUMN r == nI (fkN r)) = true := by decide +kernel
theorem cell_of : ((List.range 17).all fun r => decide (fcN r ≤ fcN (r + 1)) && decide (fkN r + 2 * (fcN (r + 1) - fcN r) ≤ 26) && (List.range 26).all fun k => if fkN r ≤ k ∧ k < fkN r + 2 * (fcN (r + 1) - fcN r) ∧ (k - fkN r) % 2 = 0 then decide (fcN r + (k - fkN r) / 2 < 121) && decide (rw_ (fcN r + (k - fkN r) / 2) = r) && decide (cw_ (fcN r + (k - fkN r) / 2) = k) else true) = true := by decide +kernel
theorem of_cell : ((List.range 121).all fun c => decide (rw_ c < 17) && decide (fkN (rw_ c) ≤ cw_ c) && decide (cw_ c < fkN (rw_ c) + 2 * (fcN (rw_ c + 1) - fcN (rw_ c))) && decide ((cw_ c - fkN (rw_ c)) % 2 = 0) && decide (fcN (rw_ c) + (cw_ c - fkN (rw_ c)) / 2 = c)) = true := by decide +kernel
theorem of_cell' {c : Nat} (hc : c < 121) : rw_ c < 17 ∧ fkN (rw_ c) ≤ cw_ c ∧ cw_ c < fkN (rw_ c) + 2 * (fcN (rw_ c + 1) - fcN (rw_ c)) ∧ (cw_ c - fkN (rw_ c)) % 2 = 0 ∧ fcN (rw_ c) + (cw_ c - fkN (rw_ c)) / 2 = c := by
  have h := all_lt of_cell hc
  simp only [Bool.and_eq_true, decide_eq_true_eq] at h
  exact ⟨h.1.1.1.1, h.1.1.1.2, h.1.1.2, h.1.2, h.2⟩
theorem cell_inj {a b : Nat} (ha : a < 121) (hb : b < 121) (h1 : rw_ a = rw_ b) (h2 : cw_ a = cw_ b) : a = b := by
  have e1 := (of_cell' ha).2.2.2.2
  have e2 := (of_cell' hb).2.2.2.2
  rw [h1, h2] at e1
  exact e1.symm.trans e2
theorem t_cellIn {Q : Int32 → Prop} (x0 x1 : Int32) (h1 : ∀ c, c < 121 → x0 = nI (rw_ c) → x1 = nI (cw_ c) → Q (nI c)) (h0 : (∀ c, c < 121 → ¬ (x0 = nI (rw_ c) ∧ x1 = nI (cw_ c))) → Q (-1)) : wp_X5_cellIn x0 x1 Q := by
  unfold wp_X5_cellIn
  have big : ∀ c, c < 121 → rw_ c < 17 := fun c hc => (of_cell' hc).1
  refine br_c (fun a => h0 (fun c hc e => ?_)) (fun a => br_c (fun b => ?_) (fun b => h0 (fun c hc e => ?_)))
  · rw [e.1] at a; have := big c hc; exact nI_pos (by omega) a
  · rcases pk_ix x0 (n := 17) (by omega) with h | h | ⟨r, hr, e⟩
    · exact absurd h a
    · exact absurd b (fun z => by
        rw [Int32.lt_iff_toInt_lt, show (17 : Int32).toInt = 17 from by decide] at z
        rw [Int32.le_iff_toInt_le, nI_toInt (by omega)] at h
        omega)
    · subst e
      have hcf := all_lt cell_of hr
      rw [Bool.and_eq_true, Bool.and_eq_true, decide_eq_true_eq, decide_eq_true_eq] at hcf
      obtain ⟨⟨f1, f2⟩, f3⟩ := hcf
      have ek := eq_of_beq (all_lt fk_all hr)
      have ec := eq_of_beq (all_lt fc_all (show r < 18 by omega))
      have ec1 := eq_of_beq (all_lt fc_all (show r + 1 < 18 by omega))
      refine ⟨vp_in_nI hr (by omega), by rw [nI_1]; exact vp_in_nI (by omega) (by omega), vp_in_nI (by omega) (by omega), ?_⟩
      rw [nI_1, nI_clamp (n := r) (by omega), nI_clamp (n := r + 1) (by omega), ek, ec, ec1, pk_sub f1, show (2 : Int32) = nI 2 from rfl, pk_mul, nI_add]
      have no : (∀ k, k < 26 → x1 = nI k → ¬ (fkN r ≤ k ∧ k < fkN r + 2 * (fcN (r + 1) - fcN r) ∧ (k - fkN r) % 2 = 0)) → Q (-1) := fun hno => h0 (fun c hc e => by
        obtain ⟨k1, k2, k3, k4, k5⟩ := of_cell' hc
        have er : r = rw_ c := nI_inj (by omega) (by omega) e.1
        subst er
        exact hno (cw_ c) (by omega) e.2 ⟨k2, k3, k4⟩)
      refine br_c (fun z => no (fun k hk e hh => ?_)) (fun z => br_c (fun y => no (fun k hk e hh => ?_)) (fun y => ?_))
      · rw [e] at z; exact nI_nlt hh.1 (by omega) z
      · rw [e] at y; exact nI_ge hh.2.1 (by omega) y
      · have hx : ∃ k, k < 26 ∧ x1 = nI k ∧ fkN r ≤ k ∧ k < fkN r + 2 * (fcN (r + 1) - fcN r) := by
          rw [Int32.lt_iff_toInt_lt, nI_toInt (by omega)] at z
          rw [Int32.le_iff_toInt_le, nI_toInt (by omega)] at y
          refine ⟨x1.toInt.toNat, by omega, ?_, by omega, by omega⟩
          apply Int32.toInt_inj.mp
          rw [nI_toInt (by omega)]
          omega
        obtain ⟨k, hk, e, q1, q2⟩ := hx
        subst e
        rw [pk_sub q1, pk_rem (a := k - fkN r) (d := 2) (by omega) (by omega) (by omega), pk_div (a := k - fkN r) (d := 2) (by omega) (by omega) (by omega), nI_add]
        refine pk_eq ((k - fkN r) % 2) 0 (fun q3 => ⟨vp_in_nI (by omega) (by omega), ?_⟩) (fun q3 => no (fun k' hk' e hh => ?_))
        · have hk9 := all_lt f3 hk
          rw [if_pos ⟨q1, q2, q3⟩, Bool.and_eq_true, Bool.and_eq_true, decide_eq_true_eq, decide_eq_true_eq, decide_eq_true_eq] at hk9
          exact h1 _ hk9.1.1 (by rw [hk9.1.2]) (by rw [hk9.2])
        · have ekk : k = k' := nI_inj (by omega) (by omega) e
          subst ekk
          exact q3 hh.2.2
  · have hb : ¬ nI (rw_ c) < 17 := by rw [← e.1]; exact b
    exact hb (nI_lt (b := 17) (big c hc) (by decide))
section SMALL
variable {z1 z2 z3 z4 z5 z6 z7 z8 : Int32} {vr vk vc vb vf : Nat → Int32} {B : Nat → Option Nat}
theorem t7_find {Q : Int32 → Prop} (hr : ROWA vr) (hk : COLA vk) (x0 x1 : Int32) (h1 : ∀ c, c < 121 → x0 = nI (rw_ c) → x1 = nI (cw_ c) → Q (nI c)) (h0 : (∀ c, c < 121 → ¬ (x0 = nI (rw_ c) ∧ x1 = nI (cw_ c))) → Q (-1)) : wp_X7_find z1 z2 z3 z4 z5 z6 z7 z8 vr vk x0 x1 Q := by
  unfold wp_X7_find
  intro R hR
  refine upL (P := fun v i => R v i) (fun i v => (∃ c, c < i ∧ x0 = nI (rw_ c) ∧ x1 = nI (cw_ c) ∧ v = nI c) ∨ (v = -1 ∧ ∀ c, c < i → ¬ (x0 = nI (rw_ c) ∧ x1 = nI (cw_ c)))) 121 (fun v hv => hR _ _ ?_) (fun i v hi hv ih => hR _ _ ?_) 0 (by omega) (-1) (Or.inr ⟨rfl, fun c hc => absurd hc (Nat.not_lt_zero c)⟩)
  · unfold wb_X7_find_5
    refine pk_le 121 121 (fun _ => ?_) (fun z => absurd z (by omega))
    rcases hv with ⟨c, a1, a2, a3, a4⟩ | ⟨a1, a2⟩
    · rw [a4]; exact h1 c a1 a2 a3
    · rw [a1]; exact h0 a2
  · unfold wb_X7_find_5
    have keep : ¬ (x0 = nI (rw_ i) ∧ x1 = nI (cw_ i)) → R v (nI i + 1) := fun hno => ih v (by
      rcases hv with ⟨c, a1, a2⟩ | ⟨a1, a2⟩
      · exact Or.inl ⟨c, by omega, a2⟩
      · refine Or.inr ⟨a1, fun c hc => ?_⟩
        by_cases e : c = i
        · subst e; exact hno
        · exact a2 c (by omega))
    refine pk_le 121 i (fun z => absurd z (by omega)) (fun _ => ⟨vp_in_nI hi (by omega), ?_⟩)
    rw [nI_clamp (n := i) (by omega), hr i hi, hk i hi]
    exact ⟨fun e => keep (fun z => e z.1.symm), fun e => ⟨vp_in_nI hi (by omega), fun e2 => keep (fun z => e2 z.2.symm), fun e2 => ih _ (Or.inl ⟨i, by omega, e.symm, e2.symm, rfl⟩)⟩⟩
theorem cell_cases (x : Int32) : (∃ c, c < 121 ∧ x = nI c) ∨ ∀ c, c < 121 → ¬ x = nI c := by
  rcases pk_ix x (n := 121) (by omega) with h | h | ⟨j, hj, e⟩
  · exact Or.inr (fun c hc e => by rw [e] at h; exact nI_pos (by omega) h)
  · exact Or.inr (fun c hc e => by rw [e] at h; exact nI_ge hc (by omega) h)
  · exact Or.inl ⟨j, hj, e⟩
theorem in_cases (N : Nat) (hN : N < 2 ^ 31) (x : Int32) : (∃ c, c < N ∧ x = nI c) ∨ ∀ c, c < N → ¬ x = nI c := by
  rcases pk_ix x (n := N) hN with h | h | ⟨j, hj, e⟩
  · exact Or.inr (fun c hc e => by rw [e] at h; exact nI_pos (by omega) h)
  · exact Or.inr (fun c hc e => by rw [e] at h; exact nI_ge hc (by omega) h)
  · exact Or.inl ⟨j, hj, e⟩
theorem t_isCell_bad {Q : Int32 → Prop} {x : Int32} (h0 : ∀ c, c < 121 → ¬ x = nI c) (h : Q 0) : wp_X6_isCell x Q := t_isCell_any x (fun c hc e => absurd e (h0 c hc)) (fun _ => h)
theorem t7_isCell_bad {Q : Int32 → Prop} {x : Int32} (h0 : ∀ c, c < 121 → ¬ x = nI c) (h : Q 0) : wp_X7_isCell x Q := t7_isCell_any x (fun c hc e => absurd e (h0 c hc)) (fun _ => h)
theorem t_isCamp_bad {Q : Int32 → Prop} {x : Int32} (h0 : ∀ c, c < 6 → ¬ x = nI c) (h : Q 0) : wp_X6_isCamp x Q := t_isCamp_any x (fun c hc e => absurd e (h0 c hc)) (fun _ => h)
theorem t7_isCamp_bad {Q : Int32 → Prop} {x : Int32} (h0 : ∀ c, c < 6 → ¬ x = nI c) (h : Q 0) : wp_X7_isIn x 0 5 Q := t7_isIn (a := 0) (b := 5) (by omega) (by omega) x (fun c _ hc e => absurd e (h0 c (by omega))) (fun _ => h)
theorem t7_isCamp {Q : Int32 → Prop} {k : Nat} (hk : k < 6) (h : Q 1) : wp_X7_isIn (nI k) 0 5 Q := t7_isIn (a := 0) (b := 5) (by omega) (by omega) (nI k) (fun _ _ _ _ => h) (fun z => absurd rfl (z k (by omega) (by omega)))
theorem t7_can0 {Q : Int32 → Int32 → Prop} (h : Q 1 0) : wp_X7_can z1 z2 z3 z4 z5 z6 z7 z8 0 Q := by
  unfold wp_X7_can
  exact ⟨fun z => absurd rfl z, fun _ => h⟩
theorem t7_canN {Q : Int32 → Int32 → Prop} {x : Int32} (hx : ¬ x = 0) (h : Q 0 x) : wp_X7_can z1 z2 z3 z4 z5 z6 z7 z8 x Q := by
  unfold wp_X7_can
  exact ⟨fun _ => h, fun z => absurd z hx⟩
theorem t7_areCells {Q : Int32 → Int32 → Prop} {a b : Nat} (ha : a < 121) (hb : b < 121) (h : Q 1 0) : wp_X7_areCells z1 z2 z3 z4 z5 z6 z7 z8 (nI a) (nI b) Q := by
  unfold wp_X7_areCells wJ_X7_areCells_20
  exact t7_isCell ha (br_f (by decide) (t7_isCell hb (br_f (by decide) (t7_can0 ⟨nb_1, h⟩))))
theorem t7_areCells_bad {Q : Int32 → Int32 → Prop} {x y : Int32} (hb : (∀ c, c < 121 → ¬ x = nI c) ∨ ∀ c, c < 121 → ¬ y = nI c) (h : Q 0 1) : wp_X7_areCells z1 z2 z3 z4 z5 z6 z7 z8 x y Q := by
  unfold wp_X7_areCells wJ_X7_areCells_20
  have hn : wp_X7_can z1 z2 z3 z4 z5 z6 z7 z8 1 (fun r_1 v => nb r_1 ∧ Q r_1 v) := t7_canN (by decide) ⟨nb_0, h⟩
  refine t7_isCell_any x (fun c hc e => br_f (by decide) ?_) (fun _ => br_t rfl hn)
  rcases hb with h1 | h1
  · exact absurd e (h1 c hc)
  · exact t7_isCell_bad h1 (br_t rfl hn)
end SMALL
/-! BEGIN -/
theorem dnL {σ : Type} {P : σ → Int32 → Prop} (I : Nat → σ → Prop) (he : ∀ s, I 0 s → P s (-1)) (hs : ∀ k s, k < 6 → I (k + 1) s → (∀ s', I k s' → P s' (nI k + -1)) → P s (nI k)) : ∀ k s, k ≤ 6 → I k s → P s (nI k + -1)
  | 0, s, _, h => by rw [show nI 0 + -1 = (-1 : Int32) from by decide]; exact he s h
  | k + 1, s, hk, h => by
    rw [show nI (k + 1) + -1 = nI k by rw [← nI_1, Int32.add_assoc, show (1 : Int32) + (-1) = 0 by decide, Int32.add_zero]]
    exact hs k s (by omega) h (fun s' h' => dnL I he hs k s' (by omega) h')
/-- the moves' counts, set back from the last player on -/
def dzj (mb : Nat → Int32) : Nat → Nat → Int32
  | 0 => mb
  | j + 1 => upd (dzj mb j) (5 - j) 0
/-- who begins, seen from the last player on -/
def tuj (pl : Int32) (T : Option Nat) : Nat → Option Nat
  | 0 => T
  | j + 1 => if bitB pl (5 - j) then some (5 - j) else tuj pl T j
theorem tuj_t {pl : Int32} {T : Option Nat} {j : Nat} (h : bitB pl (5 - j) = true) : tuj pl T (j + 1) = some (5 - j) := if_pos h
theorem tuj_f {pl : Int32} {T : Option Nat} {j : Nat} (h : bitB pl (5 - j) = false) : tuj pl T (j + 1) = tuj pl T j := if_neg (by rw [h]; decide)
theorem tuj_two (pl : Int32) (T U : Option Nat) : ∀ j, tuj pl T j = tuj pl U j ∨ ∀ i, i < j → bitB pl (5 - i) = false
  | 0 => Or.inr (fun i hi => absurd hi (Nat.not_lt_zero i))
  | j + 1 => by
    cases e : bitB pl (5 - j) with
    | true => exact Or.inl (by unfold tuj; rw [e]; rfl)
    | false =>
      rcases tuj_two pl T U j with h | h
      · exact Or.inl (by unfold tuj; rw [e]; exact h)
      · refine Or.inr (fun i hi => ?_)
        by_cases e2 : i = j
        · subst e2; exact e
        · exact h i (by omega)
theorem tuj_ok (pl : Int32) : ∀ j t, tuj pl none j = some t → t < 6 ∧ bitB pl t = true
  | 0, t, h => by cases h
  | j + 1, t, h => by
    unfold tuj at h
    by_cases e : bitB pl (5 - j) = true
    · rw [if_pos e] at h; cases h; exact ⟨by omega, e⟩
    · rw [if_neg e] at h; exact tuj_ok pl j t h
theorem tuj_ob (pl : Int32) (T : Option Nat) (hT : ob 6 T) : ∀ j, ob 6 (tuj pl T j)
  | 0 => hT
  | j + 1 => by
    unfold tuj
    split
    · exact ob_some (by omega)
    · exact tuj_ob pl T hT j
/-- the board as a game begins -/
def bgB (pl : Int32) (x : Nat) : Option Nat := match cp x with
  | none => none
  | some a => if bitB pl a then some a else none
theorem bgB_BK (pl : Int32) : BK (bgB pl) := fun x hx => by
  unfold bgB
  cases e : cp x with
  | none => exact ob_none
  | some a =>
    show ob 6 (if _ then _ else _)
    split
    · exact ob_some (cp_ob hx a e)
    · exact ob_none
theorem bgB_10 {pl : Int32} {t : Nat} (ht : t < 6) (h : bitB pl t = true) : cnt (ownB (bgB pl) t) 121 = 10 := by
  rw [← of_decide_eq_true (all_lt gl_10 ht)]
  refine cnt_ext 121 (fun x hx => ?_)
  refine bool_ext ⟨fun z => ?_, fun z => ?_⟩
  · have z1 : bgB pl x = some t := of_decide_eq_true z
    refine decide_eq_true ?_
    unfold bgB at z1
    cases e : cp x with
    | none => rw [e] at z1; cases z1
    | some a =>
      rw [e] at z1
      have z2 : (if bitB pl a then some a else none) = some t := z1
      by_cases e2 : bitB pl a = true
      · rw [if_pos e2] at z2; cases z2; rfl
      · rw [if_neg e2] at z2; cases z2
  · have z1 : cp x = some t := of_decide_eq_true z
    refine decide_eq_true ?_
    unfold bgB
    rw [z1]
    exact if_pos h
section BEGIN
variable {z1 z2 z3 z4 z5 z6 z7 z8 : Int32} {vc vb vo : Nat → Int32} {pl : Int32}
theorem BD_fill {v : Nat → Int32} {f : Nat → Option Nat} {i : Nat} {x : Int32} (h : ∀ k, k < i → v k = oi (f k)) (hx : x = oi (f i)) : ∀ k, k < i + 1 → upd v i x k = oi (f k) := fun k hk => by
  show (if k = i then _ else v k) = _
  by_cases e : k = i
  · rw [if_pos e, e]; exact hx
  · rw [if_neg e]; exact h k (by omega)
theorem t_setUp1 (hcv : CPA vc) {v0 : Nat → Int32} {Q : (Nat → Int32) → Prop} (h : ∀ v, BD v (bgB pl) → Q v) : wp_X1_setUp vc v0 pl Q := by
  unfold wp_X1_setUp
  intro R hR
  refine upL (P := fun v i => R v i) (fun i v => ∀ k, k < i → v k = oi (bgB pl k)) 121 (fun v hv => hR _ _ ?_) (fun i v hi hv ih => hR _ _ ?_) 0 (by omega) v0 (fun k hk => absurd hk (Nat.not_lt_zero k))
  · unfold wb_X1_setUp_2
    exact pk_le 121 121 (fun _ => h v hv) (fun z => absurd z (by omega))
  · unfold wb_X1_setUp_2
    have w : ∀ x, x = oi (bgB pl i) → wJ_X1_setUp_41 v (nI i) (nI i) x R := fun x hx => by
      unfold wJ_X1_setUp_41
      refine ⟨vp_in_nI hi (by omega), ?_⟩
      rw [nI_clamp (n := i) (by omega)]
      exact ih _ (BD_fill hv hx)
    refine pk_le 121 i (fun z => absurd z (by omega)) (fun _ => t_camp hcv hi (bo_m1 (cp_ob hi) (fun e => w _ ?_) (fun a e => ?_)))
    · unfold bgB; rw [e]; rfl
    · have ha := cp_ob hi a e
      rw [e]
      have eb : bgB pl i = if bitB pl a then some a else none := by unfold bgB; rw [e]
      refine ⟨fun z => w _ ?_, fun z => w _ ?_⟩
      · rw [eb, if_neg (by unfold bitB; rw [decide_eq_false (by exact z)]; decide)]; rfl
      · rw [eb, if_pos (by unfold bitB; exact decide_eq_true (by exact z))]
theorem t_setUp4 {p o t : Int32} {mb : Nat → Int32} {Q : Int32 → Int32 → Int32 → Int32 → (Nat → Int32) → Prop} (h : Q 0 pl 0 (oi (tuj pl none 6)) (dzj mb 6)) : wp_X4_setUp p z1 o t mb pl Q := by
  unfold wp_X4_setUp
  intro R hR
  have key := dnL (P := fun (z : Int32 × (Nat → Int32)) i => R z.1 z.2 i) (fun k z => z.1 = oi (tuj pl none (6 - k)) ∧ z.2 = dzj mb (6 - k)) (fun z hz => hR _ _ _ ?_) (fun k z hk hz ih => hR _ _ _ ?_) 6 (-1, mb) (Nat.le_refl _) ⟨rfl, rfl⟩
  · rw [show nI 6 + -1 = (5 : Int32) from by decide] at key; exact key
  · unfold wb_X4_setUp_22
    obtain ⟨z9, w9⟩ := z
    obtain ⟨k1, k2⟩ := hz
    dsimp only at k1 k2 ⊢
    subst k1 k2
    exact br_t (by decide) h
  · unfold wb_X4_setUp_22
    obtain ⟨z9, w9⟩ := z
    obtain ⟨k1, k2⟩ := hz
    dsimp only at k1 k2 ih ⊢
    subst k1 k2
    have e5 : 5 - (6 - (k + 1)) = k := by omega
    have e6 : 6 - k = 6 - (k + 1) + 1 := by omega
    refine br_f (nI_pos (by omega)) ⟨vp_in_nI hk (by omega), t_plays hk (bb' (fun e => ih (_, _) ⟨?_, ?_⟩) (fun e => ih (_, _) ⟨?_, ?_⟩))⟩
    · rw [e6, tuj_t (by rw [e5]; exact e), e5]; rfl
    · rw [nI_clamp (n := k) (by omega), e6]; show _ = upd (dzj mb (6 - (k + 1))) (5 - (6 - (k + 1))) 0; rw [e5]; try rfl
    · rw [e6, tuj_f (by rw [e5]; exact e)]; try rfl
    · rw [nI_clamp (n := k) (by omega), e6]; show _ = upd (dzj mb (6 - (k + 1))) (5 - (6 - (k + 1))) 0; rw [e5]; try rfl
theorem t7_many (x : Int32) {K : Int32 → Prop} (h : ∀ v, (∀ S, S < 64 → x = nI S → v = nI (cnt (fun g => S.testBit g) 6)) → K v) : wl_X7_begin_4 x K 0 0 := by
  intro R hR
  refine upL (P := fun v i => R v i) (fun i v => ∀ S, S < 64 → x = nI S → v = nI (cnt (fun g => S.testBit g) i)) 6 (fun v hv => hR _ _ ?_) (fun i v hi hv ih => hR _ _ ?_) 0 (by omega) 0 (fun S _ _ => rfl)
  · unfold wb_X7_begin_4
    exact pk_le 6 6 (fun _ => h v hv) (fun z => absurd z (by omega))
  · unfold wb_X7_begin_4
    refine pk_le 6 i (fun z => absurd z (by omega)) (fun _ => ih _ (fun S hS e => ?_))
    rw [hv S hS e, e, bitI (by omega) (by omega)]
    cases e2 : S.testBit i with
    | true => rw [cnt_t (p := fun g => S.testBit g) e2, ← nI_1]; rfl
    | false => rw [cnt_f (p := fun g => S.testBit g) e2]; exact nI_add _ 0
theorem pop_6 : ((List.range 64).all fun S => decide (cnt (fun g => S.testBit g) 6 = pop S)) = true := by decide +kernel
theorem pop_2 : ((List.range 64).all fun S => decide (pop S < 2) || (List.range 6).any fun k => S.testBit (5 - k)) = true := by decide +kernel
theorem t7_begin_board (hcv : CPA vc) {v0 : Nat → Int32} {K : (Nat → Int32) → Prop} (h : ∀ v, BD v (bgB pl) → K v) : wl_X7_begin_58 pl z2 z3 z4 z5 z6 z7 z8 vc K v0 0 := by
  intro R hR
  refine upL (P := fun v i => R v i) (fun i v => ∀ k, k < i → v k = oi (bgB pl k)) 121 (fun v hv => hR _ _ ?_) (fun i v hi hv ih => hR _ _ ?_) 0 (by omega) v0 (fun k hk => absurd hk (Nat.not_lt_zero k))
  · unfold wb_X7_begin_58
    exact pk_le 121 121 (fun _ => h v hv) (fun z => absurd z (by omega))
  · unfold wb_X7_begin_58
    have w : ∀ x, x = oi (bgB pl i) → wJ_X7_begin_92 v (nI i) (nI i) x R := fun x hx => by
      unfold wJ_X7_begin_92
      refine ⟨vp_in_nI hi (by omega), ?_⟩
      rw [nI_clamp (n := i) (by omega)]
      exact ih _ (BD_fill hv hx)
    refine pk_le 121 i (fun z => absurd z (by omega)) (fun _ => ⟨vp_in_nI hi (by omega), ?_⟩)
    rw [nI_clamp (n := i) (by omega), hcv i hi]
    cases e : cp i with
    | none =>
      unfold wp_X7_plays
      refine t7_isCamp_bad (fun c hc z => nI_m1 (by omega) z.symm) (br_t rfl (br_t rfl (w _ ?_)))
      unfold bgB; rw [e]; rfl
    | some a =>
      have ha := cp_ob hi a e
      have eb : bgB pl i = if bitB pl a then some a else none := by unfold bgB; rw [e]
      refine t7_plays ha (bb' (fun z => ⟨vp_in_nI hi (by omega), w _ ?_⟩) (fun z => w _ ?_))
      · rw [eb, if_pos z]
      · rw [eb, if_neg (by rw [z]; decide)]; rfl
theorem t7_begin_turn {T : Option Nat} {mb : Nat → Int32} {K : Int32 → (Nat → Int32) → Prop} (h : K (oi (tuj pl T 6)) (dzj mb 6)) : wl_X7_begin_101 pl z2 z3 z5 z6 z7 z8 K (oi T) mb 5 := by
  intro R hR
  have key := dnL (P := fun (z : Int32 × (Nat → Int32)) i => R z.1 z.2 i) (fun k z => z.1 = oi (tuj pl T (6 - k)) ∧ z.2 = dzj mb (6 - k)) (fun z hz => hR _ _ _ ?_) (fun k z hk hz ih => hR _ _ _ ?_) 6 (oi T, mb) (Nat.le_refl _) ⟨rfl, rfl⟩
  · rw [show nI 6 + -1 = (5 : Int32) from by decide] at key; exact key
  · unfold wb_X7_begin_101
    obtain ⟨z9, w9⟩ := z
    obtain ⟨k1, k2⟩ := hz
    dsimp only at k1 k2 ⊢
    subst k1 k2
    exact br_t (by decide) h
  · unfold wb_X7_begin_101
    obtain ⟨z9, w9⟩ := z
    obtain ⟨k1, k2⟩ := hz
    dsimp only at k1 k2 ih ⊢
    subst k1 k2
    have e5 : 5 - (6 - (k + 1)) = k := by omega
    have e6 : 6 - k = 6 - (k + 1) + 1 := by omega
    refine br_f (nI_pos (by omega)) ⟨vp_in_nI hk (by omega), t7_plays hk (bb' (fun e => ?_) (fun e => ?_))⟩
    · unfold wJ_X7_begin_129
      refine ih (_, _) ⟨?_, ?_⟩
      · rw [e6, tuj_t (by rw [e5]; exact e), e5]; rfl
      · rw [nI_clamp (n := k) (by omega), e6]; show _ = upd (dzj mb (6 - (k + 1))) (5 - (6 - (k + 1))) 0; rw [e5]; try rfl
    · unfold wJ_X7_begin_129
      refine ih (_, _) ⟨?_, ?_⟩
      · rw [e6, tuj_f (by rw [e5]; exact e)]; try rfl
      · rw [nI_clamp (n := k) (by omega), e6]; show _ = upd (dzj mb (6 - (k + 1))) (5 - (6 - (k + 1))) 0; rw [e5]; try rfl
end BEGIN
