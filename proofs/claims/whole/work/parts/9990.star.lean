/-! THE TABLES that the constructors make -/
theorem brQ {c : Prop} [Decidable c] {Q : Int32 → Prop} {a b : Int32} {A B : Prop} (h : Q (if c then a else b)) (f : Q a → A) (g : Q b → B) : (c → A) ∧ (¬ c → B) := ⟨fun z => f (by rw [if_pos z] at h; exact h), fun z => g (by rw [if_neg z] at h; exact h)⟩
def campF (x0 x1 : Int32) : Int32 := if 3 < x0 then (if x0 < 13 then (if 7 < x0 then (if x0 < 9 then -1 else (if x1 < 30 - x0 then (if x0 - 6 < x1 then -1 else 4) else 2)) else (if x1 < 14 + x0 then (if 10 - x0 < x1 then -1 else 5) else 1)) else 3) else 0
def campG (x0 x1 : Int32) : Int32 := if x0 < 4 then (if 4 ≤ x0 then 3 else 0) else (if x0 ≤ 12 then (if 8 ≤ x0 then (if x0 = 8 then -1 else (if x1 < 30 - x0 then (if x0 - 6 < x1 then -1 else 4) else 2)) else (if x1 < 14 + x0 then (if 10 - x0 < x1 then -1 else 5) else 1)) else (if 4 ≤ x0 then 3 else 0))
theorem campF_all : ((List.range 121).all fun c => campF (nI (rw_ c)) (nI (cw_ c)) == oi (cp c)) = true := by decide +kernel
theorem campG_all : ((List.range 121).all fun c => campG (nI (rw_ c)) (nI (cw_ c)) == oi (cp c)) = true := by decide +kernel
theorem t_campAmong {c : Nat} {Q : Int32 → Prop} (hc : c < 121) (h : Q (oi (cp c))) : wp_X5_campAmong (nI (rw_ c)) (nI (cw_ c)) Q := by
  rw [← eq_of_beq (all_lt campF_all hc)] at h
  unfold campF at h
  unfold wp_X5_campAmong
  exact brQ h (fun h => brQ h (fun h => brQ h (fun h => brQ h (fun h => h) (fun h => brQ h (fun h => brQ h (fun h => h) (fun h => h)) (fun h => h))) (fun h => brQ h (fun h => brQ h (fun h => h) (fun h => h)) (fun h => h))) (fun h => h)) (fun h => h)
theorem t7_campAt {c : Nat} {Q : Int32 → Prop} (hc : c < 121) (h : Q (oi (cp c))) : wp_X7_campAt (nI (rw_ c)) (nI (cw_ c)) Q := by
  rw [← eq_of_beq (all_lt campG_all hc)] at h
  unfold campG at h
  unfold wp_X7_campAt wJ_X7_campAt_11
  exact brQ h (fun h => brQ h (fun h => h) (fun h => h)) (fun h => brQ h (fun h => brQ h (fun h => (brQ h (fun h => h) (fun h => brQ h (fun h => brQ h (fun h => h) (fun h => h)) (fun h => h))).symm) (fun h => brQ h (fun h => brQ h (fun h => h) (fun h => h)) (fun h => h))) (fun h => brQ h (fun h => h) (fun h => h)))
def rsN (d : Nat) : Nat := ([1, 2, 2, 1, 0, 0] : List Nat).getD d 0
def csN (d : Nat) : Nat := ([4, 3, 1, 0, 1, 3] : List Nat).getD d 0
theorem rs_all : ((List.range 6).all fun d => tb_ROW_STEP d + 1 == nI (rsN d) && (tb_COLUMN_STEP d + 2 == nI (csN d))) = true := by decide +kernel
theorem nx_by : ((List.range 121).all fun c => (List.range 6).all fun d => (List.range 121).all fun y => !(decide (rw_ y + 1 = rw_ c + rsN d) && decide (cw_ y + 2 = cw_ c + csN d)) || decide (nxr c d = y)) = true := by decide +kernel
theorem nx_at : ((List.range 121).all fun c => (List.range 6).all fun d => decide (nxr c d = 255) || (nI (rw_ (nxr c d)) == nI (rw_ c) + tb_ROW_STEP d && (nI (cw_ (nxr c d)) == nI (cw_ c) + tb_COLUMN_STEP d))) = true := by decide +kernel
theorem nxI {c d : Nat} (hc : c < 121) (hd : d < 6) {x0 x1 : Int32} (e0 : x0 = nI (rw_ c) + tb_ROW_STEP d) (e1 : x1 = nI (cw_ c) + tb_COLUMN_STEP d) : (∀ y, y < 121 → x0 = nI (rw_ y) → x1 = nI (cw_ y) → nx c d = some y) ∧ ((∀ y, y < 121 → ¬ (x0 = nI (rw_ y) ∧ x1 = nI (cw_ y))) → nx c d = none) := by
  have hs := all_lt rs_all hd
  rw [Bool.and_eq_true] at hs
  have s0 := eq_of_beq hs.1
  have s1 := eq_of_beq hs.2
  constructor
  · intro y hy h0 h1
    have r1 := rw_lt c; have r2 := rw_lt y; have r3 := cw_lt c; have r4 := cw_lt y
    have b0 : rsN d ≤ 2 := by rcases (show d = 0 ∨ d = 1 ∨ d = 2 ∨ d = 3 ∨ d = 4 ∨ d = 5 by omega) with rfl | rfl | rfl | rfl | rfl | rfl <;> decide
    have b1 : csN d ≤ 4 := by rcases (show d = 0 ∨ d = 1 ∨ d = 2 ∨ d = 3 ∨ d = 4 ∨ d = 5 by omega) with rfl | rfl | rfl | rfl | rfl | rfl <;> decide
    have a0 : nI (rw_ y + 1) = nI (rw_ c + rsN d) := by rw [← nI_1, ← h0, e0, Int32.add_assoc, s0, nI_add]
    have a1 : nI (cw_ y + 2) = nI (cw_ c + csN d) := by rw [← nI_add, ← h1, e1, show nI 2 = (2 : Int32) from rfl, Int32.add_assoc, s1, nI_add]
    have c0 := nI_inj (by omega) (by omega) a0
    have c1 := nI_inj (by omega) (by omega) a1
    have h9 := all_lt (all_lt (all_lt nx_by hc) hd) hy
    rw [decide_eq_true c0, decide_eq_true c1] at h9
    have h8 : nxr c d = y := of_decide_eq_true h9
    unfold nx
    rw [h8, if_neg (by omega)]
  · intro hno
    unfold nx
    by_cases e : nxr c d = 255
    · rw [if_pos e]
    · have h9 := all_lt (all_lt nx_at hc) hd
      rw [decide_eq_false e, Bool.false_or, Bool.and_eq_true] at h9
      have hy := nx_ob hc hd (nxr c d) (by unfold nx; rw [if_neg e])
      exact absurd ⟨e0.trans (eq_of_beq h9.1).symm, e1.trans (eq_of_beq h9.2).symm⟩ (hno _ hy)
theorem row_of : ((List.range 17).all fun r => decide (fcN (r + 1) ≤ fcN r + 25) && decide (fcN r ≤ fcN (r + 1)) && decide (fcN (r + 1) ≤ 121) && (List.range 25).all fun j => !decide (fcN r + j < fcN (r + 1)) || (decide (rw_ (fcN r + j) = r) && decide (cw_ (fcN r + j) = fkN r + 2 * j))) = true := by decide +kernel
theorem row_of' {r : Nat} (hr : r < 17) : fcN (r + 1) ≤ fcN r + 25 ∧ fcN r ≤ fcN (r + 1) ∧ fcN (r + 1) ≤ 121 ∧ ∀ j, fcN r + j < fcN (r + 1) → rw_ (fcN r + j) = r ∧ cw_ (fcN r + j) = fkN r + 2 * j := by
  have h := all_lt row_of hr
  rw [Bool.and_eq_true, Bool.and_eq_true, Bool.and_eq_true, decide_eq_true_eq, decide_eq_true_eq, decide_eq_true_eq] at h
  refine ⟨h.1.1.1, h.1.1.2, h.1.2, fun j hj => ?_⟩
  have h2 := all_lt h.2 (show j < 25 by omega)
  rw [decide_eq_true hj, Bool.not_true, Bool.false_or, Bool.and_eq_true, decide_eq_true_eq, decide_eq_true_eq] at h2
  exact h2
/-- the tables hold what they must for the first n cells -/
def RCC (n : Nat) (v1 v2 v3 : Nat → Int32) : Prop := ∀ c, c < n → v1 c = nI (rw_ c) ∧ v2 c = nI (cw_ c) ∧ v3 c = oi (cp c)
def NXn (n : Nat) (v : Nat → Int32) : Prop := ∀ c d, c < n → d < 6 → v (6 * c + d) = oi (nx c d)
theorem RCC_add {n : Nat} {v1 v2 v3 : Nat → Int32} (h : RCC n v1 v2 v3) : RCC (n + 1) (upd v1 n (nI (rw_ n))) (upd v2 n (nI (cw_ n))) (upd v3 n (oi (cp n))) := fun c hc => by
  show (if c = n then _ else v1 c) = _ ∧ (if c = n then _ else v2 c) = _ ∧ (if c = n then _ else v3 c) = _
  by_cases e : c = n
  · subst e; rw [if_pos rfl, if_pos rfl, if_pos rfl]; exact ⟨rfl, rfl, rfl⟩
  · rw [if_neg e, if_neg e, if_neg e]; exact h c (by omega)
theorem t_star_nexts {x : Nat} (hx : x < 121) {v : Nat → Int32} (hv : NXn x v) {K : (Nat → Int32) → Prop} (hK : ∀ v, NXn (x + 1) v → K v) : wl_X5_init_106 (nI (rw_ x)) (nI x) (nI (cw_ x)) K v 0 := by
  intro R hR
  refine upL (P := fun v i => R v i) (fun i v => NXn x v ∧ ∀ d, d < i → v (6 * x + d) = oi (nx x d)) 6 (fun v hv => hR _ _ ?_) (fun i v hi hv ih => hR _ _ ?_) 0 (by omega) v ⟨hv, fun d hd => absurd hd (Nat.not_lt_zero d)⟩
  · unfold wb_X5_init_106
    refine pk_le 6 6 (fun _ => hK v (fun c d hc hd => ?_)) (fun z => absurd z (by omega))
    by_cases e : c = x
    · subst e; exact hv.2 d hd
    · exact hv.1 c d (by omega) hd
  · unfold wb_X5_init_106
    have hnx := nxI hx hi rfl rfl
    have fin : ∀ y, y = oi (nx x i) → vp_in (nI x * (6 : Int32) + nI i) 726 ∧ R (upd v (nI x * (6 : Int32) + nI i).toNatClampNeg y) (nI i + 1) := fun y hy => by
      have e : nI x * (6 : Int32) + nI i = nI (6 * x + i) := by rw [show (6 : Int32) = nI 6 from rfl, pk_mul, nI_add, Nat.mul_comm]
      rw [e, nI_clamp (n := 6 * x + i) (by omega)]
      refine ⟨vp_in_nI (by omega) (by omega), ih _ ⟨fun c d hc hd => ?_, fun d hd => ?_⟩⟩
      · show (if 6 * c + d = 6 * x + i then _ else v (6 * c + d)) = _
        rw [if_neg (by omega)]; exact hv.1 c d hc hd
      · show (if 6 * x + d = 6 * x + i then _ else v (6 * x + d)) = _
        by_cases e : d = i
        · subst e; rw [if_pos rfl]; exact hy
        · rw [if_neg (by omega)]; exact hv.2 d (by omega)
    refine pk_le 6 i (fun z => absurd z (by omega)) (fun _ => ⟨vp_in_nI hi (by omega), vp_in_nI hi (by omega), ?_⟩)
    rw [nI_clamp (n := i) (by omega)]
    refine t_cellIn _ _ (fun c hc e0 e1 => fin _ ?_) (fun hno => fin _ ?_)
    · rw [hnx.1 c hc e0 e1]; rfl
    · rw [hnx.2 hno]; rfl
theorem t_star {Q : (Nat → Int32) → (Nat → Int32) → (Nat → Int32) → (Nat → Int32) → Prop} (h : ∀ v1 v2 v3 v4, ROWA v1 → COLA v2 → CPA v3 → NXA v4 → Q v1 v2 v3 v4) : wp_X5_init Q := by
  unfold wp_X5_init wp_X5_initB
  intro R hR
  refine upL (P := fun (z : (Nat → Int32) × (Nat → Int32) × (Nat → Int32) × (Nat → Int32)) i => R z.1 z.2.1 z.2.2.1 z.2.2.2 i) (fun r z => RCC (fcN r) z.1 z.2.1 z.2.2.1 ∧ NXn (fcN r) z.2.2.2) 17 (fun z hz => hR _ _ _ _ _ ?_) (fun r z hr hz ih => hR _ _ _ _ _ ?_) 0 (by omega) ((fun _ => 0), (fun _ => 0), (fun _ => 0), (fun _ => 0)) ⟨fun c hc => absurd hc (Nat.not_lt_zero c), fun c d hc => absurd hc (Nat.not_lt_zero c)⟩
  · unfold wb_X5_init_39
    refine pk_le 17 17 (fun _ => h _ _ _ _ (fun c hc => (hz.1 c hc).1) (fun c hc => (hz.1 c hc).2.1) (fun c hc => (hz.1 c hc).2.2) (fun c d hc hd => hz.2 c d hc hd)) (fun z => absurd z (by omega))
  · unfold wb_X5_init_39
    obtain ⟨g1, g2, g3, g4⟩ := row_of' hr
    have ek := eq_of_beq (all_lt fk_all hr)
    have ec := eq_of_beq (all_lt fc_all (show r < 18 by omega))
    have ec1 := eq_of_beq (all_lt fc_all (show r + 1 < 18 by omega))
    refine pk_le 17 r (fun z => absurd z (by omega)) (fun _ => ⟨vp_in_nI (by omega) (by omega), ?_⟩)
    rw [nI_clamp (n := r) (by omega), ec]
    intro R' hR'
    refine upLo (P := fun (z : (Nat → Int32) × (Nat → Int32) × (Nat → Int32) × (Nat → Int32)) i => R' z.1 z.2.1 z.2.2.1 z.2.2.2 i) (fun j z => RCC (fcN r + j) z.1 z.2.1 z.2.2.1 ∧ NXn (fcN r + j) z.2.2.2) (fcN r) (fcN (r + 1) - fcN r) (fun z hz => hR' _ _ _ _ _ ?_) (fun j z hj hz ih' => hR' _ _ _ _ _ ?_) z hz
    · unfold wb_X5_init_51
      rw [nI_1, nI_clamp (n := r + 1) (by omega), ec1]
      refine ⟨vp_in_nI (by omega) (by omega), pk_le (fcN (r + 1)) (fcN r + (fcN (r + 1) - fcN r)) (fun _ => ?_) (fun z => absurd z (by omega))⟩
      rw [show fcN r + (fcN (r + 1) - fcN r) = fcN (r + 1) by omega] at hz
      have := ih z hz
      rw [nI_1] at this
      exact this
    · unfold wb_X5_init_51
      obtain ⟨f1, f2⟩ := g4 j (by omega)
      have hx : fcN r + j < 121 := by omega
      have vx : vp_in (nI (fcN r + j)) 121 := vp_in_nI hx (by omega)
      have ecol : nI (fkN r) + (2 : Int32) * (nI (fcN r + j) - nI (fcN r)) = nI (cw_ (fcN r + j)) := by
        rw [pk_sub (by omega), show (2 : Int32) = nI 2 from rfl, pk_mul, nI_add, f2]
        congr 1
        omega
      have er : nI r = nI (rw_ (fcN r + j)) := by rw [f1]
      have eA := nI_1 (fcN r + j)
      rw [nI_1, nI_clamp (n := r + 1) (by omega), nI_clamp (n := r) (by omega), ec1, ec, ek, ecol, er]
      refine ⟨vp_in_nI (by omega) (by omega), pk_le (fcN (r + 1)) (fcN r + j) (fun z => absurd z (by omega)) (fun _ => ⟨by rw [← er]; exact vp_in_nI hr (by omega), by rw [← er]; exact vp_in_nI (by omega) (by omega), vx, vx, t_campAmong hx ⟨vx, ?_⟩⟩)⟩
      rw [nI_clamp (n := fcN r + j) (by omega)]
      refine t_star_nexts hx hz.2 (fun v4 h4 => ?_)
      exact ih' (_, _, _, v4) ⟨RCC_add hz.1, h4⟩
