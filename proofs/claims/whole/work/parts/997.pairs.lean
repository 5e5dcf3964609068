/-! CALL BY CALL: the class and the reference answer alike -/
theorem v01 : vp_in (0 : Int32) 1 := vp_in_nI (n := 0) (by omega) (by omega)
theorem rng (a b : Nat) (hab : a ≤ b) (hb : b < 2 ^ 31) (x : Int32) : (∃ c, a ≤ c ∧ c ≤ b ∧ x = nI c) ∨ ((∀ c, a ≤ c → c ≤ b → ¬ x = nI c) ∧ (¬ x < nI a → ¬ x ≤ nI b)) := by
  by_cases h : ∃ c, a ≤ c ∧ c ≤ b ∧ x = nI c
  · exact Or.inl h
  · refine Or.inr ⟨fun c h1 h2 e => h ⟨c, h1, h2, e⟩, fun z y => ?_⟩
    rw [Int32.lt_iff_toInt_lt, nI_toInt (by omega)] at z
    rw [Int32.le_iff_toInt_le, nI_toInt hb] at y
    refine h ⟨x.toInt.toNat, by omega, by omega, ?_⟩
    apply Int32.toInt_inj.mp
    rw [nI_toInt (by omega)]
    omega
theorem nn {x : Int32} (h : ¬ x < 0) : ∃ k, k < 2 ^ 31 ∧ x = nI k := by
  rw [Int32.lt_iff_toInt_lt, show (0 : Int32).toInt = 0 from by decide] at h
  have h2 := Int32.toInt_lt x
  refine ⟨x.toInt.toNat, by omega, ?_⟩
  apply Int32.toInt_inj.mp
  rw [nI_toInt (by omega)]
  omega
section PAIRS
variable {V V2 V3 : Prop} {fill pat pl out thr : Int32} {vr vk vc vn vM rr rk vcz vnz vf vg vZ mb pls fr to tu ou pd : Nat → Int32} {r1 r2 r3 p1 p2 p3 p4 p5 p6 l1 l2 l3 l4 l5 : Nat → Int32} {vO : Nat → Int64} {B : Nat → Option Nat} {T : Option Nat} {P N : Nat} {z1 z2 z3 z4 z5 z6 z7 z8 y1 y2 y3 y4 : Int32}
theorem k_setFill {x : Int32} (hV : V) {G : Int32 → Int32 → (Nat → Int64) → Int32 → Int32 → Int32 → Prop} (h0 : G 0 x (vp_updL vO (0 : Int32).toNatClampNeg fill.toInt64) fill x 0) (h1 : G 1 fill vO 0 fill 1) : wp_L_setFill fill pat vO x (fun r5 f w => V ∧ wp_X7_setFill z1 fill z3 z4 z5 z6 z7 z8 x (fun b f2 t => G r5 f w b f2 t)) := by
  unfold wp_L_setFill wp_X6_setFill
  have bad : (∀ c, 1 ≤ c → c ≤ 10 → ¬ x = nI c) → V ∧ wp_X7_setFill z1 fill z3 z4 z5 z6 z7 z8 x (fun b f2 t => G 1 fill vO b f2 t) := fun h => ⟨hV, by
    unfold wp_X7_setFill wJ_X7_setFill_16
    exact t7_isIn (a := 1) (b := 10) (by omega) (by omega) x (fun c q1 q2 e => absurd e (h c q1 q2)) (fun _ => br_t rfl (t7_canN (by decide) ⟨fun z => absurd rfl z, fun _ => h1⟩))⟩
  rcases rng 1 10 (by omega) (by omega) x with ⟨c, q1, q2, e⟩ | ⟨q1, q2⟩
  · refine br_f (by rw [e]; exact nI_nlt q1 (by omega)) (br_t (by rw [e]; exact nI_le (b := 10) q2 (by decide)) ⟨v01, hV, ?_⟩)
    unfold wp_X7_setFill wJ_X7_setFill_16
    exact t7_isIn (a := 1) (b := 10) (by omega) (by omega) x (fun _ _ _ _ => br_f (by decide) (t7_can0 ⟨fun _ => h0, fun z => absurd z (by decide)⟩)) (fun z => absurd e (z c q1 q2))
  · exact br_c (fun _ => ⟨rfl, bad q1⟩) (fun z => br_f (q2 z) ⟨rfl, bad q1⟩)
theorem k_setPatience {x : Int32} (hV : V) {G : Int32 → Int32 → (Nat → Int64) → Int32 → Int32 → Int32 → Prop} (h0 : G 0 x (vp_updL vO (0 : Int32).toNatClampNeg pat.toInt64) pat x 0) (h1 : G 1 pat vO 0 pat 1) : wp_L_setPatience fill pat vO x (fun r5 f w => V ∧ wp_X7_setPatience z1 z2 pat z4 z5 z6 z7 z8 x (fun b f2 t => G r5 f w b f2 t)) := by
  unfold wp_L_setPatience wp_X6_setPatience
  have bad : (∀ c, 0 ≤ c → c ≤ 100 → ¬ x = nI c) → V ∧ wp_X7_setPatience z1 z2 pat z4 z5 z6 z7 z8 x (fun b f2 t => G 1 pat vO b f2 t) := fun h => ⟨hV, by
    unfold wp_X7_setPatience wJ_X7_setPatience_16
    exact t7_isIn (a := 0) (b := 100) (by omega) (by omega) x (fun c q1 q2 e => absurd e (h c q1 q2)) (fun _ => br_t rfl (t7_canN (by decide) ⟨fun z => absurd rfl z, fun _ => h1⟩))⟩
  rcases rng 0 100 (by omega) (by omega) x with ⟨c, q1, q2, e⟩ | ⟨q1, q2⟩
  · refine br_f (by rw [e]; exact nI_pos (by omega)) (br_t (by rw [e]; exact nI_le (b := 100) q2 (by decide)) ⟨v01, hV, ?_⟩)
    unfold wp_X7_setPatience wJ_X7_setPatience_16
    exact t7_isIn (a := 0) (b := 100) (by omega) (by omega) x (fun _ _ _ _ => br_f (by decide) (t7_can0 ⟨fun _ => h0, fun z => absurd z (by decide)⟩)) (fun z => absurd e (z c q1 q2))
  · exact br_c (fun _ => ⟨rfl, bad q1⟩) (fun z => br_f (q2 z) ⟨rfl, bad q1⟩)
theorem k_at {x : Int32} (hv : BD vM B) (hz : BD vZ B) (hV : V) {G : Int32 → (Nat → Int64) → Int32 → Int32 → Prop} (h0 : ∀ r : Int32, G 0 (vp_updL vO (0 : Int32).toNatClampNeg r.toInt64) r 0) (h1 : G 1 vO 0 1) : wp_L_at fill pat vM vO x (fun r5 w => V ∧ wp_X7_at z1 z2 z3 z4 z5 z6 z7 z8 vZ x (fun b t => G r5 w b t)) := by
  unfold wp_L_at wp_X6_at
  rcases cell_cases x with ⟨c, hc, rfl⟩ | hbad
  · refine t_isCell hc ⟨fun _ => t_owner hv hc ⟨v01, hV, ?_⟩, fun z => absurd z (by decide)⟩
    unfold wp_X7_at wJ_X7_at_13
    refine t7_isCell hc (br_f (by decide) (t7_can0 (br_f (by decide) ⟨vp_in_nI hc (by omega), ?_⟩)))
    rw [nI_clamp (n := c) (by omega), hz c hc]
    exact h0 _
  · refine t_isCell_bad hbad ⟨fun z => absurd rfl z, fun _ => ⟨rfl, hV, ?_⟩⟩
    unfold wp_X7_at wJ_X7_at_13
    exact t7_isCell_bad hbad (br_t rfl (t7_canN (by decide) (br_t rfl h1)))
theorem k_campOf {x : Int32} (hcv : CPA vc) (hcz : CPA vcz) (hV : V) {G : Int32 → (Nat → Int64) → Int32 → Int32 → Prop} (h0 : ∀ r : Int32, G 0 (vp_updL vO (0 : Int32).toNatClampNeg r.toInt64) r 0) (h1 : G 1 vO 0 1) : wp_L_campOf fill pat vc vO x (fun r5 w => V ∧ wp_X7_campOf z1 z2 z3 z4 z5 z6 z7 z8 vcz x (fun b t => G r5 w b t)) := by
  unfold wp_L_campOf wp_X6_campOf
  rcases cell_cases x with ⟨c, hc, rfl⟩ | hbad
  · refine t_isCell hc ⟨fun _ => t_camp hcv hc ⟨v01, hV, ?_⟩, fun z => absurd z (by decide)⟩
    unfold wp_X7_campOf wJ_X7_campOf_13
    refine t7_isCell hc (br_f (by decide) (t7_can0 (br_f (by decide) ⟨vp_in_nI hc (by omega), ?_⟩)))
    rw [nI_clamp (n := c) (by omega), hcz c hc]
    exact h0 _
  · refine t_isCell_bad hbad ⟨fun z => absurd rfl z, fun _ => ⟨rfl, hV, ?_⟩⟩
    unfold wp_X7_campOf wJ_X7_campOf_13
    exact t7_isCell_bad hbad (br_t rfl (t7_canN (by decide) (br_t rfl h1)))
theorem k_distance {x y : Int32} (hr : ROWA vr) (hk : COLA vk) (hf : FARA vf) (hV : V) (hV2 : V2) {G : Int32 → (Nat → Int64) → Int32 → Int32 → Prop} (h0 : ∀ r : Int32, G 0 (vp_updL vO (0 : Int32).toNatClampNeg r.toInt64) r 0) (h1 : G 1 vO 0 1) : wp_L_distance fill pat vr vk vO x y (fun r5 w => V ∧ V2 ∧ wp_X7_distance z1 z2 z3 z4 z5 z6 z7 z8 vf x y (fun b t => G r5 w b t)) := by
  unfold wp_L_distance wp_X6_distance
  have bad : ((∀ c, c < 121 → ¬ x = nI c) ∨ ∀ c, c < 121 → ¬ y = nI c) → V ∧ V2 ∧ wp_X7_distance z1 z2 z3 z4 z5 z6 z7 z8 vf x y (fun b t => G 1 vO b t) := fun h => ⟨hV, hV2, by
    unfold wp_X7_distance
    exact t7_areCells_bad h (br_t rfl h1)⟩
  rcases cell_cases x with ⟨a, ha, e1⟩ | hbad
  · rcases cell_cases y with ⟨b, hb, e2⟩ | hbad
    · subst e1 e2
      refine t_isCell ha (br_f (by decide) (t_isCell hb ⟨fun _ => t_steps hr hk ha hb ⟨v01, hV, hV2, ?_⟩, fun z => absurd z (by decide)⟩))
      unfold wp_X7_distance
      refine t7_areCells ha hb (br_f (by decide) ?_)
      rw [ix121, nI_clamp (by omega), hf a b ha hb]
      exact ⟨vp_in_nI (by omega) (by omega), h0 _⟩
    · rw [e1]
      refine t_isCell ha (br_f (by decide) (t_isCell_bad hbad ⟨fun z => absurd rfl z, fun _ => ⟨rfl, ?_⟩⟩))
      rw [← e1]
      exact bad (Or.inr hbad)
  · exact t_isCell_bad hbad (br_t rfl ⟨rfl, bad (Or.inl hbad)⟩)
theorem k_cellAt {x y : Int32} (hr : ROWA rr) (hk : COLA rk) (hV : V) (hV2 : V2) {G : Int32 → Int32 → Int32 → Prop} (h0 : ∀ r : Int32, G r r 0) : wp_X6_cellAt fill pat x y (fun r => V ∧ V2 ∧ wp_X7_cellAt z1 z2 z3 z4 z5 z6 z7 z8 rr rk x y (fun b t => G r b t)) := by
  unfold wp_X6_cellAt
  refine t_cellIn x y (fun c hc e1 e2 => ⟨hV, hV2, ?_⟩) (fun hno => ⟨hV, hV2, ?_⟩)
  · unfold wp_X7_cellAt
    refine t7_find hr hk x y (fun c' hc' q1 q2 => ?_) (fun hno => absurd ⟨e1, e2⟩ (hno c hc))
    have l1 := rw_lt c; have l2 := rw_lt c'; have l3 := cw_lt c; have l4 := cw_lt c'
    rw [cell_inj hc hc' (nI_inj (by omega) (by omega) (e1.symm.trans q1)) (nI_inj (by omega) (by omega) (e2.symm.trans q2))]
    exact h0 _
  · unfold wp_X7_cellAt
    exact t7_find hr hk x y (fun c' hc' q1 q2 => absurd ⟨q1, q2⟩ (hno c' hc')) (fun _ => h0 _)
theorem k_ends {x : Int32} (hcv : CPA vc) (hn : NXA vn) (hv : BD vM B) (hB : BK B) (hT : ob 6 T) (hcz : CPA vcz) (hnz : NXA vnz) (hf : FARA vf) (hz : BD vZ B) (hV : V) {G : Int32 → (Nat → Int32) → (Nat → Int32) → (Nat → Int32) → (Nat → Int64) → Int32 → Int32 → (Nat → Int32) → (Nat → Int32) → (Nat → Int32) → Prop} (h0 : ∀ (r : Int32) a1 a2 a3 b1 b2 b3, G 0 a1 a2 a3 (vp_updL vO (0 : Int32).toNatClampNeg r.toInt64) r 0 b1 b2 b3) (h1 : G 1 r1 r2 r3 vO 0 1 l1 l2 l3) : wp_L_ends fill pat vc vn vM r1 r2 r3 y1 y2 y3 (oi T) vO x (fun r5 a1 a2 a3 w => V ∧ wp_X7_ends z1 z2 z3 (oi T) z5 z6 z7 z8 vcz vnz vf vZ l1 l2 l3 x (fun b t b1 b2 b3 => G r5 a1 a2 a3 w b t b1 b2 b3)) := by
  unfold wp_L_ends wp_X6_ends wp_X4_onTurn
  rcases cell_cases x with ⟨c, hc, rfl⟩ | hbad
  · refine t_isCell hc ⟨fun _ => t_search hcv hn hv hB hT hc (fun a1 a2 a3 ha => t_countEnds ha (fun k hk => EE_ob hc hk) ⟨v01, hV, ?_⟩), fun z => absurd z (by decide)⟩
    unfold wp_X7_ends wJ_X7_ends_13
    exact t7_isCell hc (br_f (by decide) (t7_can0 (br_f (by decide) (t7_endsOf hcz hnz hf hz hB hT hc (fun b1 b2 b3 L _ _ => h0 _ _ _ _ _ _ _)))))
  · refine t_isCell_bad hbad ⟨fun z => absurd rfl z, fun _ => ⟨rfl, hV, ?_⟩⟩
    unfold wp_X7_ends wJ_X7_ends_13
    exact t7_isCell_bad hbad (br_t rfl (t7_canN (by decide) (br_t rfl h1)))
theorem t7_isIn_n {n : Nat} {k : Int32} {Q : Int32 → Prop} (hn : n ≤ 121) (hno : ∀ c, c < n → ¬ k = nI c) (h : Q 0) : wp_X7_isIn k 0 (nI n - 1) Q := by
  unfold wp_X7_isIn
  refine br_c (fun _ => h) (fun z => br_t ?_ h)
  obtain ⟨j, hj, e⟩ := nn z
  subst e
  cases n with
  | zero =>
    rw [Int32.lt_iff_toInt_lt, nI_toInt hj, show (nI 0 - 1).toInt = -1 from by decide]
    omega
  | succ m =>
    rw [nI_pred]
    refine nI_lt ?_ hj
    rcases Nat.lt_or_ge m j with q | q
    · exact q
    · exact absurd rfl (hno j (by omega))
theorem t7_endAt_loop {p : Nat → Bool} {ve : Nat → Int32} (he : ∀ k, k < 121 → ve k = bi (p k)) {r : Nat} (hr : r < 121) (hp : p r = true) {K : Int32 → Prop} (h : K (nI r)) : wl_X7_endAt_51 ve K (nI (cnt p r)) (-1) 0 := by
  intro R hR
  have hcr := cnt_le p r
  refine upL (P := fun (z : Int32 × Int32) i => R z.1 z.2 i) (fun i z => (z.2 = -1 ∧ i ≤ r ∧ z.1 = nI (cnt p r - cnt p i)) ∨ z.2 = nI r) 121 (fun z hz => hR _ _ _ ?_) (fun i z hi hz ih => hR _ _ _ ?_) 0 (by omega) (nI (cnt p r), -1) (Or.inl ⟨rfl, by omega, rfl⟩)
  · unfold wb_X7_endAt_51
    refine pk_le 121 121 (fun _ => ?_) (fun z => absurd z (by omega))
    rcases hz with ⟨_, q, _⟩ | q
    · omega
    · rw [q]; exact h
  · unfold wb_X7_endAt_51
    obtain ⟨l, f⟩ := z
    dsimp only at hz ih ⊢
    refine pk_le 121 i (fun z => absurd z (by omega)) (fun _ => ?_)
    rcases hz with ⟨q1, q2, q3⟩ | q
    · subst q1 q3
      have vi : vp_in (nI i) 121 := vp_in_nI hi (by omega)
      refine ⟨fun z => absurd rfl z, fun _ => ⟨vi, ?_⟩⟩
      unfold wJ_X7_endAt_85
      rw [nI_clamp (n := i) (by omega), he i hi]
      refine bb' (fun e => ?_) (fun e => ⟨vi, bb' (fun z => by rw [e] at z; cases z) (fun _ => ih (_, _) (Or.inl ⟨rfl, ?_, ?_⟩))⟩)
      · by_cases e2 : i = r
        · subst e2
          rw [Nat.sub_self]
          exact ⟨fun z => absurd rfl z, fun _ => ⟨vi, bb' (fun _ => ih (_, _) (Or.inr rfl)) (fun z => by rw [e] at z; cases z)⟩⟩
        · have hlt := cnt_lt (p := p) (show i < r by omega) e
          refine ⟨fun _ => ⟨vi, bb' (fun _ => ih (_, _) (Or.inl ⟨rfl, by omega, ?_⟩)) (fun z => by rw [e] at z; cases z)⟩, fun z => absurd z (nI_ne0 (by omega) (by omega))⟩
          show nI (cnt p r - cnt p i) - (1 : Int32) = _
          rw [show (1 : Int32) = nI 1 from rfl, pk_sub (by omega), cnt_t e]
          congr 1
      · rcases Nat.lt_or_ge i r with q | q
        · omega
        · have : i = r := by omega
          subst this
          rw [hp] at e; cases e
      · show nI (cnt p r - cnt p i) - (0 : Int32) = _
        rw [show (0 : Int32) = nI 0 from rfl, pk_sub (by omega), cnt_f e]
        rfl
    · subst q
      exact ⟨fun _ => h, fun z => absurd z (nI_m1 (by omega))⟩
theorem k_endAt {x k : Int32} (hcv : CPA vc) (hn : NXA vn) (hv : BD vM B) (hB : BK B) (hT : ob 6 T) (hcz : CPA vcz) (hnz : NXA vnz) (hf : FARA vf) (hz : BD vZ B) (hV : V) (hV2 : V2) {G : Int32 → (Nat → Int32) → (Nat → Int32) → (Nat → Int32) → (Nat → Int64) → Int32 → Int32 → (Nat → Int32) → (Nat → Int32) → (Nat → Int32) → Prop} (h0 : ∀ (r : Int32) a1 a2 a3 b1 b2 b3, G 0 a1 a2 a3 (vp_updL vO (0 : Int32).toNatClampNeg r.toInt64) r 0 b1 b2 b3) (h1 : ∀ a1 a2 a3 b1 b2 b3, G 1 a1 a2 a3 vO 0 1 b1 b2 b3) : wp_L_endAt fill pat vc vn vM r1 r2 r3 y1 y2 y3 (oi T) vO x k (fun r5 a1 a2 a3 w => V ∧ V2 ∧ wp_X7_endAt z1 z2 z3 (oi T) z5 z6 z7 z8 vcz vnz vf vZ l1 l2 l3 x k (fun b t b1 b2 b3 => G r5 a1 a2 a3 w b t b1 b2 b3)) := by
  unfold wp_L_endAt wp_X6_endAt wp_X4_onTurn
  rcases cell_cases x with ⟨c, hc, rfl⟩ | hbad
  · refine t_isCell hc ⟨fun _ => t_search hcv hn hv hB hT hc (fun a1 a2 a3 ha => t_end ha (fun k hk => EE_ob hc hk) (fun r hr hs e => ⟨fun _ => ⟨v01, hV, hV2, ?_⟩, fun z => absurd z (nI_m1 (by omega))⟩) (fun hno => ⟨fun z => absurd rfl z, fun _ => ⟨rfl, hV, hV2, ?_⟩⟩)), fun z => absurd z (by decide)⟩
    · unfold wp_X7_endAt wJ_X7_endAt_16 wJ_X7_endAt_34
      refine t7_isCell hc (br_f (by decide) (t7_endsOf hcz hnz hf hz hB hT hc (fun b1 b2 b3 L _ he => ?_)))
      have hlt := cnt_lt (p := isE B T c) hr hs
      have hle := cnt_le (isE B T c) 121
      subst e
      rw [show nI (cnt (isE B T c) 121) - (1 : Int32) = nI (cnt (isE B T c) 121 - 1) from by rw [show (1 : Int32) = nI 1 from rfl, pk_sub (by omega)]]
      refine t7_isIn (a := 0) (b := cnt (isE B T c) 121 - 1) (by omega) (by omega) _ (fun _ _ _ _ => br_f (by decide) (t7_can0 ⟨fun _ => ?_, fun z => absurd z (by decide)⟩)) (fun z => absurd rfl (z (cnt (isE B T c) r) (by omega) (by omega)))
      exact t7_endAt_loop he hr hs (h0 _ _ _ _ _ _ _)
    · unfold wp_X7_endAt wJ_X7_endAt_16 wJ_X7_endAt_34
      refine t7_isCell hc (br_f (by decide) (t7_endsOf hcz hnz hf hz hB hT hc (fun b1 b2 b3 L _ he => ?_)))
      refine t7_isIn_n (cnt_le _ _) (fun j hj e => ?_) (br_t rfl (t7_canN (by decide) ⟨fun z => absurd rfl z, fun _ => h1 _ _ _ _ _ _⟩))
      obtain ⟨r, q1, q2, q3⟩ := cnt_kth 121 j hj
      exact hno r q1 q2 (by rw [e, ← q3]; rfl)
  · refine t_isCell_bad hbad ⟨fun z => absurd rfl z, fun _ => ⟨rfl, hV, hV2, ?_⟩⟩
    unfold wp_X7_endAt wJ_X7_endAt_16 wJ_X7_endAt_34
    refine t7_isCell_bad hbad (br_t rfl ?_)
    exact t7_isIn_n (n := 0) (by omega) (fun c hc => absurd hc (Nat.not_lt_zero c)) (br_t rfl (t7_canN (by decide) ⟨fun z => absurd rfl z, fun _ => h1 _ _ _ _ _ _⟩))
theorem k_hops {x y : Int32} (hcv : CPA vc) (hn : NXA vn) (hv : BD vM B) (hB : BK B) (hT : ob 6 T) (hcz : CPA vcz) (hnz : NXA vnz) (hf : FARA vf) (hz : BD vZ B) (hV : V) (hV2 : V2) {G : Int32 → (Nat → Int32) → (Nat → Int32) → (Nat → Int32) → (Nat → Int64) → Int32 → Int32 → (Nat → Int32) → (Nat → Int32) → (Nat → Int32) → Prop} (h0 : ∀ (r : Int32) a1 a2 a3 b1 b2 b3, G 0 a1 a2 a3 (vp_updL vO (0 : Int32).toNatClampNeg r.toInt64) r 0 b1 b2 b3) (h1 : G 1 r1 r2 r3 vO 0 1 l1 l2 l3) : wp_L_hops fill pat vc vn vM r1 r2 r3 y1 y2 y3 (oi T) vO x y (fun r5 a1 a2 a3 w => V ∧ V2 ∧ wp_X7_hops z1 z2 z3 (oi T) z5 z6 z7 z8 vcz vnz vf vZ l1 l2 l3 x y (fun b t b1 b2 b3 => G r5 a1 a2 a3 w b t b1 b2 b3)) := by
  unfold wp_L_hops wp_X6_hops wp_X4_onTurn
  have bad : ((∀ c, c < 121 → ¬ x = nI c) ∨ ∀ c, c < 121 → ¬ y = nI c) → V ∧ V2 ∧ wp_X7_hops z1 z2 z3 (oi T) z5 z6 z7 z8 vcz vnz vf vZ l1 l2 l3 x y (fun b t b1 b2 b3 => G 1 r1 r2 r3 vO b t b1 b2 b3) := fun h => ⟨hV, hV2, by
    unfold wp_X7_hops
    exact t7_areCells_bad h (br_t rfl h1)⟩
  rcases cell_cases x with ⟨a, ha, e1⟩ | hbad
  · rcases cell_cases y with ⟨b, hb, e2⟩ | hbad
    · subst e1 e2
      refine t_isCell ha (br_f (by decide) (t_isCell hb ⟨fun _ => t_search hcv hn hv hB hT ha (fun a1 a2 a3 hq => t_hopsTo hq hb ⟨v01, hV, hV2, ?_⟩), fun z => absurd z (by decide)⟩))
      unfold wp_X7_hops
      exact t7_areCells ha hb (br_f (by decide) (t7_hopsOf hcz hnz hf hz hB hT ha hb (fun _ _ _ => h0 _ _ _ _ _ _ _)))
    · rw [e1]
      refine t_isCell ha (br_f (by decide) (t_isCell_bad hbad ⟨fun z => absurd rfl z, fun _ => ⟨rfl, ?_⟩⟩))
      rw [← e1]
      exact bad (Or.inr hbad)
  · exact t_isCell_bad hbad (br_t rfl ⟨rfl, bad (Or.inl hbad)⟩)
theorem m1_lt {k : Nat} (hk : k < 2 ^ 31) : ¬ nI k < -1 := fun z => by
  rw [Int32.lt_iff_toInt_lt, nI_toInt hk, show (-1 : Int32).toInt = -1 from by decide] at z
  omega
theorem EE_hop {a b M : Nat} (h : EE B T a b = some M) (hM : 0 < M) : hopL (land B a) a b = some M ∧ B b = none := by
  cases T with
  | none => cases h
  | some t =>
    have h' : (if B a = some t ∧ B b = none ∧ mayE t a b = true then (if dst a b = 1 then some 0 else hopL (land B a) a b) else none) = some M := h
    by_cases e : B a = some t ∧ B b = none ∧ mayE t a b = true
    · rw [if_pos e] at h'
      by_cases e2 : dst a b = 1
      · rw [if_pos e2] at h'; cases h'; omega
      · rw [if_neg e2] at h'; exact ⟨h', e.2.1⟩
    · rw [if_neg e] at h'; cases h'
theorem k_chainAt {x y h : Int32} (hcv : CPA vc) (hn : NXA vn) (hv : BD vM B) (hB : BK B) (hT : ob 6 T) (hcz : CPA vcz) (hnz : NXA vnz) (hf : FARA vf) (hz : BD vZ B) (hV : V) (hV2 : V2) (hV3 : V3) {G : Int32 → (Nat → Int32) → (Nat → Int32) → (Nat → Int32) → (Nat → Int64) → Int32 → Int32 → (Nat → Int32) → (Nat → Int32) → (Nat → Int32) → Prop} (h0 : ∀ (r : Int32) a1 a2 a3 b1 b2 b3, G 0 a1 a2 a3 (vp_updL vO (0 : Int32).toNatClampNeg r.toInt64) r 0 b1 b2 b3) (h1 : G 1 r1 r2 r3 vO 0 1 l1 l2 l3) : wp_L_chainAt fill pat vc vn vM r1 r2 r3 y1 y2 y3 (oi T) vO x y h (fun r5 a1 a2 a3 w => V ∧ V2 ∧ V3 ∧ wp_X7_chainAt z1 z2 z3 (oi T) z5 z6 z7 z8 vcz vnz vf vZ l1 l2 l3 x y h (fun b t b1 b2 b3 => G r5 a1 a2 a3 w b t b1 b2 b3)) := by
  unfold wp_L_chainAt wp_X6_chainAt wp_X4_onTurn
  have j24 : wJ_X7_chainAt_24 z1 z2 z3 (oi T) z5 z6 z7 z8 vcz vnz vf vZ l1 l2 l3 x y h 1 (fun b t b1 b2 b3 => G 1 r1 r2 r3 vO b t b1 b2 b3) := by
    unfold wJ_X7_chainAt_24
    exact t7_canN (by decide) ⟨fun z => absurd rfl z, fun _ => h1⟩
  rcases cell_cases x with ⟨a, ha, e1⟩ | hbad
  · rcases cell_cases y with ⟨b, hb, e2⟩ | hbad
    · by_cases hneg : h < 0
      · have hn0 : ¬ 0 ≤ h := fun z => by
          rw [Int32.le_iff_toInt_le] at z
          rw [Int32.lt_iff_toInt_lt] at hneg
          omega
        have e1' := e1; have e2' := e2
        rw [e1, e2]
        refine t_isCell ha (br_f (by decide) (t_isCell hb (br_f (by decide) (br_f hn0 ⟨rfl, hV, hV2, hV3, ?_⟩))))
        unfold wp_X7_chainAt
        refine t7_isCell ha (br_f (by decide) (t7_isCell hb (br_f (by decide) (br_f hn0 ?_))))
        rw [← e1, ← e2]
        exact j24
      · obtain ⟨hop, hhop, rfl⟩ := nn hneg
        subst e1 e2
        refine t_isCell ha (br_f (by decide) (t_isCell hb (br_f (by decide) (br_t (nI_pos' hhop) (t_search hcv hn hv hB hT ha (fun a1 a2 a3 hq => t_hopsTo hq hb ?_))))))
        have ref : (∀ w2 w3 w4, (EE B T a b = none → G 0 w2 w3 w4 (vp_updL vO (0 : Int32).toNatClampNeg ((-1 : Int32).toInt64)) (-1) 0 w2 w3 w4) → True) := fun _ _ _ _ => trivial
        cases hE : EE B T a b with
        | none =>
          refine br_f (m1_lt hhop) ⟨v01, hV, hV2, hV3, ?_⟩
          unfold wp_X7_chainAt wJ_X7_chainAt_24
          refine t7_isCell ha (br_f (by decide) (t7_isCell hb (br_f (by decide) (br_t (nI_pos' hhop) (t7_can0 ⟨fun _ => t7_hopsOf hcz hnz hf hz hB hT ha hb (fun _ _ _ => ?_), fun z => absurd z (by decide)⟩)))))
          rw [hE]
          exact br_t rfl (h0 _ _ _ _ _ _ _)
        | some M =>
          have hMb := EE_ob (T := T) (B := B) ha hb M hE
          refine pk_lt hop M (fun hlt => ?_) (fun hge => ⟨v01, hV, hV2, hV3, ?_⟩)
          · obtain ⟨g1, g2⟩ := EE_hop hE (by omega)
            have g3 := hop_swap ha hb g2 g1
            refine t_cellBehind hn hv hB ha hb (Or.inr g2) g3 hlt (fun _ _ => ⟨v01, hV, hV2, hV3, ?_⟩)
            unfold wp_X7_chainAt wJ_X7_chainAt_24
            refine t7_isCell ha (br_f (by decide) (t7_isCell hb (br_f (by decide) (br_t (nI_pos' hhop) (t7_can0 ⟨fun _ => t7_hopsOf hcz hnz hf hz hB hT ha hb (fun _ _ _ => ?_), fun z => absurd z (by decide)⟩)))))
            rw [hE]
            refine br_f (nI_m1 (by omega)) (br_t (nI_lt hlt (by omega)) (t7_hopsFrom hnz hz hB ha hb (fun vl vq L hL => ?_)))
            exact t7_chain hnz hz hB ha hb (Or.inr g2) g3 hlt (fun x hx => by rw [hL.2.1 x hx, hopL_eq hL.1 hx]) (h0 _ _ _ _ _ _ _)
          · unfold wp_X7_chainAt wJ_X7_chainAt_24
            refine t7_isCell ha (br_f (by decide) (t7_isCell hb (br_f (by decide) (br_t (nI_pos' hhop) (t7_can0 ⟨fun _ => t7_hopsOf hcz hnz hf hz hB hT ha hb (fun _ _ _ => ?_), fun z => absurd z (by decide)⟩)))))
            rw [hE]
            exact br_f (nI_m1 (by omega)) (br_f (nI_nlt hge hhop) (h0 _ _ _ _ _ _ _))
    · rw [e1]
      refine t_isCell ha (br_f (by decide) (t_isCell_bad hbad (br_t rfl ⟨rfl, hV, hV2, hV3, ?_⟩)))
      unfold wp_X7_chainAt
      refine t7_isCell ha (br_f (by decide) (t7_isCell_bad hbad (br_t rfl ?_)))
      rw [← e1]
      exact j24
  · refine t_isCell_bad hbad (br_t rfl ⟨rfl, hV, hV2, hV3, ?_⟩)
    unfold wp_X7_chainAt
    exact t7_isCell_bad hbad (br_t rfl j24)
theorem k_finished {x : Int32} (hV : V) {G : Int32 → (Nat → Int64) → Int32 → Int32 → Prop} (h0 : ∀ r : Int32, G 0 (vp_updL vO (0 : Int32).toNatClampNeg r.toInt64) r 0) (h1 : G 1 vO 0 1) (hP : P ≤ 6) : wp_L_finished fill pat (nI P) y2 y3 y4 pls vO x (fun r5 w => V ∧ wp_X7_finished z1 z2 z3 z4 z5 z6 (nI P) z8 pls x (fun b t => G r5 w b t)) := by
  unfold wp_L_finished wp_X6_finished
  rcases in_cases 6 (by omega) x with ⟨c, hc, rfl⟩ | hbad
  · refine t_isCamp hc ⟨fun _ => ?_, fun z => absurd z (by decide)⟩
    unfold wp_X4_playerAtPlace
    have ref : ∀ (r : Int32), (P ≤ c → r = -1) → (c < P → r = pls c) → V ∧ wp_X7_finished z1 z2 z3 z4 z5 z6 (nI P) z8 pls (nI c) (fun b t => G 0 (vp_updL vO (0 : Int32).toNatClampNeg r.toInt64) b t) := fun r q1 q2 => ⟨hV, by
      unfold wp_X7_finished wJ_X7_finished_15
      refine t7_isCamp hc (br_f (by decide) (t7_can0 (br_f (by decide) (pk_le P c (fun z => ?_) (fun z => ⟨vp_in_nI hc (by omega), ?_⟩)))))
      · have e := h0 r; rw [q1 z] at e ⊢; exact e
      · rw [nI_clamp (n := c) (by omega)]
        have e := h0 r; rw [q2 z] at e ⊢; exact e⟩
    refine br_f (nI_pos (by omega)) (pk_le P c (fun z => ⟨v01, ref (-1) (fun _ => rfl) (fun y => by omega)⟩) (fun z => br_f (nI_ge (b := 6) hc (by decide)) ⟨vp_in_nI hc (by omega), v01, ref _ (fun y => by omega) (fun _ => ?_)⟩))
    rw [nI_clamp (n := c) (by omega)]
  · refine t_isCamp_bad hbad ⟨fun z => absurd rfl z, fun _ => ⟨rfl, hV, ?_⟩⟩
    unfold wp_X7_finished wJ_X7_finished_15
    exact t7_isCamp_bad hbad (br_t rfl (t7_canN (by decide) (br_t rfl h1)))
theorem k_isOut {x : Int32} (hV : V) {G : Int32 → (Nat → Int64) → Int32 → Int32 → Prop} (h0 : ∀ b : Bool, G 0 (vp_updL vO (0 : Int32).toNatClampNeg (cond b 1 0)) (bi b) 0) (h1 : G 1 vO 0 1) : wp_L_isOut fill pat y1 y2 out y4 vO x (fun r5 w => V ∧ wp_X7_isOut z1 z2 z3 z4 z5 out z7 z8 x (fun b t => G r5 w b t)) := by
  unfold wp_L_isOut wp_X6_isOut
  rcases in_cases 6 (by omega) x with ⟨c, hc, rfl⟩ | hbad
  · have ref : ∀ b : Bool, bitB out c = b → V ∧ wp_X7_isOut z1 z2 z3 z4 z5 out z7 z8 (nI c) (fun b' t => G 0 (vp_updL vO (0 : Int32).toNatClampNeg (cond b 1 0)) b' t) := fun b e => ⟨hV, by
      unfold wp_X7_isOut wJ_X7_isOut_15
      refine t7_isCamp hc (br_f (by decide) (t7_can0 (br_f (by decide) (bd' (Q := fun r => G 0 (vp_updL vO (0 : Int32).toNatClampNeg (cond b 1 0)) r 0) ?_))))
      have h9 := h0 b
      rw [← e] at h9 ⊢
      exact h9⟩
    refine t_isCamp hc ⟨fun _ => t_dropped hc ⟨nb_bi _, bb' (fun e => ⟨v01, ref true e⟩) (fun e => ⟨v01, ref false e⟩)⟩, fun z => absurd z (by decide)⟩
  · refine t_isCamp_bad hbad ⟨fun z => absurd rfl z, fun _ => ⟨rfl, hV, ?_⟩⟩
    unfold wp_X7_isOut wJ_X7_isOut_15
    exact t7_isCamp_bad hbad (br_t rfl (t7_canN (by decide) (br_t rfl h1)))
theorem k_way {x : Int32} (hr : ROWA vr) (hk : COLA vk) (hcv : CPA vc) (hv : BD vM B) (hB : BK B) (hf : FARA vf) (hg : GCA vg) (hz : BD vZ B) (h10 : ∀ t, t < 6 → bitB pl t = true → cnt (ownB B t) 121 = 10) (hV : V) {G : Int32 → (Nat → Int32) → (Nat → Int32) → (Nat → Int32) → (Nat → Int32) → (Nat → Int64) → Int32 → Int32 → (Nat → Int32) → (Nat → Int32) → Prop} (h0 : ∀ (r : Int32) a1 a2 a3 a4 b1 b2, G 0 a1 a2 a3 a4 (vp_updL vO (0 : Int32).toNatClampNeg r.toInt64) r 0 b1 b2) (h1 : G 1 p1 p2 p3 p4 vO 0 1 l1 l2) : wp_L_way fill pat vr vk vc vM p1 p2 p3 p4 y1 pl y3 y4 vO x (fun r5 a1 a2 a3 a4 w => V ∧ wp_X7_way pl z2 z3 z4 z5 z6 z7 z8 vf vg vZ l1 l2 x (fun b t b1 b2 => G r5 a1 a2 a3 a4 w b t b1 b2)) := by
  unfold wp_L_way wp_X6_way
  rcases in_cases 6 (by omega) x with ⟨c, hc, rfl⟩ | hbad
  · refine t_isCamp hc ⟨fun _ => t_plays hc (bb' (fun e => t_leastSum hr hk hcv hv hB hc (h10 c hc e) (fun u a1 a2 a3 a4 hu => ⟨v01, hV, ?_⟩)) (fun e => ⟨v01, hV, ?_⟩)), fun z => absurd z (by decide)⟩
    · unfold wp_X7_way wJ_X7_way_15
      refine t7_isCamp hc (br_f (by decide) (t7_can0 (br_f (by decide) (t7_plays hc (br_f (by rw [e]; decide) (t7_wayOf hf hg hz hB hc (h10 c hc e) (fun u' b1 b2 hu' => ?_)))))))
      rw [leastP_eq hu' hu]
      exact h0 _ _ _ _ _ _ _
    · unfold wp_X7_way wJ_X7_way_15
      exact t7_isCamp hc (br_f (by decide) (t7_can0 (br_f (by decide) (t7_plays hc (br_t (by rw [e]; rfl) (h0 _ _ _ _ _ _ _))))))
  · refine t_isCamp_bad hbad ⟨fun z => absurd rfl z, fun _ => ⟨rfl, hV, ?_⟩⟩
    unfold wp_X7_way wJ_X7_way_15
    exact t7_isCamp_bad hbad (br_t rfl (t7_canN (by decide) (br_t rfl h1)))
theorem t_moves {Q : Int32 → (Nat → Int32) → (Nat → Int32) → (Nat → Int32) → Prop} (hcv : CPA vc) (hn : NXA vn) (hv : BD vM B) (hB : BK B) (hT : ob 6 T) (h : ∀ a1 a2 a3, Q (nI (sumN (fun c => cnt (isE B T c) 121) 121)) a1 a2 a3) : wp_X6_moves fill pat vc vn vM r1 r2 r3 y1 y2 y3 (oi T) Q := by
  unfold wp_X6_moves wp_X4_onTurn
  intro R hR
  refine upL (P := fun (z : (Nat → Int32) × (Nat → Int32) × (Nat → Int32) × Int32) i => R z.1 z.2.1 z.2.2.1 z.2.2.2 i) (fun i z => z.2.2.2 = nI (sumN (fun c => cnt (isE B T c) 121) i)) 121 (fun z hz => hR _ _ _ _ _ ?_) (fun i z hi hz ih => hR _ _ _ _ _ ?_) 0 (by omega) (r1, r2, r3, 0) rfl
  · unfold wb_X6_moves_12
    rw [hz]
    exact pk_le 121 121 (fun _ => h _ _ _) (fun z => absurd z (by omega))
  · unfold wb_X6_moves_12
    obtain ⟨a1, a2, a3, v⟩ := z
    dsimp only at hz ih ⊢
    subst hz
    have no : (T = none ∨ B i ≠ T) → R a1 a2 a3 (nI (sumN (fun c => cnt (isE B T c) 121) i)) (nI i + 1) := fun hno => ih (a1, a2, a3, _) (by
      show nI _ = nI (sumN (fun c => cnt (isE B T c) 121) i + cnt (isE B T i) 121)
      rw [cnt_0 (p := isE B T i) (n := 121) (fun g _ => by show (EE B T i g).isSome = false; rw [EE_no hno]; rfl)]
      rfl)
    refine pk_le 121 i (fun z => absurd z (by omega)) (fun _ => bo_m1 hT (fun e => no (Or.inl e)) (fun t e => t_owner hv hi (bo_eq' (hB i hi) hT rfl rfl (fun e2 => ?_) (fun e2 => no (Or.inr e2)))))
    refine t_search hcv hn hv hB hT hi (fun b1 b2 b3 hb => t_countEnds hb (fun k hk => EE_ob hi hk) (ih (b1, b2, b3, _) ?_))
    show nI _ + nI _ = nI (sumN (fun c => cnt (isE B T c) 121) i + cnt (isE B T i) 121)
    rw [nI_add]
    rfl
theorem sumN_le {g : Nat → Nat} {M : Nat} (h : ∀ c, g c ≤ M) : ∀ n, sumN g n ≤ n * M
  | 0 => by show 0 ≤ _; omega
  | n + 1 => by
    have h1 := sumN_le h n
    have h2 := h n
    show sumN g n + g n ≤ (n + 1) * M
    rw [Nat.succ_mul]
    omega
theorem k_moves (hcv : CPA vc) (hn : NXA vn) (hv : BD vM B) (hB : BK B) (hT : ob 6 T) (hcz : CPA vcz) (hnz : NXA vnz) (hf : FARA vf) (hz : BD vZ B) {G : Int32 → (Nat → Int32) → (Nat → Int32) → (Nat → Int32) → Int32 → Int32 → (Nat → Int32) → (Nat → Int32) → (Nat → Int32) → Prop} (h0 : ∀ (r : Int32) a1 a2 a3 b1 b2 b3, G r a1 a2 a3 r 0 b1 b2 b3) : wp_X6_moves fill pat vc vn vM r1 r2 r3 y1 y2 y3 (oi T) (fun r a1 a2 a3 => wp_X7_moves z1 z2 z3 (oi T) z5 z6 z7 z8 vcz vnz vf vZ l1 l2 l3 (fun b t b1 b2 b3 => G r a1 a2 a3 b t b1 b2 b3)) := by
  refine t_moves hcv hn hv hB hT (fun a1 a2 a3 => ?_)
  unfold wp_X7_moves
  exact t7_allMoves hcz hnz hf hz hB hT (fun _ _ _ => h0 _ _ _ _ _ _ _)
end PAIRS
