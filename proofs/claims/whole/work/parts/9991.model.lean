/-! THE REFERENCE'S TABLES -/
theorem row_len : ((List.range 17).all fun r => decide (fkN r = if (if r < 9 then r else 16 - r) < 4 then 12 - (if r < 9 then r else 16 - r) else (if r < 9 then r else 16 - r) - 4) && decide (fkN r + 2 * (fcN (r + 1) - fcN r) = (if (if r < 9 then r else 16 - r) < 4 then 12 + (if r < 9 then r else 16 - r) else 28 - (if r < 9 then r else 16 - r)) + 2)) = true := by decide +kernel
section MODEL
variable {z1 z2 z3 z4 z5 z6 z7 z8 : Int32}
theorem t7_row_in {r E : Nat} (hr : r < 17) (hE : fkN r + 2 * (fcN (r + 1) - fcN r) = E + 2) {K : (Nat → Int32) → (Nat → Int32) → (Nat → Int32) → Int32 → Prop} {R : (Nat → Int32) → (Nat → Int32) → (Nat → Int32) → Int32 → Int32 → Prop} (hK : ∀ v1 v2 v3, RCC (fcN (r + 1)) v1 v2 v3 → K v1 v2 v3 (nI (fcN (r + 1)))) {j : Nat} (hj : fcN r + j ≤ fcN (r + 1)) {v1 v2 v3 : Nat → Int32} (hv : RCC (fcN r + j) v1 v2 v3) (ih : fcN r + j < fcN (r + 1) → ∀ v1 v2 v3, RCC (fcN r + j + 1) v1 v2 v3 → R v1 v2 v3 (nI (fcN r + j) + 1) (nI (fkN r + 2 * j) + 2)) : wJ_X7_init_230 v1 v2 v3 (nI (fcN r + j)) (nI r) (nI (fkN r + 2 * j)) (nI (fkN r + 2 * j)) (nI E) K R := by
  obtain ⟨g1, g2, g3, g4⟩ := row_of' hr
  have hcf := all_lt cell_of hr
  rw [Bool.and_eq_true, Bool.and_eq_true, decide_eq_true_eq, decide_eq_true_eq] at hcf
  have hb26 := hcf.1.2
  unfold wJ_X7_init_230
  refine pk_lt E (fkN r + 2 * j) (fun z => ?_) (fun z => ?_)
  · have e : fcN r + j = fcN (r + 1) := by omega
    rw [e] at hv ⊢
    exact hK _ _ _ hv
  · have hlt : fcN r + j < fcN (r + 1) := by omega
    obtain ⟨f1, f2⟩ := g4 j hlt
    have hx : fcN r + j < 121 := by omega
    have vx : vp_in (nI (fcN r + j)) 121 := vp_in_nI hx (by omega)
    have i1 := ih hlt
    have ec : nI (fkN r + 2 * j) = nI (cw_ (fcN r + j)) := by rw [f2]
    have er : nI r = nI (rw_ (fcN r + j)) := by rw [f1]
    rw [ec] at i1 ⊢
    rw [er]
    refine ⟨vx, vx, t7_campAt hx ⟨vx, ?_⟩⟩
    rw [nI_clamp (n := fcN r + j) (by omega)]
    exact i1 _ _ _ (RCC_add hv)
theorem t7_rows {v1 v2 v3 : Nat → Int32} {K : (Nat → Int32) → (Nat → Int32) → (Nat → Int32) → Prop} (h : ∀ v1 v2 v3, RCC 121 v1 v2 v3 → K v1 v2 v3) : wl_X7_init_174 K v1 v2 v3 0 0 := by
  intro R hR
  refine upL (P := fun (z : (Nat → Int32) × (Nat → Int32) × (Nat → Int32) × Int32) i => R z.1 z.2.1 z.2.2.1 z.2.2.2 i) (fun r z => RCC (fcN r) z.1 z.2.1 z.2.2.1 ∧ z.2.2.2 = nI (fcN r)) 17 (fun z hz => hR _ _ _ _ _ ?_) (fun r z hr hz ih => hR _ _ _ _ _ ?_) 0 (by omega) (v1, v2, v3, 0) ⟨fun c hc => absurd hc (Nat.not_lt_zero c), rfl⟩
  · unfold wb_X7_init_174
    exact pk_le 17 17 (fun _ => h _ _ _ hz.1) (fun z => absurd z (by omega))
  · obtain ⟨w1, w2, w3, n⟩ := z
    obtain ⟨k1, k2⟩ := hz
    dsimp only at k1 k2 ih ⊢
    subst k2
    obtain ⟨g1, g2, g3, g4⟩ := row_of' hr
    have hlen := all_lt row_len hr
    rw [Bool.and_eq_true, decide_eq_true_eq, decide_eq_true_eq] at hlen
    obtain ⟨q1, q2⟩ := hlen
    have inner : ∀ k, (if r < 9 then r else 16 - r) = k → k < 17 → ∀ E, fkN r + 2 * (fcN (r + 1) - fcN r) = E + 2 → ((4 : Int32) ≤ nI k → (28 : Int32) - nI k = nI E) → (¬ (4 : Int32) ≤ nI k → (12 : Int32) + nI k = nI E) → wl_X7_init_212 (nI r) (nI k) (fun a b c n => R a b c n (nI r + 1)) w1 w2 w3 (nI (fcN r)) (nI (fkN r)) := fun k hk hk17 E hE e1 e2 => by
      intro R' hR'
      have key : ∀ m j, fcN r + j + m = fcN (r + 1) → ∀ v1 v2 v3, RCC (fcN r + j) v1 v2 v3 → R' v1 v2 v3 (nI (fcN r + j)) (nI (fkN r + 2 * j)) := by
        intro m
        induction m with
        | zero =>
          intro j hj v1 v2 v3 hv
          refine hR' _ _ _ _ _ ?_
          unfold wb_X7_init_212
          have b := t7_row_in (R := R') (K := fun a b c n => R a b c n (nI r + 1)) hr hE (fun a b c habc => ih (a, b, c, _) ⟨habc, rfl⟩) (show fcN r + j ≤ fcN (r + 1) by omega) hv (fun z => absurd z (by omega))
          exact ⟨fun z => by rw [e1 z]; exact b, fun z => by rw [e2 z]; exact b⟩
        | succ m ihm =>
          intro j hj v1 v2 v3 hv
          refine hR' _ _ _ _ _ ?_
          unfold wb_X7_init_212
          have b := t7_row_in (R := R') (K := fun a b c n => R a b c n (nI r + 1)) hr hE (fun a b c habc => ih (a, b, c, _) ⟨habc, rfl⟩) (show fcN r + j ≤ fcN (r + 1) by omega) hv (fun _ a b c habc => by
            rw [nI_1, show nI (fkN r + 2 * j) + (2 : Int32) = nI (fkN r + 2 * (j + 1)) from nI_add (fkN r + 2 * j) 2]
            exact ihm (j + 1) (by omega) a b c habc)
          exact ⟨fun z => by rw [e1 z]; exact b, fun z => by rw [e2 z]; exact b⟩
      exact key (fcN (r + 1) - fcN r) 0 (by omega) w1 w2 w3 k1
    have j194 : ∀ k, (if r < 9 then r else 16 - r) = k → k < 17 → wJ_X7_init_194 w1 w2 w3 (nI (fcN r)) (nI r) (nI k) R := fun k hk hk17 => by
      unfold wJ_X7_init_194
      rw [hk] at q1 q2
      refine pk_le 4 k (fun z => ?_) (fun z => ?_)
      · rw [if_neg (by omega)] at q1 q2
        rw [show (4 : Int32) = nI 4 from rfl, pk_sub z, ← q1]
        have e : (28 : Int32) - nI k = nI (28 - k) := by rw [show (28 : Int32) = nI 28 from rfl, pk_sub (by omega)]
        exact inner k hk hk17 (28 - k) q2 (fun _ => e) (fun y => absurd (nI_le z (by omega)) y)
      · rw [if_pos (by omega)] at q1 q2
        rw [show (12 : Int32) = nI 12 from rfl, pk_sub (by omega), ← q1]
        have e : (12 : Int32) + nI k = nI (12 + k) := nI_add 12 k
        exact inner k hk hk17 (12 + k) q2 (fun y => absurd y (nI_ge (b := 4) z (by decide))) (fun _ => e)
    unfold wb_X7_init_174
    refine pk_le 17 r (fun z => absurd z (by omega)) (fun _ => pk_le 9 r (fun z => ?_) (fun z => ?_))
    · rw [show (16 : Int32) = nI 16 from rfl, pk_sub (by omega)]
      exact j194 (16 - r) (if_neg (by omega)) (by omega)
    · exact j194 r (if_pos (by omega)) (by omega)
theorem t7_dir {vr vk vx : Nat → Int32} {c d : Nat} (hd : d < 6) {R : (Nat → Int32) → Int32 → Prop} {K : (Nat → Int32) → Prop} (h : ∀ a b, a = tb_ROW_STEP d → b = tb_COLUMN_STEP d → wJ_X7_init_355 z1 z2 z3 z4 z5 z6 z7 z8 vr vk vx (nI c) (nI d) a b R) : wb_X7_init_285 z1 z2 z3 z4 z5 z6 z7 z8 vr vk (nI c) K R vx (nI d) := by
  unfold wb_X7_init_285
  refine pk_le 6 d (fun z => absurd z (by omega)) (fun _ => ?_)
  unfold wJ_X7_init_320
  rcases (show d = 0 ∨ d = 1 ∨ d = 2 ∨ d = 3 ∨ d = 4 ∨ d = 5 by omega) with rfl | rfl | rfl | rfl | rfl | rfl
  all_goals
    refine ⟨fun z => ?_, fun z => ?_⟩
    all_goals first
      | exact absurd z (by decide)
      | (refine ⟨fun z => ?_, fun z => ?_⟩
         all_goals first
           | exact absurd z (by decide)
           | (refine ⟨fun z => ?_, fun z => ?_⟩
              all_goals first
                | exact absurd z (by decide)
                | exact h _ _ (by decide) (by decide)
                | (refine ⟨fun z => ?_, fun z => ?_⟩
                   all_goals first
                     | exact absurd z (by decide)
                     | exact h _ _ (by decide) (by decide)
                     | (refine ⟨fun z => ?_, fun z => ?_⟩
                        all_goals first
                          | exact absurd z (by decide)
                          | exact h _ _ (by decide) (by decide)
                          | (refine ⟨fun z => ?_, fun z => ?_⟩
                             all_goals first
                               | exact absurd z (by decide)
                               | exact h _ _ (by decide) (by decide)
                               | (refine ⟨fun z => ?_, fun z => ?_⟩
                                  all_goals first
                                    | exact absurd z (by decide)
                                    | exact h _ _ (by decide) (by decide)
                                    | (refine ⟨fun z => ?_, fun z => ?_⟩
                                       all_goals first
                                         | exact absurd z (by decide)
                                         | exact h _ _ (by decide) (by decide))))))))
theorem t7_nexts {vr vk v0 vb0 : Nat → Int32} (hr : ROWA vr) (hk : COLA vk) {K : (Nat → Int32) → (Nat → Int32) → Prop} (h : ∀ v w, NXA v → BD w (fun _ => none) → K v w) : wl_X7_init_277 z1 z2 z3 z4 z5 z6 z7 z8 vr vk K v0 vb0 0 := by
  intro R hR
  refine upL (P := fun (z : (Nat → Int32) × (Nat → Int32)) i => R z.1 z.2 i) (fun i z => NXn i z.1 ∧ ∀ k, k < i → z.2 k = oi ((fun _ => none : Nat → Option Nat) k)) 121 (fun z hz => hR _ _ _ ?_) (fun x z hx hz ih => hR _ _ _ ?_) 0 (by omega) (v0, vb0) ⟨fun c d hc => absurd hc (Nat.not_lt_zero c), fun k hk => absurd hk (Nat.not_lt_zero k)⟩
  · unfold wb_X7_init_277
    exact pk_le 121 121 (fun _ => h _ _ hz.1 hz.2) (fun z => absurd z (by omega))
  · unfold wb_X7_init_277
    refine pk_le 121 x (fun z => absurd z (by omega)) (fun _ => ?_)
    intro R' hR'
    refine upL (P := fun v i => R' v i) (fun i v => NXn x v ∧ ∀ d, d < i → v (6 * x + d) = oi (nx x d)) 6 (fun v hv => hR' _ _ ?_) (fun i v hi hv ih' => hR' _ _ (t7_dir hi (fun a b ea eb => ?_))) 0 (by omega) z.1 ⟨hz.1, fun d hd => absurd hd (Nat.not_lt_zero d)⟩
    · unfold wb_X7_init_285
      refine pk_le 6 6 (fun _ => ⟨vp_in_nI hx (by omega), ?_⟩) (fun z => absurd z (by omega))
      rw [nI_clamp (n := x) (by omega)]
      refine ih (v, _) ⟨fun c d hc hd => ?_, BD_fill hz.2 rfl⟩
      by_cases e : c = x
      · subst e; exact hv.2 d hd
      · exact hv.1 c d (by omega) hd
    · unfold wJ_X7_init_355
      have vx : vp_in (nI x) 121 := vp_in_nI hx (by omega)
      have hnx := nxI hx hi rfl rfl
      have fin : ∀ y, y = oi (nx x i) → vp_in ((6 : Int32) * nI x + nI i) 726 ∧ R' (upd v ((6 : Int32) * nI x + nI i).toNatClampNeg y) (nI i + 1) := fun y hy => by
        rw [ix6, nI_clamp (n := 6 * x + i) (by omega)]
        refine ⟨vp_in_nI (by omega) (by omega), ih' _ ⟨fun c d hc hd => ?_, fun d hd => ?_⟩⟩
        · show (if 6 * c + d = 6 * x + i then _ else v (6 * c + d)) = _
          rw [if_neg (by omega)]; exact hv.1 c d hc hd
        · show (if 6 * x + d = 6 * x + i then _ else v (6 * x + d)) = _
          by_cases e : d = i
          · subst e; rw [if_pos rfl]; exact hy
          · rw [if_neg (by omega)]; exact hv.2 d (by omega)
      rw [nI_clamp (n := x) (by omega), hr x hx, hk x hx, ea, eb]
      refine ⟨vx, vx, t7_find hr hk _ _ (fun c hc e0 e1 => fin _ ?_) (fun hno => fin _ ?_)⟩
      · rw [hnx.1 c hc e0 e1]; rfl
      · rw [hnx.2 hno]; rfl
theorem t7_cells {vc v0 : Nat → Int32} (hcv : CPA vc) {K : (Nat → Int32) → Prop} (h : ∀ v, GCA v → K v) : wl_X7_init_411 vc K v0 0 := by
  intro R hR
  refine upL (P := fun v i => R v i) (fun a v => ∀ b j, b < a → j < 10 → v (10 * b + j) = nI (gc b j)) 6 (fun v hv => hR _ _ ?_) (fun a v ha hv ih => hR _ _ ?_) 0 (by omega) v0 (fun b j hb => absurd hb (Nat.not_lt_zero b))
  · unfold wb_X7_init_411
    exact pk_le 6 6 (fun _ => h v hv) (fun z => absurd z (by omega))
  · unfold wb_X7_init_411
    refine pk_le 6 a (fun z => absurd z (by omega)) (fun _ => ?_)
    have g10 : cnt (fun x => decide (cp x = some a)) 121 = 10 := of_decide_eq_true (all_lt gl_10 ha)
    intro R' hR'
    refine upL (P := fun (z : (Nat → Int32) × Int32) i => R' z.1 z.2 i) (fun i z => z.2 = nI (cnt (fun x => decide (cp x = some a)) i) ∧ (∀ b j, b < a → j < 10 → z.1 (10 * b + j) = nI (gc b j)) ∧ ∀ x, x < i → cp x = some a → z.1 (10 * a + cnt (fun x => decide (cp x = some a)) x) = nI x) 121 (fun z hz => hR' _ _ _ ?_) (fun i z hi hz ih' => hR' _ _ _ ?_) 0 (by omega) (v, 0) ⟨rfl, hv, fun x hx => absurd hx (Nat.not_lt_zero x)⟩
    · unfold wb_X7_init_422
      refine pk_le 121 121 (fun _ => ih _ (fun b j hb hj => ?_)) (fun z => absurd z (by omega))
      by_cases e : b = a
      · subst e
        have h1 := all_lt (all_lt gc_all ha) hj
        rw [Bool.and_eq_true] at h1
        have h2 : cnt (fun x => decide (cp x = some b)) (gc b j) = j := of_decide_eq_true (all_lt (all_lt gl_cnt ha) hj)
        have h3 := hz.2.2 _ (of_decide_eq_true h1.1) (of_decide_eq_true h1.2)
        rw [h2] at h3
        exact h3
      · exact hz.2.1 b j (by omega) hj
    · obtain ⟨w, n⟩ := z
      obtain ⟨k1, k2, k3⟩ := hz
      dsimp only at k1 k2 k3 ih' ⊢
      subst k1
      unfold wb_X7_init_422
      refine pk_le 121 i (fun z => absurd z (by omega)) (fun _ => ⟨vp_in_nI hi (by omega), ?_⟩)
      rw [nI_clamp (n := i) (by omega), hcv i hi]
      refine bo_eq' (cp_ob hi) (ob_some ha) rfl rfl (fun e => ?_) (fun e => ?_)
      · have eg : (fun x => decide (cp x = some a)) i = true := decide_eq_true e
        have lg := cnt_full hi eg g10
        have e10 : (10 : Int32) * nI a + nI (cnt (fun x => decide (cp x = some a)) i) = nI (10 * a + cnt (fun x => decide (cp x = some a)) i) := by rw [show (10 : Int32) = nI 10 from rfl, pk_mul, nI_add]
        rw [e10, nI_clamp (n := 10 * a + cnt (fun x => decide (cp x = some a)) i) (by omega)]
        refine ⟨vp_in_nI (by omega) (by omega), ih' (_, _) ⟨by rw [cnt_t eg]; exact nI_1 _, fun b j hb hj => ?_, fun x hx hx2 => ?_⟩⟩
        · show (if 10 * b + j = 10 * a + cnt (fun x => decide (cp x = some a)) i then _ else w (10 * b + j)) = _
          rw [if_neg (by omega)]; exact k2 b j hb hj
        · show (if 10 * a + cnt (fun x => decide (cp x = some a)) x = 10 * a + cnt (fun x => decide (cp x = some a)) i then _ else w _) = _
          by_cases e2 : x = i
          · subst e2; rw [if_pos rfl]
          · have := cnt_lt (p := fun x => decide (cp x = some a)) (show x < i by omega) (decide_eq_true hx2)
            rw [if_neg (by omega)]; exact k3 x (by omega) hx2
      · have eg : (fun x => decide (cp x = some a)) i = false := decide_eq_false e
        refine ih' (w, _) ⟨congrArg nI (cnt_f eg).symm, k2, fun x hx hx2 => ?_⟩
        by_cases e2 : x = i
        · subst e2; exact absurd hx2 e
        · exact k3 x (by omega) hx2
/-- the rows of distances of the first n cells -/
def FRn (n : Nat) (v : Nat → Int32) : Prop := ∀ a b, a < n → b < 121 → v (121 * a + b) = nI (dst a b)
theorem t7_ms_in {vn : Nat → Int32} {s : Nat} (hn : NXA vn) (hs : s < 121) {K : (Nat → Int32) → (Nat → Int32) → Int32 → Prop} {k : Nat} {vf vq : Nat → Int32} {n : Nat} {L : Nat → Option Nat} {q : Nat → Nat} (hF : FRn s vf) (h : BS 1000 nx s (fun x => vf (121 * s + x)) vq L q n k 0) (hk : k < n) (hK : ∀ vf' vq' n' L' q', FRn s vf' → BS 1000 nx s (fun x => vf' (121 * s + x)) vq' L' q' n' k 6 → k < n' → K vf' vq' (nI n')) : wl_X7_measures_59 vn (nI s) (nI k) K vf vq (nI n) 0 := by
  intro P hP
  refine upL (P := fun (z : (Nat → Int32) × (Nat → Int32) × Int32) i => P z.1 z.2.1 z.2.2 i) (fun d z => ∃ n L q, z.2.2 = nI n ∧ FRn s z.1 ∧ BS 1000 nx s (fun x => z.1 (121 * s + x)) z.2.1 L q n k d ∧ k < n) 6 (fun z hz => hP _ _ _ _ ?_) (fun d z hd hz ih => hP _ _ _ _ ?_) 0 (by omega) (vf, vq, nI n) ⟨n, L, q, rfl, hF, h, hk⟩
  · obtain ⟨n, L, q, e, h0, h1, h2⟩ := hz
    unfold wb_X7_measures_59
    refine pk_le 6 6 (fun _ => ?_) (fun z => absurd z (by omega))
    rw [e]
    exact hK _ _ _ _ _ h0 h1 h2
  · obtain ⟨n, L, q, e, h0, h1, h2⟩ := hz
    obtain ⟨vf, vq, x⟩ := z
    dsimp only at e h0 h1 ⊢
    subst e
    have hn121 := BI_le h1.1
    have hcl := h1.1.2.2.1 k h2
    unfold wb_X7_measures_59
    refine pk_le 6 d (fun z => absurd z (by omega)) (fun _ => ⟨vp_in_nI (by omega) (by omega), ?_⟩)
    rw [nI_clamp (n := k) (by omega), h1.2.2.2 k h2, ix6, nI_clamp (n := 6 * q k + d) (by omega), hn _ _ hcl hd]
    refine ⟨vp_in_nI (by omega) (by omega), bo_m1 (nx_ob hcl hd) (fun e => ?_) (fun y e => ?_)⟩
    · exact ih (vf, vq, nI n) ⟨n, L, q, rfl, h0, BS_none h1 e, h2⟩
    · have hy := nx_ob hcl hd y e
      have hvl := h1.2.2.1
      rw [e, oi_some, ix121, nI_clamp (n := 121 * s + y) (by omega)]
      refine ⟨vp_in_nI (by omega) (by omega), ?_⟩
      have hly : vf (121 * s + y) = lvI 1000 (L y) := hvl y hy
      rw [hly]
      have hlv := lvI_eq u_far (BS_ob h1 hy)
      refine ⟨fun z => ?_, fun z => ?_⟩
      · cases e2 : L y with
        | none => exact absurd (hlv.mpr e2) z
        | some j => exact ih (vf, vq, nI n) ⟨n, L, q, rfl, h0, BS_seen h1 h2 e e2 hy, h2⟩
      · have hN := hlv.mp z
        have hroom := BI_room h1.1 hy hN
        obtain ⟨l, hl⟩ := h1.1.2.2.2.2.1 k h2
        have hlq : vf (121 * s + q k) = lvI 1000 (L (q k)) := hvl _ hcl
        rw [ix121, nI_clamp (n := 121 * s + q k) (by omega), nI_clamp (n := n) (by omega), hlq, hl]
        refine ⟨vp_in_nI (by omega) (by omega), vp_in_nI (by omega) (by omega), vp_in_nI (by omega) (by omega), vp_in_nI hroom (by omega), ?_⟩
        show P (upd vf (121 * s + y) (nI l + 1)) _ _ _
        rw [nI_1, nI_1]
        have hBS := BS_add h1 h2 hd e hN hy hl
        refine ih (upd vf (121 * s + y) (nI (l + 1)), upd vq n (nI y), nI (n + 1)) ⟨n + 1, _, _, rfl, fun a b ha hb => ?_, ⟨hBS.1, hBS.2.1, fun x hx => ?_, hBS.2.2.2⟩, by omega⟩
        · show (if 121 * a + b = 121 * s + y then _ else vf (121 * a + b)) = _
          rw [if_neg (by omega)]
          exact h0 a b ha hb
        · have h9 := hBS.2.2.1 x hx
          show (if 121 * s + x = 121 * s + y then nI (l + 1) else vf (121 * s + x)) = _
          have h8 : (if x = y then nI (l + 1) else vf (121 * s + x)) = lvI 1000 (fu L y (some (l + 1)) x) := h9
          by_cases e9 : x = y
          · rw [if_pos (by omega)]; rw [if_pos e9] at h8; exact h8
          · rw [if_neg (by omega)]; rw [if_neg e9] at h8; exact h8
theorem t7_measures {vn vf vq : Nat → Int32} {s : Nat} (hn : NXA vn) (hs : s < 121) (hF : FRn s vf) {Q : (Nat → Int32) → (Nat → Int32) → Prop} (hQ : ∀ vf vq, FRn (s + 1) vf → Q vf vq) : wp_X7_measures z1 z2 z3 z4 z5 z6 z7 z8 vn vf vq (nI s) Q := by
  unfold wp_X7_measures
  intro R hR
  refine upL (P := fun v i => R v i) (fun i v => FRn s v ∧ ∀ x, x < i → v (121 * s + x) = 1000) 121 (fun v hv => hR _ _ ?_) (fun i v hi hv ih => hR _ _ ?_) 0 (by omega) vf ⟨hF, fun x hx => absurd hx (Nat.not_lt_zero x)⟩
  · unfold wb_X7_measures_2
    refine pk_le 121 121 (fun _ => ?_) (fun z => absurd z (by omega))
    rw [ix121, nI_clamp (n := 121 * s + s) (by omega), show (0 : Int32).toNatClampNeg = 0 from by decide]
    refine ⟨vp_in_nI (by omega) (by omega), vp_in_nI (n := 0) (by omega) (by omega), ?_⟩
    have hBS0 := BS_init (u := 1000) (f := nx) (vl := fun x => v (121 * s + x)) (vq := upd vq 0 (nI s)) hs (fun x hx => hv.2 x hx) (by show (if 0 = 0 then _ else vq 0) = _; rw [if_pos rfl])
    intro P hP
    have key : ∀ m k n L q vf vq, k + m = 121 → FRn s vf → BS 1000 nx s (fun x => vf (121 * s + x)) vq L q n k 0 → P vf vq (nI n) (nI k) := by
      intro m
      induction m with
      | zero =>
        intro k n L q vf vq hk hF h1
        have h2 := BI_le h1.1
        refine hP _ _ _ _ ?_
        unfold wb_X7_measures_51
        refine pk_le n k (fun z => hQ _ _ (fun a b ha hb => ?_)) (fun z => absurd z (by omega))
        by_cases e : a = s
        · subst e
          have h9 : vf (121 * a + b) = lvI 1000 (L b) := h1.2.2.1 b hb
          rw [h9, BL_eq (BI_done h1.1 z) (BL_dst hs) hb]; rfl
        · exact hF a b (by omega) hb
      | succ m ihm =>
        intro k n L q vf vq hk hF h1
        have h2 := BI_le h1.1
        refine hP _ _ _ _ ?_
        unfold wb_X7_measures_51
        refine pk_le n k (fun z => hQ _ _ (fun a b ha hb => ?_)) (fun z => ?_)
        · by_cases e : a = s
          · subst e
            have h9 : vf (121 * a + b) = lvI 1000 (L b) := h1.2.2.1 b hb
            rw [h9, BL_eq (BI_done h1.1 z) (BL_dst hs) hb]; rfl
          · exact hF a b (by omega) hb
        · refine t7_ms_in hn hs hF h1 z (fun vf' vq' n' L' q' h0 h3 h4 => ?_)
          rw [nI_1]
          exact ihm (k + 1) n' L' q' vf' vq' (by omega) h0 (BS_next h3 h4)
    refine key 121 0 1 _ _ _ _ (by omega) (fun a b ha hb => ?_) ⟨hBS0.1, hBS0.2.1, fun x hx => ?_, hBS0.2.2.2⟩
    · show (if 121 * a + b = 121 * s + s then _ else v (121 * a + b)) = _
      rw [if_neg (by omega)]
      exact hv.1 a b ha hb
    · have h8 : (if x = s then nI 0 else v (121 * s + x)) = lvI 1000 (fu (fun _ => none) s (some 0) x) := hBS0.2.2.1 x hx
      show (if 121 * s + x = 121 * s + s then (0 : Int32) else v (121 * s + x)) = _
      by_cases e9 : x = s
      · rw [if_pos (by omega)]; rw [if_pos e9] at h8; exact h8
      · rw [if_neg (by omega)]; rw [if_neg e9] at h8; exact h8
  · unfold wb_X7_measures_2
    refine pk_le 121 i (fun z => absurd z (by omega)) (fun _ => ?_)
    rw [ix121, nI_clamp (n := 121 * s + i) (by omega)]
    refine ⟨vp_in_nI (by omega) (by omega), ih _ ⟨fun a b ha hb => ?_, fun x hx => ?_⟩⟩
    · show (if 121 * a + b = 121 * s + i then _ else v (121 * a + b)) = _
      rw [if_neg (by omega)]
      exact hv.1 a b ha hb
    · show (if 121 * s + x = 121 * s + i then _ else v (121 * s + x)) = _
      by_cases e : x = i
      · subst e; rw [if_pos rfl]
      · rw [if_neg (by omega)]; exact hv.2 x (by omega)
theorem t7_far {vn vf vq : Nat → Int32} (hn : NXA vn) {K : (Nat → Int32) → (Nat → Int32) → Prop} (h : ∀ vf vq, FARA vf → K vf vq) : wl_X7_init_470 z1 z2 z3 z4 z5 z6 z7 z8 vn K vf vq 0 := by
  intro R hR
  refine upL (P := fun (z : (Nat → Int32) × (Nat → Int32)) i => R z.1 z.2 i) (fun i z => FRn i z.1) 121 (fun z hz => hR _ _ _ ?_) (fun i z hi hz ih => hR _ _ _ ?_) 0 (by omega) (vf, vq) (fun a b ha => absurd ha (Nat.not_lt_zero a))
  · unfold wb_X7_init_470
    exact pk_le 121 121 (fun _ => h _ _ hz) (fun z => absurd z (by omega))
  · unfold wb_X7_init_470
    exact pk_le 121 i (fun z => absurd z (by omega)) (fun _ => t7_measures hn hi hz (fun a b h9 => ih (a, b) h9))
end MODEL
theorem t_model {Q : Int32 → Int32 → Int32 → Int32 → Int32 → Int32 → Int32 → Int32 → (Nat → Int32) → (Nat → Int32) → (Nat → Int32) → (Nat → Int32) → (Nat → Int32) → (Nat → Int32) → (Nat → Int32) → (Nat → Int32) → (Nat → Int32) → (Nat → Int32) → (Nat → Int32) → (Nat → Int32) → (Nat → Int32) → (Nat → Int32) → (Nat → Int32) → (Nat → Int32) → (Nat → Int32) → (Nat → Int32) → (Nat → Int32) → Prop}
    (h : ∀ v1 v2 v3 v4 v5 v6 v7 v8, ROWA v1 → COLA v2 → CPA v3 → NXA v4 → FARA v5 → GCA v6 → BD v7 (fun _ => none) → Q 0 10 0 (-1) 0 0 0 0 v1 v2 v3 v4 v5 v6 v7 (fun _ => 0) (fun _ => 0) (fun _ => 0) (fun _ => 0) (fun _ => 0) (fun _ => 0) (fun _ => 0) (fun _ => 0) v8 (fun _ => 0) (fun _ => 0) (fun _ => 0)) : wp_X7_init Q := by
  unfold wp_X7_init wp_X7_initB
  refine t7_rows (fun v1 v2 v3 hv => ?_)
  have h1 : ROWA v1 := fun c hc => (hv c hc).1
  have h2 : COLA v2 := fun c hc => (hv c hc).2.1
  have h3 : CPA v3 := fun c hc => (hv c hc).2.2
  exact t7_nexts h1 h2 (fun v4 v7 h4 h7 => t7_cells h3 (fun v6 h6 => t7_far h4 (fun v5 v8 h5 => h v1 v2 v3 v4 v5 v6 v7 v8 h1 h2 h3 h4 h5 h6 h7)))
theorem t_game {Q : Int32 → Int32 → (Nat → Int32) → (Nat → Int32) → (Nat → Int32) → (Nat → Int32) → (Nat → Int32) → (Nat → Int32) → (Nat → Int32) → (Nat → Int32) → (Nat → Int32) → (Nat → Int32) → (Nat → Int32) → (Nat → Int32) → (Nat → Int32) → (Nat → Int32) → (Nat → Int32) → (Nat → Int32) → Int32 → (Nat → Int32) → (Nat → Int32) → (Nat → Int32) → (Nat → Int32) → (Nat → Int32) → Prop}
    (h : ∀ v1 v2 v3 v4 w, ROWA v1 → COLA v2 → CPA v3 → NXA v4 → BD w (fun _ => none) → Q 10 0 v1 v2 v3 v4 w (fun _ => 0) (fun _ => 0) (fun _ => 0) (fun _ => 0) (fun _ => 0) (fun _ => 0) (fun _ => 0) (fun _ => 0) (fun _ => 0) (fun _ => 0) (fun _ => 0) (-1) (fun _ => 0) (fun _ => 0) (fun _ => 0) (fun _ => 0) (fun _ => 0)) : wp_X6_init Q := by
  unfold wp_X6_init
  refine t_star (fun v1 v2 v3 v4 h1 h2 h3 h4 => ?_)
  unfold wp_X1_init
  refine t_setUp1 h3 (fun w hw => ?_)
  unfold wp_X3_init wp_X2_init wp_X4_init wp_X0_init
  refine h v1 v2 v3 v4 w h1 h2 h3 h4 (fun k hk => ?_)
  have hz : bgB 0 k = none := by
    unfold bgB
    cases e : cp k with
    | none => rfl
    | some a =>
      have ha := cp_ob hk a e
      have hb : bitB 0 a = false := by
        have h9 := bitI (S := 0) (by omega) (show a < 10 by omega)
        unfold bitB
        rw [show (0 : Int32) = nI 0 from rfl, h9, Nat.zero_testBit]
        decide
      show (if bitB 0 a then some a else none) = none
      rw [hb]; rfl
  rw [hw k hk, hz]
