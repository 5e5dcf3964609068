/-! THE REFERENCE'S searches, and chains on both sides -/
theorem land_not {B : Nat → Option Nat} {g c d : Nat} (h : ∀ o b, nx c d = some o → o ≠ g → B o ≠ none → nx o d = some b → (b = g ∨ B b = none) → False) : land B g c d = none := by
  cases e : land B g c d with
  | none => rfl
  | some b =>
    obtain ⟨o, h1, h2, h3, h4, h5⟩ := land_some e
    exact (h o b h1 h2 h3 h4 h5).elim
theorem ix6 (c d : Nat) : (6 : Int32) * nI c + nI d = nI (6 * c + d) := by
  rw [show (6 : Int32) = nI 6 from rfl, pk_mul, nI_add]
theorem ix121 (c d : Nat) : (121 : Int32) * nI c + nI d = nI (121 * c + d) := by
  rw [show (121 : Int32) = nI 121 from rfl, pk_mul, nI_add]
/-- all distances -/
def FARA (v : Nat → Int32) : Prop := ∀ a b, a < 121 → b < 121 → v (121 * a + b) = nI (dst a b)
theorem adf_lt {a b : Nat} (ha : a < 256) (hb : b < 256) : adf a b < 256 := by
  unfold adf
  split <;> omega
theorem rw_lt (c : Nat) : rw_ c < 256 := Nat.mod_lt _ (by decide)
theorem cw_lt (c : Nat) : cw_ c < 256 := Nat.mod_lt _ (by decide)
theorem dst_lt (a b : Nat) : dst a b < 512 := by
  have h1 := adf_lt (rw_lt a) (rw_lt b)
  have h2 := adf_lt (cw_lt a) (cw_lt b)
  unfold dst
  omega
section REF
variable {z1 z2 z3 z4 z5 z6 z7 z8 : Int32} {vc vn vb vf : Nat → Int32} {B : Nat → Option Nat}
theorem t7_isCell {c : Nat} {Q : Int32 → Prop} (hc : c < 121) (h : Q 1) : wp_X7_isCell (nI c) Q := by
  unfold wp_X7_isCell wp_X7_isIn
  exact br_f (nI_pos (by omega)) (br_f (nI_nlt (b := c) (a := 120) (by omega) (by decide)) ⟨nb_1, h⟩)
theorem t7_isCell_any {Q : Int32 → Prop} (x : Int32) (h1 : ∀ c, c < 121 → x = nI c → Q 1) (h0 : (∀ c, c < 121 → ¬ x = nI c) → Q 0) : wp_X7_isCell x Q := by
  rcases pk_ix x (n := 121) (by omega) with h | h | ⟨j, hj, e⟩
  · unfold wp_X7_isCell wp_X7_isIn
    exact br_t h ⟨nb_0, h0 (fun c hc e => by rw [e] at h; exact nI_pos (by omega) h)⟩
  · unfold wp_X7_isCell wp_X7_isIn
    have hx : ∀ c, c < 121 → ¬ x = nI c := fun c hc e => by rw [e] at h; exact nI_ge hc (by omega) h
    refine br_c (fun _ => ⟨nb_0, h0 hx⟩) (fun a => br_t ?_ ⟨nb_0, h0 hx⟩)
    have h2 : (nI 121).toInt ≤ x.toInt := Int32.le_iff_toInt_le.mp h
    rw [nI_toInt (by omega)] at h2
    rw [Int32.lt_iff_toInt_lt]
    rw [show (120 : Int32).toInt = 120 from by decide]
    omega
  · rw [e]
    exact t7_isCell hj (h1 j hj e)
theorem t7_behind {Q : Int32 → Prop} {c d g : Nat} (hn : NXA vn) (hv : BD vb B) (hB : BK B) (hc : c < 121) (hd : d < 6) (hg : g < 121) (h : Q (oi (land B g c d))) : wp_X7_behind z1 z2 z3 z4 z5 z6 z7 z8 vn vb (nI c) (nI d) (nI g) Q := by
  unfold wp_X7_behind
  rw [ix6, nI_clamp (n := 6 * c + d) (by omega), hn c d hc hd]
  refine ⟨vp_in_nI (by omega) (by omega), bo_m1' (nx_ob hc hd) (fun e1 => ?_) (fun o e1 => ?_)⟩
  · unfold wJ_X7_behind_35 wJ_X7_behind_82
    refine br_t rfl (br_t rfl ?_)
    rw [land_not (fun o b h1 => by rw [e1] at h1; cases h1)] at h
    exact h
  · have ho := nx_ob hc hd o e1
    rw [e1, oi_some, ix6, nI_clamp (n := 6 * o + d) (by omega), hn o d ho hd]
    refine ⟨vp_in_nI (by omega) (by omega), ?_⟩
    have none_ : land B g c d = none → ∀ t, wJ_X7_behind_82 t 0 Q := fun e t => by
      unfold wJ_X7_behind_82
      rw [e] at h
      exact br_t rfl h
    unfold wJ_X7_behind_35
    refine bo_m1 (nx_ob ho hd) (fun e3 => none_ (land_not (fun o' b h1 _ _ h4 => by
      rw [e1] at h1; cases h1
      rw [e3] at h4; cases h4)) _) (fun b e3 => ?_)
    have hb := nx_ob ho hd b e3
    rw [e3, oi_some]
    refine pk_eq o g (fun e4 => none_ (land_not (fun o' b h1 h2 => by
      rw [e1] at h1; cases h1
      exact absurd e4 h2)) _) (fun e4 => ⟨vp_in_nI ho (by omega), ?_⟩)
    rw [nI_clamp (n := o) (by omega), hv o ho]
    refine bo_m1 (hB o ho) (fun e5 => none_ (land_not (fun o' b h1 _ h3 => by
      rw [e1] at h1; cases h1
      exact absurd e5 h3)) _) (fun n e5 => ?_)
    have yes : (b = g ∨ B b = none) → wJ_X7_behind_82 (nI b) 1 Q := fun z => by
      unfold wJ_X7_behind_82
      rw [land_of e1 e4 (by rw [e5]; exact fun z => by cases z) e3 z] at h
      exact br_f (by decide) h
    refine pk_eq b g (fun e6 => yes (Or.inl e6)) (fun e6 => ⟨vp_in_nI hb (by omega), ?_⟩)
    rw [nI_clamp (n := b) (by omega), hv b hb]
    refine bo_m1' (hB b hb) (fun e7 => yes (Or.inr e7)) (fun m e7 => none_ (land_not (fun o' b' h1 _ _ h4 h5 => by
      rw [e1] at h1; cases h1
      rw [e3] at h4; cases h4
      rcases h5 with h5 | h5
      · exact e6 h5
      · rw [e7] at h5; cases h5)) _)
theorem t7_hf_fill {K : (Nat → Int32) → Prop} {vl : Nat → Int32} (h : ∀ v, (∀ k, k < 121 → v k = 1000) → K v) : wl_X7_hopsFrom_2 K vl 0 := by
  intro P hP
  refine upL (P := fun v i => P v i) (fun i v => ∀ k, k < i → v k = 1000) 121 (fun v hv => hP _ _ ?_) (fun i v hi hv ih => hP _ _ ?_) 0 (by omega) vl (fun k hk => absurd hk (by omega))
  · unfold wb_X7_hopsFrom_2
    exact pk_le 121 121 (fun _ => h v hv) (fun z => absurd z (by omega))
  · unfold wb_X7_hopsFrom_2
    refine pk_le 121 i (fun z => absurd z (by omega)) (fun _ => ⟨vp_in_nI (by omega) (by omega), ih _ ?_⟩)
    rw [nI_clamp (by omega)]
    intro k hk
    show (if k = i then _ else v k) = _
    by_cases e : k = i
    · rw [if_pos e]
    · rw [if_neg e]; exact hv k (by omega)
theorem t7_hf_in {g s : Nat} (hn : NXA vn) (hv : BD vb B) (hB : BK B) (hg : g < 121) {K : (Nat → Int32) → (Nat → Int32) → Int32 → Prop} {k : Nat} {vl vq : Nat → Int32} {n : Nat} {L : Nat → Option Nat} {q : Nat → Nat} (h : BS 1000 (land B g) s vl vq L q n k 0) (hk : k < n) (hK : ∀ vl' vq' n' L' q', BS 1000 (land B g) s vl' vq' L' q' n' k 6 → k < n' → K vl' vq' (nI n')) : wl_X7_hopsFrom_51 z1 z2 z3 z4 z5 z6 z7 z8 vn vb (nI g) (nI k) K vl vq (nI n) 0 := by
  intro P hP
  refine upL (P := fun (z : (Nat → Int32) × (Nat → Int32) × Int32) i => P z.1 z.2.1 z.2.2 i) (fun d z => ∃ n L q, z.2.2 = nI n ∧ BS 1000 (land B g) s z.1 z.2.1 L q n k d ∧ k < n) 6 (fun z hz => hP _ _ _ _ ?_) (fun d z hd hz ih => hP _ _ _ _ ?_) 0 (by omega) (vl, vq, nI n) ⟨n, L, q, rfl, h, hk⟩
  · obtain ⟨n, L, q, e, h1, h2⟩ := hz
    unfold wb_X7_hopsFrom_51
    refine pk_le 6 6 (fun _ => ?_) (fun z => absurd z (by omega))
    rw [e]
    exact hK _ _ _ _ _ h1 h2
  · obtain ⟨n, L, q, e, h1, h2⟩ := hz
    obtain ⟨vl, vq, x⟩ := z
    dsimp only at e h1 ⊢
    subst e
    have hn121 := BI_le h1.1
    have hcl := h1.1.2.2.1 k h2
    unfold wb_X7_hopsFrom_51
    refine pk_le 6 d (fun z => absurd z (by omega)) (fun _ => ⟨vp_in_nI (by omega) (by omega), ?_⟩)
    rw [nI_clamp (n := k) (by omega), h1.2.2.2 k h2]
    refine t7_behind hn hv hB hcl hd hg (bo_m1 (land_ob hcl hd) (fun e => ?_) (fun y e => ?_))
    · exact ih (vl, vq, nI n) ⟨n, L, q, rfl, BS_none h1 e, h2⟩
    · have hy := land_ob hcl hd y e
      rw [e, oi_some]
      refine ⟨vp_in_nI hy (by omega), ?_⟩
      rw [nI_clamp (n := y) (by omega), h1.2.2.1 y hy]
      have hlv := lvI_eq u_far (BS_ob h1 hy)
      refine ⟨fun z => ?_, fun z => ?_⟩
      · cases e2 : L y with
        | none => exact absurd (hlv.mpr e2) z
        | some j => exact ih (vl, vq, nI n) ⟨n, L, q, rfl, BS_seen h1 h2 e e2 hy, h2⟩
      · have hN := hlv.mp z
        have hroom := BI_room h1.1 hy hN
        obtain ⟨l, hl⟩ := h1.1.2.2.2.2.1 k h2
        refine ⟨vp_in_nI (by omega) (by omega), vp_in_nI hcl (by omega), vp_in_nI hy (by omega), vp_in_nI hroom (by omega), ?_⟩
        rw [nI_clamp (n := q k) (by omega), nI_clamp (n := n) (by omega), h1.2.2.1 (q k) hcl, hl]
        show P (upd vl y (nI l + 1)) _ _ _
        rw [nI_1, nI_1]
        exact ih (upd vl y (nI (l + 1)), upd vq n (nI y), nI (n + 1)) ⟨n + 1, _, _, rfl, BS_add h1 h2 hd e hN hy hl, by omega⟩
theorem t7_hf_out {g s : Nat} (hn : NXA vn) (hv : BD vb B) (hB : BK B) (hg : g < 121) {K : (Nat → Int32) → (Nat → Int32) → Prop} {vl vq : Nat → Int32} {n : Nat} {L : Nat → Option Nat} {q : Nat → Nat} (h : BS 1000 (land B g) s vl vq L q n 0 0) (hK : ∀ vl' vq' L', BE 1000 (land B g) s vl' L' → K vl' vq') : wl_X7_hopsFrom_42 z1 z2 z3 z4 z5 z6 z7 z8 vn vb (nI g) K vl vq (nI n) 0 := by
  intro P hP
  have key : ∀ m k n L q vl vq, k + m = 121 → BS 1000 (land B g) s vl vq L q n k 0 → P vl vq (nI n) (nI k) := by
    intro m
    induction m with
    | zero =>
      intro k n L q vl vq hk h1
      have h2 := BI_le h1.1
      refine hP _ _ _ _ ?_
      unfold wb_X7_hopsFrom_42
      exact pk_le n k (fun z => hK _ _ L ⟨BI_done h1.1 z, h1.2.2.1, fun x hx => BS_ob h1 hx⟩) (fun z => absurd z (by omega))
    | succ m ih =>
      intro k n L q vl vq hk h1
      have h2 := BI_le h1.1
      refine hP _ _ _ _ ?_
      unfold wb_X7_hopsFrom_42
      refine pk_le n k (fun z => hK _ _ L ⟨BI_done h1.1 z, h1.2.2.1, fun x hx => BS_ob h1 hx⟩) (fun z => ?_)
      refine t7_hf_in hn hv hB hg h1 z (fun vl' vq' n' L' q' h3 h4 => ?_)
      rw [nI_1]
      exact ih (k + 1) n' L' q' vl' vq' (by omega) (BS_next h3 h4)
  exact key 121 0 n L q vl vq (by omega) h
theorem t7_hopsFrom {g s : Nat} (hn : NXA vn) (hv : BD vb B) (hB : BK B) (hg : g < 121) (hs : s < 121) {Q : (Nat → Int32) → (Nat → Int32) → Prop} {vl vq : Nat → Int32} (hQ : ∀ vl' vq' L, BE 1000 (land B g) s vl' L → Q vl' vq') : wp_X7_hopsFrom z1 z2 z3 z4 z5 z6 z7 z8 vn vb vl vq (nI s) (nI g) Q := by
  unfold wp_X7_hopsFrom
  refine t7_hf_fill (fun v hv0 => ⟨vp_in_nI hs (by omega), vp_in_nI (n := 0) (by omega) (by omega), ?_⟩)
  rw [nI_clamp (n := s) (by omega), show (0 : Int32).toNatClampNeg = 0 from by decide]
  exact t7_hf_out hn hv hB hg (BS_init hs hv0 (by show (if 0 = 0 then _ else vq 0) = _; rw [if_pos rfl])) hQ
theorem t7_isNext {Q : Int32 → Prop} {c x : Nat} (hf : FARA vf) (hc : c < 121) (hx : x < 121) (h : Q (bi (decide (dst c x = 1)))) : wp_X7_isNext z1 z2 z3 z4 z5 z6 z7 z8 vf (nI c) (nI x) Q := by
  unfold wp_X7_isNext
  rw [ix121, nI_clamp (by omega), hf c x hc hx]
  refine ⟨vp_in_nI (by omega) (by omega), fun e => ?_, fun e => ?_⟩
  · have e2 : ¬ dst c x = 1 := fun z => e (by rw [z]; rfl)
    rw [decide_eq_false e2] at h
    exact h
  · have h3 := dst_lt c x
    have e2 : dst c x = 1 := nI_inj (by omega) (by omega) (show nI (dst c x) = nI 1 from e)
    rw [decide_eq_true e2] at h
    exact h
theorem t7_mayEnd {Q : Int32 → Prop} {t c x : Nat} (hv : CPA vc) (ht : t < 6) (hc : c < 121) (hx : x < 121) (h : Q (bi (mayE t c x))) : wp_X7_mayEnd z1 z2 z3 (nI t) z5 z6 z7 z8 vc (nI c) (nI x) Q := by
  unfold wp_X7_mayEnd
  have hg : ob 6 (some ((t + 3) % 6)) := ob_some (by omega)
  have htb : ob 6 (some t) := ob_some ht
  rw [goal_eq ht, nI_clamp (n := x) (by omega), hv x hx]
  have vx : vp_in (nI x) 121 := vp_in_nI hx (by omega)
  have vcc : vp_in (nI c) 121 := vp_in_nI hc (by omega)
  have opn : (cp x = none ∨ cp x = some t ∨ cp x = some ((t + 3) % 6)) → wJ_X7_mayEnd_48 vc (nI c) (nI x) (nI ((t + 3) % 6)) 1 Q := fun z => by
    unfold wJ_X7_mayEnd_48
    refine br_f (by decide) ⟨vcc, ?_⟩
    rw [nI_clamp (n := c) (by omega), hv c hc]
    refine bo_eq' (cp_ob hc) hg rfl rfl (fun e => ⟨vx, ?_⟩) (fun e => ?_)
    · rw [nI_clamp (n := x) (by omega), hv x hx]
      refine bo_eq' (cp_ob hx) hg rfl rfl (fun e2 => ?_) (fun e2 => ?_)
      · rw [show mayE t c x = true by unfold mayE; rw [if_pos e]; exact decide_eq_true e2] at h; exact h
      · rw [show mayE t c x = false by unfold mayE; rw [if_pos e]; exact decide_eq_false e2] at h; exact h
    · rw [show mayE t c x = true by unfold mayE; rw [if_neg e]; exact decide_eq_true z] at h; exact h
  refine ⟨vx, bo_m1 (cp_ob hx) (fun e => opn (Or.inl e)) (fun n e => ⟨vx, bo_eq (cp_ob hx) htb rfl rfl (fun e2 => opn (Or.inr (Or.inl e2))) (fun e2 => ⟨vx, bo_eq' (cp_ob hx) hg rfl rfl (fun e3 => opn (Or.inr (Or.inr e3))) (fun e3 => ?_)⟩)⟩)⟩
  unfold wJ_X7_mayEnd_48
  refine br_t rfl ?_
  have hno : ¬ (cp x = none ∨ cp x = some t ∨ cp x = some ((t + 3) % 6)) := fun z => by
    rcases z with z | z | z
    · rw [z] at e; cases e
    · exact e2 z
    · exact e3 z
  rw [show mayE t c x = false by
    unfold mayE
    by_cases e4 : cp c = some ((t + 3) % 6)
    · rw [if_pos e4]; exact decide_eq_false e3
    · rw [if_neg e4]; exact decide_eq_false hno] at h
  exact h
theorem isE_iff {t c x : Nat} (hc : B c = some t) : isE B (some t) c x = true ↔ B x = none ∧ mayE t c x = true ∧ (dst c x = 1 ∨ (hopL (land B c) c x).isSome = true) := by
  show ((if _ then (if _ then _ else _) else _) : Option Nat).isSome = true ↔ _
  by_cases e : B c = some t ∧ B x = none ∧ mayE t c x = true
  · rw [if_pos e]
    by_cases e2 : dst c x = 1
    · rw [if_pos e2]; exact ⟨fun _ => ⟨e.2.1, e.2.2, Or.inl e2⟩, fun _ => rfl⟩
    · rw [if_neg e2]; exact ⟨fun z => ⟨e.2.1, e.2.2, Or.inr z⟩, fun z => z.2.2.elim (fun z => absurd z e2) id⟩
  · rw [if_neg e]; exact ⟨fun z => (by cases z), fun z => absurd ⟨hc, z.1, z.2.1⟩ e⟩
theorem nar_bi (b : Bool) : vp_nar .boolean (bi b) = bi b := by cases b <;> decide
theorem j104 {i n : Nat} {b : Bool} {p : Nat → Bool} {v : Nat → Int32} {P : (Nat → Int32) → Int32 → Int32 → Prop} (hi : i < 121) (hb : p i = b) (hv : ∀ k, k < i → v k = bi (p k)) (hn : n = cnt p i) (ih : ∀ v', (∀ k, k < i + 1 → v' k = bi (p k)) → P v' (nI (cnt p (i + 1))) (nI i + 1)) : wJ_X7_endsOf_104 v (nI n) (nI i) (nI i) (bi b) P := by
  unfold wJ_X7_endsOf_104
  refine ⟨vp_in_nI hi (by omega), vp_in_nI hi (by omega), ?_⟩
  rw [nI_clamp (by omega), nar_bi]
  have h1 : upd v i (bi b) i = bi b := by show (if i = i then _ else _) = _; rw [if_pos rfl]
  have h2 : ∀ k, k < i + 1 → upd v i (bi b) k = bi (p k) := fun k hk => by
    show (if k = i then _ else v k) = _
    by_cases e : k = i
    · rw [if_pos e, e, hb]
    · rw [if_neg e]; exact hv k (by omega)
  rw [h1]
  have h3 := ih _ h2
  refine bb' (fun e => ?_) (fun e => ?_)
  · rw [cnt_t (hb.trans e)] at h3
    rw [show nI n + 1 = nI (n + 1) from nI_1 n, hn]
    exact h3
  · rw [cnt_f (hb.trans e)] at h3
    rw [show nI n + 0 = nI n from nI_add n 0, hn]
    exact h3
theorem t7_ends_loop {T : Option Nat} {c : Nat} {vl : Nat → Int32} {L : Nat → Option Nat} (hcv : CPA vc) (hf : FARA vf) (hv : BD vb B) (hB : BK B) (hT : ob 6 T) (hc : c < 121) (hL : BE 1000 (land B c) c vl L) {b : Bool} (hb : b = true ↔ T ≠ none ∧ B c = T) {K : (Nat → Int32) → Int32 → Prop} {v0 : Nat → Int32} (h : ∀ v, (∀ k, k < 121 → v k = bi (isE B T c k)) → K v (nI (cnt (isE B T c) 121))) : wl_X7_endsOf_38 z1 z2 z3 (oi T) z5 z6 z7 z8 vc vf vb vl (nI c) (bi b) K v0 0 0 := by
  intro P hP
  refine upL (P := fun (z : (Nat → Int32) × Int32) i => P z.1 z.2 i) (fun i z => (∀ k, k < i → z.1 k = bi (isE B T c k)) ∧ z.2 = nI (cnt (isE B T c) i)) 121 (fun z hz => hP _ _ _ ?_) (fun i z hi hz ih => hP _ _ _ ?_) 0 (by omega) (v0, 0) ⟨fun k hk => absurd hk (by omega), rfl⟩
  · unfold wb_X7_endsOf_38
    rw [hz.2]
    exact pk_le 121 121 (fun _ => h _ hz.1) (fun z => absurd z (by omega))
  · unfold wb_X7_endsOf_38
    obtain ⟨v, x⟩ := z
    obtain ⟨h1, h2⟩ := hz
    dsimp only at h1 h2 ⊢
    subst h2
    have leaf : ∀ b', isE B T c i = b' → wJ_X7_endsOf_104 v (nI (cnt (isE B T c) i)) (nI i) (nI i) (bi b') P := fun b' hb' => j104 hi hb' h1 rfl (fun v' hv' => ih (v', _) ⟨hv', rfl⟩)
    have no : isE B T c i = false → wJ_X7_endsOf_104 v (nI (cnt (isE B T c) i)) (nI i) (nI i) 0 P := leaf false
    refine pk_le 121 i (fun z => absurd z (by omega)) (fun _ => bb' (fun e => ?_) (fun e => no ?_))
    · obtain ⟨hT1, hown⟩ := hb.mp e
      cases T with
      | none => exact absurd rfl hT1
      | some t =>
        have ht := hT t rfl
        have hiff := isE_iff (x := i) hown
        have vi : vp_in (nI i) 121 := vp_in_nI hi (by omega)
        refine ⟨vi, ?_⟩
        rw [nI_clamp (n := i) (by omega), hv i hi]
        have fl : ¬ isE B (some t) c i = true → isE B (some t) c i = false := fun z => by cases e9 : isE B (some t) c i with
          | true => exact absurd e9 z
          | false => rfl
        have j89 : B i = none → (dst c i = 1 ∨ (hopL (land B c) c i).isSome = true) → wJ_X7_endsOf_89 z1 z2 z3 (nI t) z5 z6 z7 z8 vc v (nI c) (nI (cnt (isE B (some t) c) i)) (nI i) (nI i) P := fun a1 a2 => by
          unfold wJ_X7_endsOf_89
          refine t7_mayEnd hcv ht hc hi (bb' (fun e2 => leaf true (hiff.mpr ⟨a1, e2, a2⟩)) (fun e2 => no (fl (fun z => by
            have := (hiff.mp z).2.1
            rw [e2] at this; cases this))))
        refine bo_m1' (hB i hi) (fun e2 => ?_) (fun n e2 => no (fl (fun z => by
          have := (hiff.mp z).1
          rw [e2] at this; cases this)))
        refine t7_isNext hf hc hi (bb (fun e3 => j89 e2 (Or.inl (of_decide_eq_true e3))) (fun e3 => ⟨vi, ?_⟩))
        have e3' := of_decide_eq_false e3
        rw [hL.2.1 i hi]
        have hh := hopL_eq hL.1 hi
        cases e4 : L i with
        | none =>
          refine br_t (by decide) (no (fl (fun z => ?_)))
          rcases (hiff.mp z).2.2 with a | a
          · exact e3' a
          · rw [← hh, e4] at a; cases a
        | some l =>
          have hl := hL.2.2 i hi l e4
          refine br_f (nI_ge (b := 1000) (show l < 1000 by omega) (by decide)) (j89 e2 (Or.inr ?_))
          rw [← hh, e4]; rfl
    · show (EE B T c i).isSome = false
      rw [EE_no]; rfl
      by_cases e1 : T = none
      · exact Or.inl e1
      · refine Or.inr (fun z => ?_)
        rw [hb.mpr ⟨e1, z⟩] at e
        cases e
theorem t7_endsOf {T : Option Nat} {c : Nat} {vl vq ve : Nat → Int32} (hcv : CPA vc) (hn : NXA vn) (hf : FARA vf) (hv : BD vb B) (hB : BK B) (hT : ob 6 T) (hc : c < 121) {Q : Int32 → (Nat → Int32) → (Nat → Int32) → (Nat → Int32) → Prop} (h : ∀ vl vq ve L, BE 1000 (land B c) c vl L → (∀ k, k < 121 → ve k = bi (isE B T c k)) → Q (nI (cnt (isE B T c) 121)) vl vq ve) : wp_X7_endsOf z1 z2 z3 (oi T) z5 z6 z7 z8 vc vn vf vb vl vq ve (nI c) Q := by
  unfold wp_X7_endsOf
  have j : ∀ b : Bool, (b = true ↔ T ≠ none ∧ B c = T) → wJ_X7_endsOf_28 z1 z2 z3 (oi T) z5 z6 z7 z8 vc vn vf vb vl vq ve (nI c) 0 (bi b) Q := fun b hb => by
    unfold wJ_X7_endsOf_28
    exact t7_hopsFrom hn hv hB hc hc (fun vl' vq' L hL => t7_ends_loop hcv hf hv hB hT hc hL hb (fun v hv' => h _ _ _ L hL hv'))
  refine bo_m1 hT (fun e => j false ⟨fun z => (by cases z), fun z => absurd e z.1⟩) (fun t e => ⟨vp_in_nI hc (by omega), ?_⟩)
  rw [nI_clamp (n := c) (by omega), hv c hc]
  exact bo_eq' (hB c hc) hT rfl rfl (fun e2 => j true ⟨fun _ => ⟨by rw [e]; exact (fun z => by cases z), e2⟩, fun _ => rfl⟩) (fun e2 => j false ⟨fun z => (by cases z), fun z => absurd z.2 e2⟩)
theorem t7_hopsOf {T : Option Nat} {c x : Nat} {vl vq ve : Nat → Int32} (hcv : CPA vc) (hn : NXA vn) (hf : FARA vf) (hv : BD vb B) (hB : BK B) (hT : ob 6 T) (hc : c < 121) (hx : x < 121) {Q : Int32 → (Nat → Int32) → (Nat → Int32) → (Nat → Int32) → Prop} (h : ∀ vl vq ve, Q (oi (EE B T c x)) vl vq ve) : wp_X7_hopsOf z1 z2 z3 (oi T) z5 z6 z7 z8 vc vn vf vb vl vq ve (nI c) (nI x) Q := by
  unfold wp_X7_hopsOf
  refine t7_endsOf hcv hn hf hv hB hT hc (fun vl vq ve L hL he => ⟨vp_in_nI hx (by omega), ?_⟩)
  have h9 := h vl vq ve
  rw [nI_clamp (n := x) (by omega), he x hx]
  refine bb (fun e => t7_isNext hf hc hx (bb' (fun e2 => ?_) (fun e2 => ⟨vp_in_nI hx (by omega), ?_⟩))) (fun e => ?_)
  · have e3 : dst c x = 1 := of_decide_eq_true e2
    have e4 : EE B T c x = some 0 := by
      cases T with
      | none => cases e
      | some t =>
        have e' : ((if _ then (if _ then _ else _) else _) : Option Nat).isSome = true := e
        show (if _ then (if _ then _ else _) else _) = some 0
        by_cases e5 : B c = some t ∧ B x = none ∧ mayE t c x = true
        · rw [if_pos e5, if_pos e3]
        · rw [if_neg e5] at e'; cases e'
    rw [e4] at h9
    exact h9
  · have e3 : ¬ dst c x = 1 := of_decide_eq_false e2
    have e4 : EE B T c x = hopL (land B c) c x := by
      cases T with
      | none => cases e
      | some t =>
        have e' : ((if _ then (if _ then _ else _) else _) : Option Nat).isSome = true := e
        show (if _ then (if _ then _ else _) else _) = _
        by_cases e5 : B c = some t ∧ B x = none ∧ mayE t c x = true
        · rw [if_pos e5, if_neg e3]
        · rw [if_neg e5] at e'; cases e'
    have e6 : (EE B T c x).isSome = true := e
    rw [hL.2.1 x hx, hopL_eq hL.1 hx, ← e4]
    cases e7 : EE B T c x with
    | none => rw [e7] at e6; cases e6
    | some l => rw [e7] at h9; exact h9
  · have e6 : (EE B T c x).isSome = false := e
    cases e7 : EE B T c x with
    | none => rw [e7] at h9; exact h9
    | some l => rw [e7] at e6; cases e6
/-- a sum below n -/
def sumN (g : Nat → Nat) : Nat → Nat
  | 0 => 0
  | n + 1 => sumN g n + g n
theorem t7_allMoves {T : Option Nat} {vl vq ve : Nat → Int32} (hcv : CPA vc) (hn : NXA vn) (hf : FARA vf) (hv : BD vb B) (hB : BK B) (hT : ob 6 T) {Q : Int32 → (Nat → Int32) → (Nat → Int32) → (Nat → Int32) → Prop} (h : ∀ vl vq ve, Q (nI (sumN (fun c => cnt (isE B T c) 121) 121)) vl vq ve) : wp_X7_allMoves z1 z2 z3 (oi T) z5 z6 z7 z8 vc vn vf vb vl vq ve Q := by
  unfold wp_X7_allMoves
  intro P hP
  refine upL (P := fun (z : (Nat → Int32) × (Nat → Int32) × (Nat → Int32) × Int32) i => P z.1 z.2.1 z.2.2.1 z.2.2.2 i) (fun i z => z.2.2.2 = nI (sumN (fun c => cnt (isE B T c) 121) i)) 121 (fun z hz => hP _ _ _ _ _ ?_) (fun i z hi hz ih => hP _ _ _ _ _ ?_) 0 (by omega) (vl, vq, ve, 0) rfl
  · unfold wb_X7_allMoves_4
    rw [hz]
    exact pk_le 121 121 (fun _ => h _ _ _) (fun z => absurd z (by omega))
  · unfold wb_X7_allMoves_4
    refine pk_le 121 i (fun z => absurd z (by omega)) (fun _ => t7_endsOf hcv hn hf hv hB hT hi (fun vl vq ve L hL he => ih (vl, vq, ve, _) ?_))
    rw [hz]
    exact nI_add _ _
end REF
