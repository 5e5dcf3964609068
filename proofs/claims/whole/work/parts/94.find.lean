/-! THE ENDS: what search, hopsTo, countEnds and end answer -/
theorem BE_ex {u : Int32} {f : Nat → Nat → Option Nat} {s : Nat} (hf : ∀ c d, c < 121 → d < 6 → ob 121 (f c d)) : ∀ (m k d n : Nat) (L : Nat → Option Nat) (q : Nat → Nat) (vl vq : Nat → Int32), (121 - k) * 7 + (6 - d) ≤ m → d ≤ 6 → BS u f s vl vq L q n k d → ∃ L', BL f s L' ∧ ∀ x, x < 121 → ob 122 (L' x) := by
  intro m
  induction m with
  | zero =>
    intro k d n L q vl vq hm hd h
    have h2 := BI_le h.1
    exact ⟨L, BI_done h.1 (by omega), fun x hx => BS_ob h hx⟩
  | succ m ih =>
    intro k d n L q vl vq hm hd h
    have h2 := BI_le h.1
    by_cases hk : n ≤ k
    · exact ⟨L, BI_done h.1 hk, fun x hx => BS_ob h hx⟩
    · have hk' : k < n := by omega
      by_cases e : d = 6
      · subst e
        exact ih (k + 1) 0 n L q vl vq (by omega) (by omega) (BS_next h hk')
      · have hd' : d < 6 := by omega
        have hqk := h.1.2.2.1 k hk'
        cases e1 : f (q k) d with
        | none => exact ih k (d + 1) n L q vl vq (by omega) (by omega) (BS_none h e1)
        | some y =>
          have hy := hf _ _ hqk hd' y e1
          cases e2 : L y with
          | some j => exact ih k (d + 1) n L q vl vq (by omega) (by omega) (BS_seen h hk' e1 e2 hy)
          | none =>
            obtain ⟨l, hl⟩ := h.1.2.2.2.2.1 k hk'
            exact ih k (d + 1) (n + 1) _ _ _ _ (by omega) (by omega) (BS_add h hk' hd' e1 e2 hy hl)
/-- the levels of a search -/
noncomputable def hopL (f : Nat → Nat → Option Nat) (s : Nat) : Nat → Option Nat := Classical.epsilon (BL f s)
theorem hopL_eq {f : Nat → Nat → Option Nat} {s : Nat} {L : Nat → Option Nat} (h : BL f s L) {x : Nat} (hx : x < 121) : L x = hopL f s x := BL_eq h (Classical.epsilon_spec ⟨L, h⟩) hx
theorem hopL_ex {f : Nat → Nat → Option Nat} {s : Nat} (hs : s < 121) (hf : ∀ c d, c < 121 → d < 6 → ob 121 (f c d)) : BL f s (hopL f s) ∧ ∀ x, x < 121 → ob 122 (hopL f s x) := by
  obtain ⟨L, h1, h2⟩ := BE_ex hf _ 0 0 1 _ _ _ _ (Nat.le_refl _) (by omega) (BS_init (u := -1) (f := f) (vl := fun _ => -1) (vq := fun _ => nI s) hs (fun _ _ => rfl) rfl)
  exact ⟨Classical.epsilon_spec ⟨L, h1⟩, fun x hx => by rw [← hopL_eq h1 hx]; exact h2 x hx⟩
theorem nx_dst {c d x : Nat} (hc : c < 121) (hd : d < 6) (h : nx c d = some x) : dst c x = 1 := by
  obtain ⟨hx, h1, h2⟩ := nx_facts hc hd h
  have h3 := dst_step (s := c) hc hd h
  rw [(dst_zero hc hc).mpr rfl] at h3
  have h4 : dst c x ≠ 0 := fun e => by
    have e2 := (dst_zero hc hx).mp e
    subst e2
    rw [adf_self, adf_self] at h2
    omega
  omega
theorem dst_nx {c x : Nat} (hc : c < 121) (hx : x < 121) (h : dst c x = 1) : ∃ d, d < 6 ∧ nx c d = some x := by
  have hne : c ≠ x := fun e => by rw [(dst_zero hc hx).mpr e] at h; cases h
  obtain ⟨d, p, hd, hp, h1, h2⟩ := dst_pred hc hx hne
  have e : c = p := (dst_zero hc hp).mp (by omega)
  subst e
  exact ⟨(d + 3) % 6, by omega, (nx_facts hx hd h1).2.1⟩
/-- may a marble of t that goes from c end at x -/
def mayE (t c x : Nat) : Bool := if cp c = some ((t + 3) % 6) then decide (cp x = some ((t + 3) % 6)) else decide (cp x = none ∨ cp x = some t ∨ cp x = some ((t + 3) % 6))
theorem bo_eq {N : Nat} {a b : Option Nat} {x y : Int32} {A B : Prop} (ha : ob N a) (hb : ob N b) (hx : x = oi a) (hy : y = oi b) (f : a = b → A) (g : a ≠ b → B) (hN : N ≤ 2 ^ 31 := by decide) : (x = y → A) ∧ (¬ x = y → B) := by
  subst hx hy
  exact ⟨fun e => f (oi_inj ha hb hN e), fun e => g (fun z => e (by rw [z]))⟩
theorem bo_eq' {N : Nat} {a b : Option Nat} {x y : Int32} {A B : Prop} (ha : ob N a) (hb : ob N b) (hx : x = oi a) (hy : y = oi b) (f : a = b → A) (g : a ≠ b → B) (hN : N ≤ 2 ^ 31 := by decide) : (¬ x = y → B) ∧ (x = y → A) := ⟨(bo_eq ha hb hx hy f g hN).2, (bo_eq ha hb hx hy f g hN).1⟩
theorem t_mayEnd {Q : Int32 → Prop} {v : Nat → Int32} {t c x : Nat} (hv : CPA v) (ht : t < 6) (hc : c < 121) (hx : x < 121) (h : Q (bi (mayE t c x))) : wp_X3_mayEnd v (nI t) (nI c) (nI x) Q := by
  unfold wp_X3_mayEnd
  have hg : ob 6 (some ((t + 3) % 6)) := ob_some (by omega)
  have htb : ob 6 (some t) := ob_some ht
  refine t_goalOf ht (t_camp hv hx (t_camp hv hc ?_))
  refine bo_eq' (cp_ob hc) hg rfl rfl (fun e => ?_) (fun e => ?_)
  · refine bo_eq' (cp_ob hx) hg rfl rfl (fun e2 => ?_) (fun e2 => ?_)
    · rw [show mayE t c x = true by unfold mayE; rw [if_pos e]; exact decide_eq_true e2] at h; exact h
    · rw [show mayE t c x = false by unfold mayE; rw [if_pos e]; exact decide_eq_false e2] at h; exact h
  · refine bo_m1 (cp_ob hx) (fun e2 => ?_) (fun n e2 => ?_)
    · rw [show mayE t c x = true by unfold mayE; rw [if_neg e]; exact decide_eq_true (Or.inl e2)] at h; exact h
    · refine bo_eq (cp_ob hx) htb rfl rfl (fun e3 => ?_) (fun e3 => ?_)
      · rw [show mayE t c x = true by unfold mayE; rw [if_neg e]; exact decide_eq_true (Or.inr (Or.inl e3))] at h; exact h
      · refine bo_eq' (cp_ob hx) hg rfl rfl (fun e4 => ?_) (fun e4 => ?_)
        · rw [show mayE t c x = true by unfold mayE; rw [if_neg e]; exact decide_eq_true (Or.inr (Or.inr e4))] at h; exact h
        · rw [show mayE t c x = false by unfold mayE; rw [if_neg e]; exact decide_eq_false (fun z => by rcases z with z | z | z; · rw [z] at e2; cases e2
                                                                                                        · exact e3 z
                                                                                                        · exact e4 z)] at h; exact h
/-- the shortest chain's hops from c to the end x, 0 for a step; none where that is no end -/
noncomputable def EE (B : Nat → Option Nat) (T : Option Nat) (c x : Nat) : Option Nat := match T with
  | none => none
  | some t => if B c = some t ∧ B x = none ∧ mayE t c x = true then (if dst c x = 1 then some 0 else hopL (land B c) c x) else none
theorem EE_no {B : Nat → Option Nat} {T : Option Nat} {c x : Nat} (h : T = none ∨ B c ≠ T) : EE B T c x = none := by
  unfold EE
  cases T with
  | none => rfl
  | some t => exact if_neg (fun z => h.elim (fun e => by cases e) (fun e => e z.1))
theorem EE_ob {B : Nat → Option Nat} {T : Option Nat} {c x : Nat} (hc : c < 121) (hx : x < 121) : ob 122 (EE B T c x) := by
  unfold EE
  cases T with
  | none => exact ob_none
  | some t =>
    show ob 122 (if _ then (if _ then _ else _) else _)
    split
    · split
      · exact ob_some (by omega)
      · exact (hopL_ex hc (fun c d hc hd => land_ob hc hd)).2 x hx
    · exact ob_none
theorem t_search_none {K : (Nat → Int32) → Prop} {v0 : Nat → Int32} (h : ∀ v, (∀ k, k < 121 → v k = -1) → K v) : wl_X3_search_19 K v0 0 := by
  intro P hP
  refine upL (P := fun v i => P v i) (fun i v => ∀ k, k < i → v k = -1) 121 (fun v hv => hP _ _ ?_) (fun i v hi hv ih => hP _ _ ?_) 0 (by omega) v0 (fun k hk => absurd hk (by omega))
  · unfold wb_X3_search_19
    exact pk_le 121 121 (fun _ => h v hv) (fun z => absurd z (by omega))
  · unfold wb_X3_search_19
    refine pk_le 121 i (fun z => absurd z (by omega)) (fun _ => ⟨vp_in_nI (by omega) (by omega), ih _ ?_⟩)
    rw [nI_clamp (by omega)]
    intro k hk
    show (if k = i then _ else v k) = _
    by_cases e : k = i
    · rw [if_pos e]
    · rw [if_neg e]; exact hv k (by omega)
section SEARCH
variable {vc vn vo : Nat → Int32} {B : Nat → Option Nat}
/-- ends by hops alone -/
def E0 (L : Nat → Option Nat) (t c x : Nat) : Option Nat := match L x with
  | some (l + 1) => if mayE t c x = true then some (l + 1) else none
  | _ => none
theorem t_search_hops (hcv : CPA vc) {vl : Nat → Int32} {L : Nat → Option Nat} {t c : Nat} (ht : t < 6) (hc : c < 121) (hl : ∀ x, x < 121 → vl x = lvI (-1) (L x)) (hL : ∀ x, x < 121 → ob 122 (L x)) {K : (Nat → Int32) → Prop} {v0 : Nat → Int32} (h : ∀ v, (∀ k, k < 121 → v k = oi (E0 L t c k)) → K v) : wl_X3_search_47 vc vl (nI t) (nI c) K v0 0 := by
  intro P hP
  refine upL (P := fun v i => P v i) (fun i v => ∀ k, k < i → v k = oi (E0 L t c k)) 121 (fun v hv => hP _ _ ?_) (fun i v hi hv ih => hP _ _ ?_) 0 (by omega) v0 (fun k hk => absurd hk (by omega))
  · unfold wb_X3_search_47
    exact pk_le 121 121 (fun _ => h v hv) (fun z => absurd z (by omega))
  · unfold wb_X3_search_47
    refine pk_le 121 i (fun z => absurd z (by omega)) (fun _ => ⟨vp_in_nI (by omega) (by omega), ?_⟩)
    rw [nI_clamp (by omega), hl i hi]
    have fin : ∀ y, y = oi (E0 L t c i) → P (upd v i y) (nI i + 1) := fun y hy => ih _ (fun k hk => by
      show (if k = i then _ else v k) = _
      by_cases e : k = i
      · rw [if_pos e, e]; exact hy
      · rw [if_neg e]; exact hv k (by omega))
    have none_ : E0 L t c i = none → wJ_X3_search_77 v vl (nI i) 0 P := fun e => by
      unfold wJ_X3_search_77 wJ_X3_search_99
      refine br_t rfl ⟨vp_in_nI hi (by omega), ?_⟩
      rw [nI_clamp (by omega)]
      exact fin _ (by rw [e]; rfl)
    cases e : L i with
    | none =>
      refine br_t (by decide) (none_ ?_)
      unfold E0; rw [e]
    | some l =>
      have hlb := hL i hi l e
      cases l with
      | zero =>
        refine br_t (by decide) (none_ ?_)
        unfold E0; rw [e]
      | succ l =>
        refine br_f (nI_nle (by omega) (by omega)) (t_mayEnd hcv ht hc hi (bb' (fun e2 => ?_) (fun e2 => none_ ?_)))
        · unfold wJ_X3_search_77 wJ_X3_search_99
          refine br_f (by decide) ⟨vp_in_nI hi (by omega), vp_in_nI hi (by omega), ?_⟩
          rw [nI_clamp (by omega)]
          refine fin _ ?_
          rw [hl i hi, e]
          unfold E0
          rw [e]
          dsimp only
          rw [if_pos e2]
          rfl
        · unfold E0; rw [e]; dsimp only; rw [if_neg (by rw [e2]; decide)]
theorem t_search_steps (hcv : CPA vc) (hn : NXA vn) (hv : BD vo B) (hB : BK B) {L : Nat → Option Nat} {t c : Nat} (ht : t < 6) (hc : c < 121) {K : (Nat → Int32) → Prop} {v0 : Nat → Int32} (h0 : ∀ k, k < 121 → v0 k = oi (E0 L t c k)) (h : ∀ v, (∀ k, k < 121 → v k = oi (if dst c k = 1 ∧ B k = none ∧ mayE t c k = true then some 0 else E0 L t c k)) → K v) : wl_X3_search_108 vc vn vo (nI t) (nI c) K v0 0 := by
  intro P hP
  have key := upL (P := fun v i => P v i) (fun i v => ∀ k, k < 121 → ((∃ d, d < i ∧ nx c d = some k) → B k = none → mayE t c k = true → v k = 0) ∧ (¬ ((∃ d, d < i ∧ nx c d = some k) ∧ B k = none ∧ mayE t c k = true) → v k = oi (E0 L t c k))) 6 (fun v hv => hP _ _ ?_) (fun i v hi hiv ih => hP _ _ ?_) 0 (by omega) v0 (fun k hk => ⟨fun ⟨d, hd, _⟩ => absurd hd (by omega), fun _ => h0 k hk⟩)
  · exact key
  · unfold wb_X3_search_108
    refine pk_le 6 6 (fun _ => h v (fun k hk => ?_)) (fun z => absurd z (by omega))
    by_cases e : dst c k = 1 ∧ B k = none ∧ mayE t c k = true
    · rw [if_pos e]
      exact (hv k hk).1 (dst_nx hc hk e.1) e.2.1 e.2.2
    · rw [if_neg e]
      exact (hv k hk).2 (fun ⟨⟨d, hd, h1⟩, h2⟩ => e ⟨nx_dst hc hd h1, h2⟩)
  · unfold wb_X3_search_108
    refine pk_le 6 i (fun z => absurd z (by omega)) (fun _ => t_next hn hc hi ?_)
    have same : ¬ (∃ k, nx c i = some k ∧ B k = none ∧ mayE t c k = true) → P v (nI i + 1) := fun hno => ih _ (fun k hk => ⟨fun ⟨d, hd, h1⟩ h2 h3 => by
      by_cases e : d = i
      · subst e; exact absurd ⟨k, h1, h2, h3⟩ hno
      · exact (hiv k hk).1 ⟨d, by omega, h1⟩ h2 h3, fun z => (hiv k hk).2 (fun ⟨⟨d, hd, h1⟩, h2⟩ => z ⟨⟨d, by omega, h1⟩, h2⟩)⟩)
    cases e : nx c i with
    | none =>
      refine t_isEmpty (o := none) hv hB ob_none (bb' (fun z => by cases z) (fun _ => same (fun ⟨k, h1, _⟩ => by rw [e] at h1; cases h1)))
    | some y =>
      have hy := nx_ob hc hi y e
      refine t_isEmpty (o := some y) hv hB (ob_some hy) (bb' (fun e2 => ?_) (fun e2 => same (fun ⟨k, h1, h2, _⟩ => by
        rw [e] at h1; cases h1
        rw [show emp B (some y) = true by show (B y).isNone = true; rw [h2]; rfl] at e2
        cases e2)))
      have e3 : B y = none := Option.isNone_iff_eq_none.mp e2
      refine t_mayEnd hcv ht hc hy (bb' (fun e4 => ⟨vp_in_nI hy (by omega), ?_⟩) (fun e4 => same (fun ⟨k, h1, _, h3⟩ => by
        rw [e] at h1; cases h1
        rw [e4] at h3; cases h3)))
      rw [show (oi (some y)).toNatClampNeg = y from nI_clamp (by omega)]
      refine ih _ (fun k hk => ?_)
      show (_ → _ → _ → (if k = y then _ else v k) = _) ∧ (_ → (if k = y then _ else v k) = _)
      by_cases e5 : k = y
      · rw [if_pos e5]
        exact ⟨fun _ _ _ => rfl, fun z => absurd ⟨⟨i, by omega, by rw [e5]; exact e⟩, by rw [e5]; exact e3, by rw [e5]; exact e4⟩ z⟩
      · rw [if_neg e5]
        refine ⟨fun ⟨d, hd, h1⟩ h2 h3 => ?_, fun z => (hiv k hk).2 (fun ⟨⟨d, hd, h1⟩, h2⟩ => z ⟨⟨d, by omega, h1⟩, h2⟩)⟩
        by_cases e6 : d = i
        · subst e6; rw [e] at h1; cases h1; exact absurd rfl e5
        · exact (hiv k hk).1 ⟨d, by omega, h1⟩ h2 h3
theorem t_search (hcv : CPA vc) (hn : NXA vn) (hv : BD vo B) (hB : BK B) {T : Option Nat} {c : Nat} (hT : ob 6 T) (hc : c < 121) {Q : (Nat → Int32) → (Nat → Int32) → (Nat → Int32) → Prop} {vR vl vq : Nat → Int32} (hQ : ∀ vR vl vq, (∀ k, k < 121 → vR k = oi (EE B T c k)) → Q vR vl vq) : wp_X3_search vc vn vo vR vl vq (oi T) (nI c) Q := by
  unfold wp_X3_search
  refine bo_m1 hT (fun e => t_search_none (fun v hv0 => hQ _ _ _ (fun k hk => ?_))) (fun t e => t_owner hv hc ?_)
  · rw [hv0 k hk, EE_no (Or.inl e)]; rfl
  · subst e
    refine bo_eq (hB c hc) hT rfl rfl (fun e => ?_) (fun e => t_search_none (fun v hv0 => hQ _ _ _ (fun k hk => ?_)))
    · have ht := hT t rfl
      refine t_spread hn hv hB hc hc (fun vl vq L hL => t_search_hops hcv ht hc hL.2.1 hL.2.2 (fun v1 h1 => t_search_steps hcv hn hv hB ht hc h1 (fun v2 h2 => hQ _ _ _ (fun k hk => ?_))))
      rw [h2 k hk]
      congr 1
      show _ = (if _ then (if _ then _ else _) else _)
      have hLk := hopL_eq hL.1 hk
      by_cases e1 : dst c k = 1 ∧ B k = none ∧ mayE t c k = true
      · rw [if_pos e1, if_pos ⟨e, e1.2⟩, if_pos e1.1]
      · rw [if_neg e1]
        by_cases e2 : B c = some t ∧ B k = none ∧ mayE t c k = true
        · have e3 : ¬ dst c k = 1 := fun z => e1 ⟨z, e2.2⟩
          rw [if_pos e2, if_neg e3, ← hLk]
          unfold E0
          cases e4 : L k with
          | none => rfl
          | some l => cases l with
            | zero =>
              have e5 := hL.1.2.2.1 k hk e4
              rw [e5, e] at e2
              cases e2.2.1
            | succ l => dsimp only; rw [if_pos e2.2.2]
        · rw [if_neg e2]
          unfold E0
          cases e4 : L k with
          | none => rfl
          | some l => cases l with
            | zero => rfl
            | succ l =>
              dsimp only
              by_cases e5 : mayE t c k = true
              · obtain ⟨p, d, hp, hd, h5, h6⟩ := hL.1.2.2.2.1 k l hk e4
                obtain ⟨o, -, -, -, -, h7⟩ := land_some h6
                rcases h7 with h7 | h7
                · rw [h7, hL.1.2.1] at e4; cases e4
                · exact absurd ⟨e, h7, e5⟩ e2
              · rw [if_neg e5]
    · rw [hv0 k hk, EE_no (Or.inr e)]; rfl
theorem t_hopsTo {vR : Nat → Int32} {g : Nat → Option Nat} {x : Nat} {Q : Int32 → Prop} (hR : ∀ k, k < 121 → vR k = oi (g k)) (hx : x < 121) (h : Q (oi (g x))) : wp_X3_hopsTo vR (nI x) Q := by
  unfold wp_X3_hopsTo
  refine t_isCell hx (br_f (by decide) ⟨vp_in_nI hx (by omega), ?_⟩)
  rw [nI_clamp (by omega), hR x hx]
  exact h
/-- how many below n -/
def cnt (p : Nat → Bool) : Nat → Nat
  | 0 => 0
  | n + 1 => cnt p n + (if p n then 1 else 0)
theorem cnt_le (p : Nat → Bool) : ∀ n, cnt p n ≤ n
  | 0 => Nat.le_refl 0
  | n + 1 => by
    have h := cnt_le p n
    show cnt p n + (if p n then 1 else 0) ≤ n + 1
    split <;> omega
theorem cnt_t {p : Nat → Bool} {n : Nat} (h : p n = true) : cnt p (n + 1) = cnt p n + 1 := by
  show cnt p n + (if p n then 1 else 0) = _
  rw [if_pos h]
theorem cnt_f {p : Nat → Bool} {n : Nat} (h : p n = false) : cnt p (n + 1) = cnt p n := by
  show cnt p n + (if p n then 1 else 0) = _
  rw [if_neg (by rw [h]; decide)]; rfl
theorem cnt_ext {p q : Nat → Bool} : ∀ n, (∀ k, k < n → p k = q k) → cnt p n = cnt q n
  | 0, _ => rfl
  | n + 1, h => by
    show cnt p n + (if p n then 1 else 0) = cnt q n + (if q n then 1 else 0)
    rw [cnt_ext n (fun k hk => h k (by omega)), h n (by omega)]
theorem cnt_mono {p : Nat → Bool} {a b : Nat} (h : a ≤ b) : cnt p a ≤ cnt p b := by
  obtain ⟨m, rfl⟩ := Nat.exists_eq_add_of_le h
  induction m with
  | zero => exact Nat.le_refl _
  | succ m ih =>
    have h1 := ih (by omega)
    show cnt p a ≤ cnt p (a + m) + (if p (a + m) then 1 else 0)
    omega
theorem cnt_lt {p : Nat → Bool} {a b : Nat} (h : a < b) (ha : p a = true) : cnt p a < cnt p b := by
  have h1 := cnt_mono (p := p) (show a + 1 ≤ b by omega)
  rw [cnt_t ha] at h1
  omega
theorem cnt_inj {p : Nat → Bool} {a b : Nat} (ha : p a = true) (hb : p b = true) (h : cnt p a = cnt p b) : a = b := by
  rcases Nat.lt_trichotomy a b with h1 | h1 | h1
  · have := cnt_lt h1 ha; omega
  · exact h1
  · have := cnt_lt h1 hb; omega
theorem cnt_kth {p : Nat → Bool} : ∀ (n j : Nat), j < cnt p n → ∃ a, a < n ∧ p a = true ∧ cnt p a = j
  | 0, j, h => absurd h (Nat.not_lt_zero j)
  | n + 1, j, h => by
    by_cases e : j < cnt p n
    · obtain ⟨a, h1, h2⟩ := cnt_kth n j e
      exact ⟨a, by omega, h2⟩
    · cases e2 : p n with
      | true => rw [cnt_t e2] at h; exact ⟨n, by omega, e2, by omega⟩
      | false => rw [cnt_f e2] at h; exact absurd h e
/-- is it an end -/
noncomputable def isE (B : Nat → Option Nat) (T : Option Nat) (c x : Nat) : Bool := (EE B T c x).isSome
theorem t_countEnds {vR : Nat → Int32} {g : Nat → Option Nat} {Q : Int32 → Prop} (hR : ∀ k, k < 121 → vR k = oi (g k)) (hg : ∀ k, k < 121 → ob 122 (g k)) (h : Q (nI (cnt (fun k => (g k).isSome) 121))) : wp_X3_countEnds vR Q := by
  unfold wp_X3_countEnds
  intro P hP
  refine upL (P := fun v i => P v i) (fun i v => v = nI (cnt (fun k => (g k).isSome) i)) 121 (fun v hv => hP _ _ ?_) (fun i v hi hv ih => hP _ _ ?_) 0 (by omega) 0 rfl
  · unfold wb_X3_countEnds_4
    rw [hv]
    exact pk_le 121 121 (fun _ => h) (fun z => absurd z (by omega))
  · unfold wb_X3_countEnds_4
    refine pk_le 121 i (fun z => absurd z (by omega)) (fun _ => ⟨vp_in_nI (by omega) (by omega), ?_⟩)
    rw [nI_clamp (by omega), hR i hi]
    refine bo_m1 (hg i hi) (fun e => ih _ ?_) (fun n e => ih _ ?_)
    · rw [cnt_f (by show (g i).isSome = false; rw [e]; rfl)]; exact hv
    · rw [cnt_t (by show (g i).isSome = true; rw [e]; rfl), ← nI_1, hv]
theorem t_end {vR : Nat → Int32} {g : Nat → Option Nat} {k : Int32} {Q : Int32 → Prop} (hR : ∀ k, k < 121 → vR k = oi (g k)) (hg : ∀ k, k < 121 → ob 122 (g k)) (h1 : ∀ r, r < 121 → (g r).isSome = true → k = nI (cnt (fun k => (g k).isSome) r) → Q (nI r)) (h0 : (∀ r, r < 121 → (g r).isSome = true → ¬ k = nI (cnt (fun k => (g k).isSome) r)) → Q (-1)) : wp_X3_end vR k Q := by
  unfold wp_X3_end
  intro P hP
  refine upL (P := fun v i => P v i) (fun i v => v = nI (cnt (fun k => (g k).isSome) i) ∧ ∀ r, r < i → (g r).isSome = true → ¬ k = nI (cnt (fun k => (g k).isSome) r)) 121 (fun v hv => hP _ _ ?_) (fun i v hi hv ih => hP _ _ ?_) 0 (by omega) 0 ⟨rfl, fun r hr => absurd hr (by omega)⟩
  · unfold wb_X3_end_4
    exact pk_le 121 121 (fun _ => h0 hv.2) (fun z => absurd z (by omega))
  · unfold wb_X3_end_4
    refine pk_le 121 i (fun z => absurd z (by omega)) (fun _ => ⟨vp_in_nI (by omega) (by omega), ?_⟩)
    rw [nI_clamp (by omega), hR i hi]
    refine bo_m1 (hg i hi) (fun e => ih _ ⟨?_, fun r hr hs => ?_⟩) (fun n e => ⟨fun e2 => ih _ ⟨?_, fun r hr hs => ?_⟩, fun e2 => ?_⟩)
    · rw [cnt_f (by show (g i).isSome = false; rw [e]; rfl)]; exact hv.1
    · by_cases e3 : r = i
      · subst e3; rw [e] at hs; cases hs
      · exact hv.2 r (by omega) hs
    · rw [cnt_t (by show (g i).isSome = true; rw [e]; rfl), ← nI_1, hv.1]
    · by_cases e3 : r = i
      · subst e3; intro z; exact e2 (hv.1.trans z.symm)
      · exact hv.2 r (by omega) hs
    · exact h1 i hi (by rw [e]; rfl) (e2.symm.trans hv.1)
end SEARCH
