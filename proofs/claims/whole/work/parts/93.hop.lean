/-! THE SEARCHES of the class and of the reference find the same levels -/
theorem upL {σ : Type} {P : σ → Int32 → Prop} (I : Nat → σ → Prop) (N : Nat) (he : ∀ s, I N s → P s (nI N)) (hs : ∀ i s, i < N → I i s → (∀ s', I (i + 1) s' → P s' (nI i + 1)) → P s (nI i)) : ∀ (i : Nat), i ≤ N → ∀ s, I i s → P s (nI i) := by
  have key : ∀ m i, i + m = N → ∀ s, I i s → P s (nI i) := by
    intro m
    induction m with
    | zero => intro i hi s h; have e : i = N := by omega
              subst e; exact he s h
    | succ m ih => intro i hi s h; exact hs i s (by omega) h (fun s' h' => by rw [nI_1]; exact ih (i + 1) (by omega) s' h')
  intro i hi s h
  exact key (N - i) i (by omega) s h
/-- a level as an int: u where there is none -/
def lvI (u : Int32) (o : Option Nat) : Int32 := match o with
  | none => u
  | some l => nI l
theorem lvI_eq {u : Int32} {o : Option Nat} (hu : ∀ l, l < 122 → ¬ nI l = u) (ho : ob 122 o) : lvI u o = u ↔ o = none := by
  cases o with
  | none => exact ⟨fun _ => rfl, fun _ => rfl⟩
  | some l => exact ⟨fun e => absurd e (hu l (ho l rfl)), fun e => by cases e⟩
theorem u_m1 : ∀ l, l < 122 → ¬ nI l = (-1 : Int32) := fun l hl => nI_m1 (by omega)
theorem u_far : ∀ l, l < 122 → ¬ nI l = (1000 : Int32) := fun l hl e => by
  have := nI_inj (by omega) (by omega) (show nI l = nI 1000 from e)
  omega
/-- the search's arrays hold what BI speaks of -/
def BS (u : Int32) (f : Nat → Nat → Option Nat) (s : Nat) (vl vq : Nat → Int32) (L : Nat → Option Nat) (q : Nat → Nat) (n k d : Nat) : Prop :=
  BI f s L q n k d ∧ (∀ i l, i < n → L (q i) = some l → l ≤ i) ∧ (∀ x, x < 121 → vl x = lvI u (L x)) ∧ (∀ i, i < n → vq i = nI (q i))
section BSL
variable {u : Int32} {f : Nat → Nat → Option Nat} {s : Nat} {vl vq : Nat → Int32} {L : Nat → Option Nat} {q : Nat → Nat} {n k d : Nat}
theorem BS_ob (h : BS u f s vl vq L q n k d) {x : Nat} (hx : x < 121) : ob 122 (L x) := fun l e => by
  obtain ⟨i, hi, e1⟩ := h.1.2.2.2.2.2.1 x hx ⟨l, e⟩
  have h1 := h.2.1 i l hi (by rw [e1]; exact e)
  have h2 := BI_le h.1
  omega
theorem BS_none (h : BS u f s vl vq L q n k d) (hf : f (q k) d = none) : BS u f s vl vq L q n k (d + 1) := ⟨BI_none h.1 hf, h.2⟩
theorem BS_seen (h : BS u f s vl vq L q n k d) (hk : k < n) {y j : Nat} (hf : f (q k) d = some y) (hL : L y = some j) (hy : y < 121) : BS u f s vl vq L q n k (d + 1) := ⟨BI_seen h.1 hk hf hL hy, h.2⟩
theorem BS_add (h : BS u f s vl vq L q n k d) (hk : k < n) (hd : d < 6) {y l : Nat} (hf : f (q k) d = some y) (hN : L y = none) (hy : y < 121) (hl : L (q k) = some l) : BS u f s (upd vl y (nI (l + 1))) (upd vq n (nI y)) (fu L y (some (l + 1))) (fu q n y) (n + 1) k (d + 1) := by
  refine ⟨BI_add h.1 hk hd hf hN hy hl, fun i j hi e => ?_, fun x hx => ?_, fun i hi => ?_⟩
  · have h9 := h.2.1 k l hk hl
    by_cases e1 : i = n
    · rw [e1, fu_s, fu_s] at e; cases e; omega
    · rw [fu_n e1] at e
      by_cases e2 : q i = y
      · have := h.1.2.2.2.2.1 i (by omega)
        obtain ⟨z, hz⟩ := this
        rw [e2, hN] at hz; cases hz
      · rw [fu_n e2] at e; exact h.2.1 i j (by omega) e
  · show (if x = y then _ else vl x) = lvI u (if x = y then _ else L x)
    by_cases e : x = y
    · rw [if_pos e, if_pos e]; rfl
    · rw [if_neg e, if_neg e]; exact h.2.2.1 x hx
  · show (if i = n then _ else vq i) = nI (if i = n then _ else q i)
    by_cases e : i = n
    · rw [if_pos e, if_pos e]
    · rw [if_neg e, if_neg e]; exact h.2.2.2 i (by omega)
theorem BS_init (hs : s < 121) (h0 : ∀ x, x < 121 → vl x = u) (h1 : vq 0 = nI s) : BS u f s (upd vl s (nI 0)) vq (fu (fun _ => none) s (some 0)) (fun _ => s) 1 0 0 := by
  refine ⟨BI_init (L0 := fun _ => none) hs (fun _ _ => rfl) rfl, fun i l hi e => ?_, fun x hx => ?_, fun i hi => ?_⟩
  · rw [fu_s] at e; cases e; exact Nat.zero_le _
  · show (if x = s then _ else vl x) = lvI u (if x = s then _ else none)
    by_cases e : x = s
    · rw [if_pos e, if_pos e]; rfl
    · rw [if_neg e, if_neg e]; exact h0 x hx
  · have e : i = 0 := by omega
    rw [e]; exact h1
theorem BS_next (h : BS u f s vl vq L q n k 6) (hk : k < n) : BS u f s vl vq L q n (k + 1) 0 := ⟨BI_next h.1 hk, h.2⟩
end BSL
/-- what a search leaves -/
def BE (u : Int32) (f : Nat → Nat → Option Nat) (s : Nat) (vl : Nat → Int32) (L : Nat → Option Nat) : Prop := BL f s L ∧ (∀ x, x < 121 → vl x = lvI u (L x)) ∧ (∀ x, x < 121 → ob 122 (L x))
section SPREAD
variable {vn vo : Nat → Int32} {B : Nat → Option Nat} {g s : Nat}
theorem t_spread_fill {K : (Nat → Int32) → Prop} {vl : Nat → Int32} (h : ∀ v, (∀ k, k < 121 → v k = -1) → K v) : wl_X3_spread_2 K vl 0 := by
  intro P hP
  refine upL (P := fun v i => P v i) (fun i v => ∀ k, k < i → v k = -1) 121 (fun v hv => hP _ _ ?_) (fun i v hi hv ih => hP _ _ ?_) 0 (by omega) vl (fun k hk => absurd hk (by omega))
  · unfold wb_X3_spread_2
    exact pk_le 121 121 (fun _ => h v hv) (fun z => absurd z (by omega))
  · unfold wb_X3_spread_2
    refine pk_le 121 i (fun z => absurd z (by omega)) (fun _ => ⟨vp_in_nI (by omega) (by omega), ih _ ?_⟩)
    rw [nI_clamp (by omega)]
    intro k hk
    show (if k = i then _ else v k) = _
    by_cases e : k = i
    · rw [if_pos e]
    · rw [if_neg e]; exact hv k (by omega)
theorem t_spread_in (hn : NXA vn) (hv : BD vo B) (hB : BK B) (hg : g < 121) {K : (Nat → Int32) → (Nat → Int32) → Int32 → Prop} {k c : Nat} {vl vq : Nat → Int32} {n : Nat} {L : Nat → Option Nat} {q : Nat → Nat} (h : BS (-1) (land B g) s vl vq L q n k 0) (hk : k < n) (hc : q k = c) (hK : ∀ vl' vq' n' L' q', BS (-1) (land B g) s vl' vq' L' q' n' k 6 → k < n' → K vl' vq' (nI n')) : wl_X3_spread_73 vn vo (nI g) (nI c) K vl vq (nI n) 0 := by
  intro P hP
  refine upL (P := fun (z : (Nat → Int32) × (Nat → Int32) × Int32) i => P z.1 z.2.1 z.2.2 i) (fun d z => ∃ n L q, z.2.2 = nI n ∧ BS (-1) (land B g) s z.1 z.2.1 L q n k d ∧ k < n ∧ q k = c) 6 (fun z hz => hP _ _ _ _ ?_) (fun d z hd hz ih => hP _ _ _ _ ?_) 0 (by omega) (vl, vq, nI n) ⟨n, L, q, rfl, h, hk, hc⟩
  · obtain ⟨n, L, q, e, h1, h2, h3⟩ := hz
    unfold wb_X3_spread_73
    refine pk_le 6 6 (fun _ => ?_) (fun z => absurd z (by omega))
    rw [e]
    exact hK _ _ _ _ _ h1 h2
  · obtain ⟨n, L, q, e, h1, h2, h3⟩ := hz
    obtain ⟨vl, vq, x⟩ := z
    dsimp only at e h1 ⊢
    subst e
    have hcl : c < 121 := by rw [← h3]; exact h1.1.2.2.1 k h2
    unfold wb_X3_spread_73
    refine pk_le 6 d (fun z => absurd z (by omega)) (fun _ => t_landing hn hv hB hcl hd hg (bo_m1 (land_ob hcl hd) (fun e => ?_) (fun y e => ?_)))
    · exact ih (vl, vq, nI n) ⟨n, L, q, rfl, BS_none h1 (by rw [h3]; exact e), h2, h3⟩
    · have hy := land_ob hcl hd y e
      rw [e, oi_some]
      refine ⟨vp_in_nI hy (by omega), ?_⟩
      rw [nI_clamp (by omega), h1.2.2.1 y hy]
      have hlv := lvI_eq u_m1 (BS_ob h1 hy)
      refine ⟨fun z => ?_, fun z => ?_⟩
      · cases e2 : L y with
        | none => exact absurd (hlv.mpr e2) z
        | some j => exact ih (vl, vq, nI n) ⟨n, L, q, rfl, BS_seen h1 h2 (by rw [h3]; exact e) e2 hy, h2, h3⟩
      · have hN := hlv.mp z
        have hroom := BI_room h1.1 hy hN
        obtain ⟨l, hl⟩ := h1.1.2.2.2.2.1 k h2
        refine pk_le 121 n (fun z => absurd z (by omega)) (fun _ => ⟨vp_in_nI hcl (by omega), vp_in_nI hy (by omega), vp_in_nI hroom (by omega), ?_⟩)
        rw [nI_clamp (by omega), nI_clamp (by omega), h1.2.2.1 c hcl, ← h3, hl]
        show P (upd vl y (nI l + 1)) _ _ _
        rw [nI_1, nI_1]
        exact ih (upd vl y (nI (l + 1)), upd vq n (nI y), nI (n + 1)) ⟨n + 1, _, _, rfl, BS_add h1 h2 hd (by rw [h3]; exact e) hN hy hl, by omega, by rw [fu_n (by omega)]; exact h3⟩
theorem t_spread_out (hn : NXA vn) (hv : BD vo B) (hB : BK B) (hg : g < 121) {K : (Nat → Int32) → (Nat → Int32) → Prop} {vl vq : Nat → Int32} {n : Nat} {L : Nat → Option Nat} {q : Nat → Nat} (h : BS (-1) (land B g) s vl vq L q n 0 0) (hK : ∀ vl' vq' L', BE (-1) (land B g) s vl' L' → K vl' vq') : wl_X3_spread_48 vn vo (nI g) K vl vq (nI n) 0 := by
  intro P hP
  have key : ∀ m k n L q vl vq, k + m = 121 → BS (-1) (land B g) s vl vq L q n k 0 → P vl vq (nI n) (nI k) := by
    intro m
    induction m with
    | zero =>
      intro k n L q vl vq hk h1
      have h2 := BI_le h1.1
      refine hP _ _ _ _ ?_
      unfold wb_X3_spread_48
      exact pk_le n k (fun z => hK _ _ L ⟨BI_done h1.1 z, h1.2.2.1, fun x hx => BS_ob h1 hx⟩) (fun z => absurd z (by omega))
    | succ m ih =>
      intro k n L q vl vq hk h1
      have h2 := BI_le h1.1
      refine hP _ _ _ _ ?_
      unfold wb_X3_spread_48
      refine pk_le n k (fun z => hK _ _ L ⟨BI_done h1.1 z, h1.2.2.1, fun x hx => BS_ob h1 hx⟩) (fun z => pk_le 121 k (fun z2 => absurd z2 (by omega)) (fun _ => ⟨vp_in_nI (by omega) (by omega), ?_⟩))
      rw [nI_clamp (by omega), h1.2.2.2 k z]
      refine t_spread_in hn hv hB hg h1 z rfl (fun vl' vq' n' L' q' h3 h4 => ?_)
      rw [nI_1]
      exact ih (k + 1) n' L' q' vl' vq' (by omega) (BS_next h3 h4)
  exact key 121 0 n L q vl vq (by omega) h
theorem t_spread (hn : NXA vn) (hv : BD vo B) (hB : BK B) (hg : g < 121) (hs : s < 121) {Q : (Nat → Int32) → (Nat → Int32) → Prop} {vl vq : Nat → Int32} (hQ : ∀ vl' vq' L, BE (-1) (land B g) s vl' L → Q vl' vq') : wp_X3_spread vn vo vl vq (nI s) (nI g) Q := by
  unfold wp_X3_spread
  refine t_spread_fill (fun v hv0 => t_isCell hs ?_)
  refine ⟨fun _ => ⟨vp_in_nI hs (by omega), vp_in_nI (n := 0) (by omega) (by omega), ?_⟩, fun z => absurd z (by decide)⟩
  rw [nI_clamp (n := s) (by omega), show (0 : Int32).toNatClampNeg = 0 from by decide]
  exact t_spread_out hn hv hB hg (BS_init hs hv0 (by show (if 0 = 0 then _ else vq 0) = _; rw [if_pos rfl])) hQ
end SPREAD
