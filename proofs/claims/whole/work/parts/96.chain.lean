/-! CHAINS: both sides go back along the same cells -/
/-- the lowest of the cells behind y, in the first n directions, that lie m hops away -/
def lown (B : Nat → Option Nat) (g : Nat) (L : Nat → Option Nat) (m y : Nat) : Nat → Option Nat
  | 0 => none
  | n + 1 => match land B g y n with
    | none => lown B g L m y n
    | some b => if L b = some m then (match lown B g L m y n with
      | none => some b
      | some a => if a ≤ b then some a else some b) else lown B g L m y n
section LOW
variable {B : Nat → Option Nat} {g : Nat} {L : Nat → Option Nat} {m y : Nat}
theorem lown_none {n : Nat} (h : land B g y n = none) : lown B g L m y (n + 1) = lown B g L m y n := by
  show (match land B g y n with | none => _ | some b => _) = _
  rw [h]
theorem lown_far {n b : Nat} (h : land B g y n = some b) (h2 : ¬ L b = some m) : lown B g L m y (n + 1) = lown B g L m y n := by
  show (match land B g y n with | none => _ | some b => _) = _
  rw [h]
  exact if_neg h2
theorem lown_first {n b : Nat} (h : land B g y n = some b) (h2 : L b = some m) (h3 : lown B g L m y n = none) : lown B g L m y (n + 1) = some b := by
  show (match land B g y n with | none => _ | some b => _) = _
  rw [h]
  dsimp only
  rw [if_pos h2, h3]
theorem lown_le {n b a : Nat} (h : land B g y n = some b) (h2 : L b = some m) (h3 : lown B g L m y n = some a) (h4 : a ≤ b) : lown B g L m y (n + 1) = some a := by
  show (match land B g y n with | none => _ | some b => _) = _
  rw [h]
  dsimp only
  rw [if_pos h2, h3]
  dsimp only
  rw [if_pos h4]
theorem lown_gt {n b a : Nat} (h : land B g y n = some b) (h2 : L b = some m) (h3 : lown B g L m y n = some a) (h4 : ¬ a ≤ b) : lown B g L m y (n + 1) = some b := by
  show (match land B g y n with | none => _ | some b => _) = _
  rw [h]
  dsimp only
  rw [if_pos h2, h3]
  dsimp only
  rw [if_neg h4]
theorem lown_ok (hy : y < 121) : ∀ n, n ≤ 6 → ∀ a, lown B g L m y n = some a → a < 121 ∧ L a = some m
  | 0, _, a, h => by cases h
  | n + 1, hn, a, h => by
    have ih := lown_ok hy n (by omega)
    cases e : land B g y n with
    | none => rw [lown_none e] at h; exact ih a h
    | some b =>
      have hb := land_ob hy (by omega) b e
      by_cases e2 : L b = some m
      · cases e3 : lown B g L m y n with
        | none => rw [lown_first e e2 e3] at h; cases h; exact ⟨hb, e2⟩
        | some a' =>
          by_cases e4 : a' ≤ b
          · rw [lown_le e e2 e3 e4] at h; cases h; exact ih _ e3
          · rw [lown_gt e e2 e3 e4] at h; cases h; exact ⟨hb, e2⟩
      · rw [lown_far e e2] at h; exact ih a h
theorem lown_ex {d b : Nat} (h : land B g y d = some b) (h2 : L b = some m) : ∀ n, d < n → ∃ a, lown B g L m y n = some a
  | 0, hd => absurd hd (Nat.not_lt_zero d)
  | n + 1, hd => by
    by_cases e : d = n
    · subst e
      cases e3 : lown B g L m y d with
      | none => exact ⟨b, lown_first h h2 e3⟩
      | some a =>
        by_cases e4 : a ≤ b
        · exact ⟨a, lown_le h h2 e3 e4⟩
        · exact ⟨b, lown_gt h h2 e3 e4⟩
    · obtain ⟨a, ha⟩ := lown_ex h h2 n (by omega)
      cases e : land B g y n with
      | none => exact ⟨a, by rw [lown_none e]; exact ha⟩
      | some b' =>
        by_cases e2 : L b' = some m
        · by_cases e4 : a ≤ b'
          · exact ⟨a, lown_le e e2 ha e4⟩
          · exact ⟨b', lown_gt e e2 ha e4⟩
        · exact ⟨a, by rw [lown_far e e2]; exact ha⟩
theorem lown_ob (hy : y < 121) {n : Nat} (hn : n ≤ 6) : ob 121 (lown B g L m y n) := fun a h => (lown_ok hy n hn a h).1
end LOW
/-- the k-th cell of the chain from g, M hops away from the search's start -/
def chn (B : Nat → Option Nat) (g : Nat) (L : Nat → Option Nat) (M : Nat) : Nat → Nat
  | 0 => g
  | k + 1 => (lown B g L (M - 1 - k) (chn B g L M k) 6).getD 0
theorem chn_step {B : Nat → Option Nat} {g s : Nat} {L : Nat → Option Nat} {y m : Nat} (hL : BL (land B g) s L) (hs : s = g ∨ B s = none) (hy : y < 121) (e : L y = some (m + 1)) : ∃ a, lown B g L m y 6 = some a ∧ a < 121 ∧ L a = some m := by
  obtain ⟨p, d, hp, hd, h1, h2⟩ := hL.2.2.2.1 y m hy e
  have hG : ∀ l x, x < 121 → L x = some l → x = g ∨ B x = none := fun l x hx e1 => by
    cases l with
    | zero => rw [hL.2.2.1 x hx e1]; exact hs
    | succ l =>
      obtain ⟨p', d', -, -, -, h4⟩ := hL.2.2.2.1 x l hx e1
      obtain ⟨o, -, -, -, -, h5⟩ := land_some h4
      exact h5
  have hb := land_back hp hd (hG m p hp h1) h2
  obtain ⟨a, ha⟩ := lown_ex hb h1 6 (by omega)
  exact ⟨a, ha, lown_ok hy 6 (Nat.le_refl 6) a ha⟩
theorem chn_ok {B : Nat → Option Nat} {g s M : Nat} {L : Nat → Option Nat} (hL : BL (land B g) s L) (hs : s = g ∨ B s = none) (hg : g < 121) (e : L g = some M) : ∀ k, k ≤ M → chn B g L M k < 121 ∧ L (chn B g L M k) = some (M - k)
  | 0, _ => ⟨hg, e⟩
  | k + 1, hk => by
    obtain ⟨h1, h2⟩ := chn_ok hL hs hg e k (by omega)
    obtain ⟨a, h3, h4, h5⟩ := chn_step (m := M - 1 - k) hL hs h1 (by rw [h2]; congr 1; omega)
    have h6 : chn B g L M (k + 1) = a := by
      show (lown B g L (M - 1 - k) (chn B g L M k) 6).getD 0 = a
      rw [h3]; rfl
    rw [h6]
    exact ⟨h4, by rw [h5]; congr 1; omega⟩
/-- a level is m just where the int is -/
theorem lvI_m {u : Int32} {o : Option Nat} {m : Nat} (hu : ¬ nI m = u) (ho : ob 122 o) (hm : m < 122) : lvI u o = nI m ↔ o = some m := by
  cases o with
  | none => exact ⟨fun e => absurd e.symm hu, fun e => by cases e⟩
  | some l =>
    have hl := ho l rfl
    exact ⟨fun e => by rw [nI_inj (by omega) (by omega) (show nI l = nI m from e)], fun e => by cases e; rfl⟩
section CH
variable {z1 z2 z3 z4 z5 z6 z7 z8 : Int32} {vn vo vl : Nat → Int32} {B : Nat → Option Nat} {g s : Nat} {L : Nat → Option Nat}
theorem t_lowestNearer (hn : NXA vn) (hv : BD vo B) (hB : BK B) (hg : g < 121) (hL : ∀ x, x < 121 → vl x = lvI (-1) (L x)) (hLb : ∀ x, x < 121 → ob 122 (L x)) {y m : Nat} (hy : y < 121) (e : L y = some (m + 1)) {Q : Int32 → Prop} (h : Q (oi (lown B g L m y 6))) : wp_X3_lowestNearer vn vo vl (nI y) (nI g) Q := by
  unfold wp_X3_lowestNearer
  have hm := hLb y hy (m + 1) e
  intro P hP
  refine upL (P := fun v i => P v i) (fun i v => v = oi (lown B g L m y i)) 6 (fun v hv => hP _ _ ?_) (fun i v hi hv9 ih => hP _ _ ?_) 0 (by omega) (-1) rfl
  · unfold wb_X3_lowestNearer_5
    rw [hv]
    exact pk_le 6 6 (fun _ => h) (fun z => absurd z (by omega))
  · unfold wb_X3_lowestNearer_5
    subst hv9
    refine pk_le 6 i (fun z => absurd z (by omega)) (fun _ => t_landing hn hv hB hy hi hg (bo_m1 (land_ob hy hi) (fun e1 => ?_) (fun b e1 => ?_)))
    · unfold wJ_X3_lowestNearer_51
      exact br_t rfl (ih _ (by rw [lown_none e1]))
    · have hb := land_ob hy hi b e1
      rw [e1, oi_some]
      refine ⟨vp_in_nI hb (by omega), vp_in_nI hy (by omega), ?_⟩
      rw [nI_clamp (n := b) (by omega), nI_clamp (n := y) (by omega), hL b hb, hL y hy, e]
      have e9 : lvI (-1) (some (m + 1)) - 1 = nI m := nI_pred m
      rw [e9]
      have hiff := lvI_m (u := -1) (m := m) (nI_m1 (by omega)) (hLb b hb) (by omega)
      refine ⟨fun z => ?_, fun z => ?_⟩
      · unfold wJ_X3_lowestNearer_51
        exact br_t rfl (ih _ (by rw [lown_far e1 (fun z2 => z (hiff.mpr z2))]))
      · have e2 := hiff.mp z
        unfold wJ_X3_lowestNearer_51
        refine br_f (by decide) (bo_m1 (lown_ob hy (by omega)) (fun e3 => ih _ (by rw [lown_first e1 e2 e3]; rfl)) (fun a e3 => ?_))
        have ha := lown_ob hy (by omega) a e3
        rw [e3]
        exact pk_le a b (fun z => ih _ (by rw [lown_le e1 e2 e3 z])) (fun z => ih _ (by rw [lown_gt e1 e2 e3 (by omega)]; rfl))
theorem t_cellBehind (hn : NXA vn) (hv : BD vo B) (hB : BK B) (hg : g < 121) (hs : s < 121) (hsE : s = g ∨ B s = none) {M hop : Nat} (hM : hopL (land B g) s g = some M) (hhop : hop < M) {vl vq : Nat → Int32} {Q : Int32 → (Nat → Int32) → (Nat → Int32) → Prop} (h : ∀ vl vq, Q (nI (chn B g (hopL (land B g) s) M (hop + 1))) vl vq) : wp_X3_cellBehind vn vo vl vq (nI g) (nI s) (nI hop) Q := by
  unfold wp_X3_cellBehind
  refine t_spread hn hv hB hg hs (fun vl' vq' L' hL' => ?_)
  obtain ⟨hb1, hb2⟩ := hopL_ex (f := land B g) hs (fun c d hc hd => land_ob hc hd)
  have hvl : ∀ x, x < 121 → vl' x = lvI (-1) (hopL (land B g) s x) := fun x hx => by rw [hL'.2.1 x hx, hopL_eq hL'.1 hx]
  have hMb := hb2 g hg M hM
  intro P hP
  refine upL (P := fun v i => P v i) (fun i v => v = nI (chn B g (hopL (land B g) s) M i)) (hop + 1) (fun v hv => hP _ _ ?_) (fun i v hi hv9 ih => hP _ _ ?_) 0 (by omega) (nI g) rfl
  · unfold wb_X3_cellBehind_12
    rw [hv]
    exact pk_lt hop (hop + 1) (fun _ => h _ _) (fun z => absurd z (by omega))
  · unfold wb_X3_cellBehind_12
    subst hv9
    obtain ⟨h1, h2⟩ := chn_ok hb1 hsE hg hM i (by omega)
    refine pk_lt hop i (fun z => absurd z (by omega)) (fun _ => br_f (nI_m1 (by omega)) ?_)
    have h3 : hopL (land B g) s (chn B g (hopL (land B g) s) M i) = some ((M - 1 - i) + 1) := by rw [h2]; congr 1; omega
    refine t_lowestNearer hn hv hB hg hvl hb2 h1 h3 (ih _ ?_)
    obtain ⟨a, h4, -, -⟩ := chn_step hb1 hsE h1 h3
    show oi (lown B g (hopL (land B g) s) (M - 1 - i) (chn B g (hopL (land B g) s) M i) 6) = nI ((lown B g (hopL (land B g) s) (M - 1 - i) (chn B g (hopL (land B g) s) M i) 6).getD 0)
    rw [h4]; rfl
theorem t7_chain_in (hn : NXA vn) (hv : BD vo B) (hB : BK B) (hg : g < 121) (hL : ∀ x, x < 121 → vl x = lvI 1000 (L x)) (hLb : ∀ x, x < 121 → ob 122 (L x)) {y m M k : Nat} (hy : y < 121) (hm : m + k + 1 = M) (hM : M < 122) {K : Int32 → Prop} (h : K (oi (lown B g L m y 6))) : wl_X7_chainAt_78 z1 z2 z3 z4 z5 z6 z7 z8 vn vo vl (nI g) (nI M) (nI y) (nI k) K (-1) 0 := by
  intro P hP
  refine upL (P := fun v i => P v i) (fun i v => v = oi (lown B g L m y i)) 6 (fun v hv => hP _ _ ?_) (fun i v hi hv9 ih => hP _ _ ?_) 0 (by omega) (-1) rfl
  · unfold wb_X7_chainAt_78
    rw [hv]
    exact pk_le 6 6 (fun _ => h) (fun z => absurd z (by omega))
  · unfold wb_X7_chainAt_78
    subst hv9
    refine pk_le 6 i (fun z => absurd z (by omega)) (fun _ => t7_behind hn hv hB hy hi hg (bo_m1 (land_ob hy hi) (fun e1 => ?_) (fun b e1 => ?_)))
    · exact ih _ (by rw [lown_none e1])
    · have hb := land_ob hy hi b e1
      rw [e1, oi_some]
      refine ⟨vp_in_nI hb (by omega), ?_⟩
      have e9 : nI M - 1 - nI k = nI m := by
        rw [show (1 : Int32) = nI 1 from rfl, pk_sub (by omega), pk_sub (by omega)]
        congr 1
        omega
      rw [nI_clamp (n := b) (by omega), hL b hb, e9]
      have hiff := lvI_m (u := 1000) (m := m) (u_far m (by omega)) (hLb b hb) (by omega)
      refine ⟨fun z => ih _ (by rw [lown_far e1 (fun z2 => z (hiff.mpr z2))]), fun z => ?_⟩
      have e2 := hiff.mp z
      refine bo_m1 (lown_ob hy (by omega)) (fun e3 => ih _ (by rw [lown_first e1 e2 e3]; rfl)) (fun a e3 => ?_)
      have ha := lown_ob hy (by omega) a e3
      rw [e3]
      exact pk_le a b (fun z => ih _ (by rw [lown_le e1 e2 e3 z])) (fun z => ih _ (by rw [lown_gt e1 e2 e3 (by omega)]; rfl))
theorem t7_chain (hn : NXA vn) (hv : BD vo B) (hB : BK B) (hg : g < 121) (hs : s < 121) (hsE : s = g ∨ B s = none) {M hop : Nat} (hM : hopL (land B g) s g = some M) (hhop : hop < M) (hL : ∀ x, x < 121 → vl x = lvI 1000 (hopL (land B g) s x)) {K : Int32 → Prop} (h : K (nI (chn B g (hopL (land B g) s) M (hop + 1)))) : wl_X7_chainAt_66 z1 z2 z3 z4 z5 z6 z7 z8 vn vo vl (nI g) (nI hop) (nI M) K (nI g) 0 := by
  obtain ⟨hb1, hb2⟩ := hopL_ex (f := land B g) hs (fun c d hc hd => land_ob hc hd)
  have hMb := hb2 g hg M hM
  intro P hP
  refine upL (P := fun v i => P v i) (fun i v => v = nI (chn B g (hopL (land B g) s) M i)) (hop + 1) (fun v hv => hP _ _ ?_) (fun i v hi hv9 ih => hP _ _ ?_) 0 (by omega) (nI g) rfl
  · unfold wb_X7_chainAt_66
    rw [hv]
    exact pk_lt hop (hop + 1) (fun _ => h) (fun z => absurd z (by omega))
  · unfold wb_X7_chainAt_66
    subst hv9
    obtain ⟨h1, h2⟩ := chn_ok hb1 hsE hg hM i (by omega)
    refine pk_lt hop i (fun z => absurd z (by omega)) (fun _ => ?_)
    have h3 : hopL (land B g) s (chn B g (hopL (land B g) s) M i) = some ((M - 1 - i) + 1) := by rw [h2]; congr 1; omega
    refine t7_chain_in (m := M - 1 - i) hn hv hB hg hL hb2 h1 (by omega) (by omega) (ih _ ?_)
    obtain ⟨a, h4, -, -⟩ := chn_step hb1 hsE h1 h3
    show oi (lown B g (hopL (land B g) s) (M - 1 - i) (chn B g (hopL (land B g) s) M i) 6) = nI ((lown B g (hopL (land B g) s) (M - 1 - i) (chn B g (hopL (land B g) s) M i) 6).getD 0)
    rw [h4]; rfl
/-- as many hops back as there -/
theorem hop_swap (hg : g < 121) (hs : s < 121) (hsE : B s = none) {M : Nat} (e : hopL (land B g) g s = some M) : hopL (land B g) s g = some M :=
  BL_swap (G := fun p => p = g ∨ B p = none) (hopL_ex hg (fun c d hc hd => land_ob hc hd)).1 (hopL_ex hs (fun c d hc hd => land_ob hc hd)).1 (Or.inl rfl) (Or.inr hsE) (fun p e y hp he h => by
    obtain ⟨o, -, -, -, -, h5⟩ := land_some h
    exact h5) (fun p e y hp he hG h => ⟨(e + 3) % 6, by omega, land_back hp he hG h⟩) e
end CH
