/-! SUMS OVER SETS are least sums of pairings -/
theorem bits_0 : ((List.range 1024).all fun S => decide (S = 0) || !decide (pop S = 0)) = true := by decide +kernel
theorem pop_0 {S : Nat} (hS : S < 1024) (h : pop S = 0) : S = 0 := by
  have h1 := all_lt bits_0 hS
  rw [decide_eq_true h, Bool.not_true, Bool.or_false] at h1
  exact of_decide_eq_true h1
theorem bt_le {S g : Nat} (hS : S < 1024) (hg : g < 10) (h : S.testBit g = true) : 2 ^ g ≤ S ∧ S ^^^ 2 ^ g = S - 2 ^ g := by
  have h1 := all_lt (all_lt bits_le hS) hg
  rw [if_pos h, Bool.and_eq_true] at h1
  exact ⟨of_decide_eq_true h1.1, of_decide_eq_true h1.2⟩
theorem bt_lt {S g : Nat} (hS : S < 1024) (hg : g < 10) (h : S.testBit g = true) : S - 2 ^ g < S := by
  have h1 := (bt_le hS hg h).1
  have h2 : 0 < 2 ^ g := Nat.pow_pos (by decide)
  omega
theorem bt_rm {S g : Nat} (hS : S < 1024) (hg : g < 10) (h : S.testBit g = true) {k : Nat} (hk : k < 10) : (S - 2 ^ g).testBit k = rmP S.testBit g k := by
  have h1 := all_lt (all_lt (all_lt bits_rm hS) hg) hk
  rw [h, Bool.not_true, Bool.false_or] at h1
  exact eq_of_beq h1
theorem bt_co {S g : Nat} (hS : S < 1024) (hg : g < 10) (h : S.testBit g = false) {k : Nat} (hk : k < 10) : (1023 - S - 2 ^ g).testBit k = (!(S.testBit k) && !decide (k = g)) := by
  have h1 := all_lt (all_lt (all_lt bits_co hS) hg) hk
  rw [h, Bool.false_or] at h1
  exact eq_of_beq h1
theorem bt_room {S g : Nat} (hS : S < 1024) (hg : g < 10) (h : S.testBit g = false) : S + 2 ^ g ≤ 1023 := by
  have h1 := all_lt (all_lt bits_le hS) hg
  rw [if_neg (by rw [h]; decide)] at h1
  exact of_decide_eq_true h1
theorem pop_rm {S g : Nat} (hS : S < 1024) (hg : g < 10) (h : S.testBit g = true) : pop S = pop (S - 2 ^ g) + 1 := by
  unfold pop
  rw [cnt_rm (p := fun g => S.testBit g) (g := g) h 10 hg]
  congr 1
  exact cnt_ext 10 (fun k hk => (bt_rm hS hg h hk).symm)
theorem pop_10 {S : Nat} (hS : S < 1024) : pop S ≤ 10 := of_decide_eq_true (all_lt bits_10 hS)
theorem pop_full : pop 1023 = 10 := by decide
theorem bit_ex {S : Nat} (hS : S < 1024) (h0 : 0 < S) : ∃ g, g < 10 ∧ S.testBit g = true := by
  by_cases h : ∃ g, g < 10 ∧ S.testBit g = true
  · exact h
  · have h1 : pop S = 0 := cnt_0 (fun g hg => by
      cases e : S.testBit g with
      | false => rfl
      | true => exact absurd ⟨g, hg, e⟩ h)
    have := pop_0 hS h1
    omega
/-- a table of least sums, by sets below k -/
def DPk (rw : Nat → Nat) (c : Nat → Nat → Nat) (k : Nat) (F : Nat → Nat) : Prop := F 0 = 0 ∧ (∀ S, S < k → F S ≤ 512 * pop S) ∧ ∀ S, 0 < S → S < k → (∀ g, g < 10 → S.testBit g = true → F S ≤ F (S - 2 ^ g) + c (rw (pop S)) g) ∧ ∃ g, g < 10 ∧ S.testBit g = true ∧ F S = F (S - 2 ^ g) + c (rw (pop S)) g
/-- u is the least of the X g with b g, T where there is none -/
def minI (b : Nat → Bool) (X : Nat → Nat) (T i u : Nat) : Prop := u ≤ T ∧ (∀ g, g < i → b g = true → u ≤ X g) ∧ ((u = T ∧ ∀ g, g < i → b g = false) ∨ ∃ g, g < i ∧ b g = true ∧ u = X g)
section MIN
variable {b : Nat → Bool} {X : Nat → Nat} {T i u : Nat}
theorem minI_0 : minI b X T 0 T := ⟨Nat.le_refl T, fun g hg => absurd hg (Nat.not_lt_zero g), Or.inl ⟨rfl, fun g hg => absurd hg (Nat.not_lt_zero g)⟩⟩
theorem minI_no (h : minI b X T i u) (hb : b i = false) : minI b X T (i + 1) u := by
  refine ⟨h.1, fun g hg e => ?_, ?_⟩
  · by_cases e1 : g = i
    · subst e1; rw [hb] at e; cases e
    · exact h.2.1 g (by omega) e
  · rcases h.2.2 with ⟨h1, h2⟩ | ⟨g, h1, h2, h3⟩
    · refine Or.inl ⟨h1, fun g hg => ?_⟩
      by_cases e1 : g = i
      · subst e1; exact hb
      · exact h2 g (by omega)
    · exact Or.inr ⟨g, by omega, h2, h3⟩
theorem minI_lt (h : minI b X T i u) (hb : b i = true) (hx : X i < u) : minI b X T (i + 1) (X i) := by
  refine ⟨by have := h.1; omega, fun g hg e => ?_, Or.inr ⟨i, by omega, hb, rfl⟩⟩
  by_cases e1 : g = i
  · subst e1; exact Nat.le_refl _
  · have := h.2.1 g (by omega) e; omega
theorem minI_ge (h : minI b X T i u) (hb : b i = true) (hT : X i < T) (hx : u ≤ X i) : minI b X T (i + 1) u := by
  refine ⟨h.1, fun g hg e => ?_, ?_⟩
  · by_cases e1 : g = i
    · subst e1; exact hx
    · exact h.2.1 g (by omega) e
  · rcases h.2.2 with ⟨h1, h2⟩ | ⟨g, h1, h2, h3⟩
    · omega
    · exact Or.inr ⟨g, by omega, h2, h3⟩
end MIN
theorem DPk_1 {rw : Nat → Nat} {c : Nat → Nat → Nat} : DPk rw c 1 (fun _ => 0) := ⟨rfl, fun _ _ => Nat.zero_le _, fun S h1 h2 => by omega⟩
theorem DPk_add {rw : Nat → Nat} {c : Nat → Nat → Nat} {k u T : Nat} {F : Nat → Nat} (hc : ∀ a g, c a g < 512) (h : DPk rw c k F) (h0 : 0 < k) (hk : k < 1024) (hu : minI (fun g => k.testBit g) (fun g => F (k - 2 ^ g) + c (rw (pop k)) g) T 10 u) : DPk rw c (k + 1) (fu F k u) := by
  obtain ⟨g0, hg0, hb0⟩ := bit_ex hk h0
  have hF : ∀ g, g < 10 → k.testBit g = true → fu F k u (k - 2 ^ g) = F (k - 2 ^ g) := fun g hg hb => fu_n (by have := bt_lt hk hg hb; omega)
  have hat : ∃ g, g < 10 ∧ k.testBit g = true ∧ u = F (k - 2 ^ g) + c (rw (pop k)) g := by
    rcases hu.2.2 with ⟨_, h2⟩ | h2
    · rw [show k.testBit g0 = false from h2 g0 hg0] at hb0; cases hb0
    · exact h2
  refine ⟨by rw [fu_n (by omega)]; exact h.1, fun S hS => ?_, fun S hS0 hS => ?_⟩
  · by_cases e : S = k
    · subst e
      rw [fu_s]
      obtain ⟨g, h1, h2, h3⟩ := hat
      have h4 := h.2.1 (S - 2 ^ g) (bt_lt hk h1 h2)
      have h5 := hc (rw (pop S)) g
      rw [pop_rm hk h1 h2]
      omega
    · rw [fu_n e]; exact h.2.1 S (by omega)
  · by_cases e : S = k
    · subst e
      rw [fu_s]
      refine ⟨fun g hg hb => ?_, ?_⟩
      · rw [hF g hg hb]; exact hu.2.1 g hg hb
      · obtain ⟨g, h1, h2, h3⟩ := hat
        exact ⟨g, h1, h2, by rw [hF g h1 h2]; exact h3⟩
    · obtain ⟨h1, g, h2, h3, h4⟩ := h.2.2 S hS0 (by omega)
      have hS9 : S < 1024 := by omega
      have hF' : ∀ g, g < 10 → S.testBit g = true → fu F k u (S - 2 ^ g) = F (S - 2 ^ g) := fun g hg hb => fu_n (by have := bt_lt hS9 hg hb; omega)
      rw [fu_n e]
      exact ⟨fun g hg hb => by rw [hF' g hg hb]; exact h1 g hg hb, g, h2, h3, by rw [hF' g h2 h3]; exact h4⟩
section DP
variable {d : Nat → Nat → Nat} {M : Nat → Bool} {mc : Nat → Nat} {F L : Nat → Nat}
/-- the least sum of all pairings -/
def leastP (d : Nat → Nat → Nat) (M : Nat → Bool) (n : Nat) (p : Nat → Bool) (u : Nat) : Prop := (∀ v, achR d M n p v → u ≤ v) ∧ achR d M n p u
theorem leastP_eq {n : Nat} {p : Nat → Bool} {u v : Nat} (h : leastP d M n p u) (h' : leastP d M n p v) : u = v := by
  have h1 := h.1 v h'.2
  have h2 := h'.1 u h.2
  omega
theorem DP_F (hF : DPk (fun k => k - 1) (fun k g => d (mc k) g) 1024 F) (hmc : ∀ x, x < 121 → M x = true → mc (cnt M x) = x) : ∀ n, n ≤ 121 → ∀ S, S < 1024 → pop S = cnt M n → leastP d M n S.testBit (F S)
  | 0, _, S, hS, h => by
    have e := pop_0 hS h
    subst e
    rw [hF.1]
    exact ⟨fun v _ => Nat.zero_le v, fun g _ => Nat.zero_testBit g, rfl⟩
  | n + 1, hn, S, hS, h => by
    have ih := DP_F hF hmc n (by omega)
    cases hM : M n with
    | false =>
      rw [cnt_f hM] at h
      obtain ⟨h1, h2⟩ := ih S hS h
      exact ⟨fun v hv => h1 v ((achR_f hM).mp hv), (achR_f hM).mpr h2⟩
    | true =>
      rw [cnt_t hM] at h
      have hS0 : 0 < S := by
        rcases Nat.eq_zero_or_pos S with e | e
        · subst e; rw [show pop 0 = 0 from by decide] at h; omega
        · exact e
      obtain ⟨k1, g, k2, k3, k4⟩ := hF.2.2 S hS0 hS
      have hrow : mc (pop S - 1) = n := by rw [h, Nat.add_sub_cancel]; exact hmc n (by omega) hM
      dsimp only at k1 k4
      rw [hrow] at k4
      have hp : ∀ g, g < 10 → S.testBit g = true → pop (S - 2 ^ g) = cnt M n := fun g hg hb => by have := pop_rm hS hg hb; omega
      refine ⟨fun v hv => ?_, ?_⟩
      · obtain ⟨g, w, a1, a2, a3, a4⟩ := (achR_t hM).mp hv
        have b1 := k1 g a1 a2
        rw [hrow] at b1
        have b2 := bt_lt hS a1 a2
        have b3 := (ih (S - 2 ^ g) (by omega) (hp g a1 a2)).1 w (achR_p n (fun h hh => (bt_rm hS a1 a2 hh).symm) a3)
        omega
      · have b2 := bt_lt hS k2 k3
        exact (achR_t hM).mpr ⟨g, F (S - 2 ^ g), k2, k3, achR_p n (fun h hh => bt_rm hS k2 k3 hh) (ih (S - 2 ^ g) (by omega) (hp g k2 k3)).2, k4⟩
def Mlt (M : Nat → Bool) (a : Nat) : Nat → Bool := fun x => M x && decide (x < a)
def Mge (M : Nat → Bool) (a : Nat) : Nat → Bool := fun x => M x && decide (a ≤ x)
theorem achR_none : ∀ (n : Nat) {M : Nat → Bool} {p : Nat → Bool} {v : Nat}, (∀ x, x < n → M x = false) → (achR d M n p v ↔ (∀ g, g < 10 → p g = false) ∧ v = 0)
  | 0, M, p, v, _ => Iff.rfl
  | n + 1, M, p, v, h => (achR_f (h n (by omega))).trans (achR_none n (fun x hx => h x (by omega)))
theorem achR_lt {a : Nat} {p : Nat → Bool} {v : Nat} : ∀ k, achR d (Mlt M a) (a + k) p v ↔ achR d M a p v
  | 0 => by
    have e : ∀ x, x < a → Mlt M a x = M x := fun x hx => by unfold Mlt; rw [decide_eq_true hx, Bool.and_true]
    exact ⟨achR_M a e, achR_M a (fun x hx => (e x hx).symm)⟩
  | k + 1 => by
    have e : Mlt M a (a + k) = false := by unfold Mlt; rw [decide_eq_false (by omega), Bool.and_false]
    exact (achR_f e).trans (achR_lt k)
theorem cnt_lt_n {a : Nat} : ∀ k, cnt (Mlt M a) (a + k) = cnt M a
  | 0 => cnt_ext a (fun x hx => by unfold Mlt; rw [decide_eq_true hx, Bool.and_true])
  | k + 1 => by
    have e : Mlt M a (a + k) = false := by unfold Mlt; rw [decide_eq_false (by omega), Bool.and_false]
    exact (cnt_f e).trans (cnt_lt_n k)
theorem Mge_no {a : Nat} (h : M a = false) : Mge M a = Mge M (a + 1) := by
  funext x
  unfold Mge
  by_cases e : x = a
  · subst e; rw [h]; rfl
  · by_cases e2 : a ≤ x
    · rw [decide_eq_true e2, decide_eq_true (show a + 1 ≤ x by omega)]
    · rw [decide_eq_false e2, decide_eq_false (show ¬ a + 1 ≤ x by omega)]
theorem Mge_rm {a : Nat} : rmP (Mge M a) a = Mge M (a + 1) := by
  funext x
  unfold rmP Mge
  by_cases e : x = a
  · subst e; rw [decide_eq_true rfl, decide_eq_false (show ¬ x + 1 ≤ x by omega), Bool.not_true, Bool.and_false, Bool.and_false]
  · rw [decide_eq_false e, Bool.not_false, Bool.and_true]
    by_cases e2 : a ≤ x
    · rw [decide_eq_true e2, decide_eq_true (show a + 1 ≤ x by omega)]
    · rw [decide_eq_false e2, decide_eq_false (show ¬ a + 1 ≤ x by omega)]
theorem DP_L (hL : DPk (fun k => 10 - k) (fun k g => d (mc k) g) 1024 L) (hmc : ∀ x, x < 121 → M x = true → mc (cnt M x) = x) (h10 : cnt M 121 = 10) : ∀ j, j ≤ 121 → ∀ S, S < 1024 → pop S + cnt M (121 - j) = 10 → leastP d (Mge M (121 - j)) 121 S.testBit (L S)
  | 0, _, S, hS, h => by
    have e := pop_0 hS (show pop S = 0 by rw [show 121 - 0 = 121 from rfl, h10] at h; omega)
    subst e
    have hno : ∀ x, x < 121 → Mge M (121 - 0) x = false := fun x hx => by unfold Mge; rw [decide_eq_false (by omega), Bool.and_false]
    rw [hL.1]
    exact ⟨fun v _ => Nat.zero_le v, (achR_none 121 hno).mpr ⟨fun g _ => Nat.zero_testBit g, rfl⟩⟩
  | j + 1, hj, S, hS, h => by
    have ih := DP_L hL hmc h10 j (by omega)
    have ea : 121 - j = 121 - (j + 1) + 1 := by omega
    generalize hav : 121 - (j + 1) = a at h ea ⊢
    rw [ea] at ih
    have ha : a < 121 := by omega
    cases hM : M a with
    | false =>
      rw [Mge_no hM]
      exact ih S hS (by rw [cnt_f hM]; exact h)
    | true =>
      have hle : cnt M (a + 1) ≤ 10 := by rw [← h10]; exact cnt_mono (by omega)
      rw [cnt_t hM] at hle ih
      have hS0 : 0 < S := by
        rcases Nat.eq_zero_or_pos S with e | e
        · subst e; rw [show pop 0 = 0 from by decide] at h; omega
        · exact e
      have haM : Mge M a a = true := by unfold Mge; rw [hM, decide_eq_true (Nat.le_refl a)]; rfl
      obtain ⟨k1, g, k2, k3, k4⟩ := hL.2.2 S hS0 hS
      have hrow : mc (10 - pop S) = a := by rw [show 10 - pop S = cnt M a by omega]; exact hmc a ha hM
      dsimp only at k1 k4
      rw [hrow] at k4
      have hp : ∀ g, g < 10 → S.testBit g = true → pop (S - 2 ^ g) + (cnt M a + 1) = 10 := fun g hg hb => by have := pop_rm hS hg hb; omega
      refine ⟨fun v hv => ?_, ?_⟩
      · obtain ⟨g, w, a1, a2, a3, a4⟩ := (achR_pull haM 121 ha).mp hv
        have b1 := k1 g a1 a2
        rw [hrow] at b1
        have b2 := bt_lt hS a1 a2
        rw [Mge_rm] at a3
        have b3 := (ih (S - 2 ^ g) (by omega) (hp g a1 a2)).1 w (achR_p 121 (fun h hh => (bt_rm hS a1 a2 hh).symm) a3)
        omega
      · have b2 := bt_lt hS k2 k3
        refine (achR_pull haM 121 ha).mpr ⟨g, L (S - 2 ^ g), k2, k3, ?_, k4⟩
        rw [Mge_rm]
        exact achR_p 121 (fun h hh => bt_rm hS k2 k3 hh) (ih (S - 2 ^ g) (by omega) (hp g k2 k3)).2
theorem co_lt (S g : Nat) : 1023 - S - 2 ^ g < 1024 := Nat.lt_of_le_of_lt (Nat.le_trans (Nat.sub_le _ _) (Nat.sub_le _ _)) (by decide)
def fullP : Nat → Bool := fun _ => true
/-- the least sum for the other marbles and the other goals -/
theorem DP_O (hF : DPk (fun k => k - 1) (fun k g => d (mc k) g) 1024 F) (hL : DPk (fun k => 10 - k) (fun k g => d (mc k) g) 1024 L) (hmc : ∀ x, x < 121 → M x = true → mc (cnt M x) = x) (h10 : cnt M 121 = 10) {a g O : Nat} (ha : a < 121) (hM : M a = true) (hg : g < 10) (h1 : ∀ S, S < 1023 → pop S = cnt M a → S.testBit g = false → O ≤ F S + L (1023 - S - 2 ^ g)) (h2 : ∃ S, S < 1023 ∧ pop S = cnt M a ∧ S.testBit g = false ∧ O = F S + L (1023 - S - 2 ^ g)) : leastP d (rmP M a) 121 (rmP fullP g) O := by
  have hlt : cnt M a < 10 := by
    have := cnt_lt (p := M) ha hM
    omega
  have e1 : (fun x => rmP M a x && decide (x < a)) = Mlt M a := by
    funext x
    unfold rmP Mlt
    by_cases e : x = a
    · subst e; rw [decide_eq_true rfl, decide_eq_false (Nat.lt_irrefl x)]; rw [Bool.and_false, Bool.and_false]
    · rw [decide_eq_false e, Bool.not_false, Bool.and_true]
  have e2 : (fun x => rmP M a x && !decide (x < a)) = Mge M (a + 1) := by
    funext x
    unfold rmP Mge
    by_cases e : x = a
    · subst e; rw [decide_eq_true rfl, decide_eq_false (show ¬ x + 1 ≤ x by omega), Bool.not_true, Bool.and_false, Bool.false_and]
    · rw [decide_eq_false e, Bool.not_false, Bool.and_true]
      by_cases e3 : x < a
      · rw [decide_eq_true e3, decide_eq_false (show ¬ a + 1 ≤ x by omega)]; rfl
      · rw [decide_eq_false e3, decide_eq_true (show a + 1 ≤ x by omega)]; rfl
  have ml : ∀ {q : Nat → Bool} {v : Nat}, achR d (Mlt M a) 121 q v ↔ achR d M a q v := fun {q v} => by
    have := achR_lt (d := d) (M := M) (a := a) (p := q) (v := v) (121 - a)
    rw [show a + (121 - a) = 121 by omega] at this
    exact this
  have hLa : ∀ S, S < 1024 → pop S + cnt M (a + 1) = 10 → leastP d (Mge M (a + 1)) 121 S.testBit (L S) := fun S hS h => by
    have := DP_L hL hmc h10 (121 - (a + 1)) (by omega) S hS (by rw [show 121 - (121 - (a + 1)) = a + 1 by omega]; exact h)
    rw [show 121 - (121 - (a + 1)) = a + 1 by omega] at this
    exact this
  have hca : cnt M (a + 1) = cnt M a + 1 := cnt_t hM
  have hco : ∀ S, S < 1024 → S.testBit g = false → pop S = cnt M a → pop (1023 - S - 2 ^ g) + cnt M (a + 1) = 10 := fun S hS hb hp => by
    have b1 : pop (1023 - S - 2 ^ g) = cnt (rmP (fun k => !(S.testBit k)) g) 10 := cnt_ext 10 (fun k hk => bt_co hS hg hb hk)
    have b2 := cnt_rm (p := fun k => !(S.testBit k)) (g := g) (by show (!(S.testBit g)) = true; rw [hb]; rfl) 10 hg
    have b3 : ∀ n, cnt (fun k => !(S.testBit k)) n + cnt (fun k => S.testBit k) n = n := fun n => by
      induction n with
      | zero => rfl
      | succ n ih =>
        cases e : S.testBit n with
        | true => rw [cnt_t (p := fun k => S.testBit k) e, cnt_f (p := fun k => !(S.testBit k)) (by show (!(S.testBit n)) = false; rw [e]; rfl)]; omega
        | false => rw [cnt_f (p := fun k => S.testBit k) e, cnt_t (p := fun k => !(S.testBit k)) (by show (!(S.testBit n)) = true; rw [e]; rfl)]; omega
    have b4 := b3 10
    have b5 : pop S = cnt (fun k => S.testBit k) 10 := rfl
    omega
  refine ⟨fun w hw => ?_, ?_⟩
  · obtain ⟨q, v1, v2, c1, c2, c3, c4⟩ := (achR_split (D := fun x => decide (x < a)) 121).mp hw
    rw [e1] at c2
    rw [e2] at c3
    have c2' := ml.mp c2
    obtain ⟨S, d1, d2⟩ := num_ex 10 q
    have hS : S < 1024 := d1
    have hpS : pop S = cnt M a := by
      rw [← achR_cnt a c2']
      exact cnt_ext 10 d2
    have hbg : S.testBit g = false := by
      rw [d2 g hg]
      cases e : q g with
      | false => rfl
      | true => have := c1 g hg e; rw [rmP_s] at this; cases this
    have hS2 : S < 1023 := by
      rcases Nat.lt_or_ge S 1023 with z | z
      · exact z
      · have : S = 1023 := by omega
        subst this
        rw [pop_full] at hpS; omega
    have f1 := (DP_F hF hmc a (by omega) S hS hpS).1 v1 (achR_p a (fun h hh => (d2 h hh).symm) c2')
    have f2 := (hLa (1023 - S - 2 ^ g) (co_lt S g) (hco S hS hbg hpS)).1 v2 (achR_p 121 (fun h hh => by
      rw [bt_co hS hg hbg hh, d2 h hh]
      show ((true && !decide (h = g)) && !q h) = _
      rw [Bool.true_and, Bool.and_comm]) c3)
    have f3 := h1 S hS2 hpS hbg
    omega
  · obtain ⟨S, hS2, hpS, hbg, hO⟩ := h2
    have hS : S < 1024 := by omega
    refine (achR_split (D := fun x => decide (x < a)) 121).mpr ⟨S.testBit, F S, L (1023 - S - 2 ^ g), fun h hh z => rmP_iff.mpr ⟨rfl, fun e => by subst e; rw [hbg] at z; cases z⟩, ?_, ?_, hO⟩
    · rw [e1]
      exact ml.mpr (DP_F hF hmc a (by omega) S hS hpS).2
    · rw [e2]
      exact achR_p 121 (fun h hh => by
        rw [bt_co hS hg hbg hh]
        show _ = ((true && !decide (h = g)) && !S.testBit h)
        rw [Bool.true_and, Bool.and_comm]) (hLa (1023 - S - 2 ^ g) (co_lt S g) (hco S hS hbg hpS)).2
/-- one marble moved: out of the others' sums -/
theorem DP_W {M' : Nat → Bool} {a t W : Nat} {O : Nat → Nat} (ht : t < 121) (hO : ∀ g, g < 10 → leastP d (rmP M a) 121 (rmP fullP g) (O g)) (hM' : M' t = true) (hrm : rmP M' t = rmP M a) (h1 : ∀ g, g < 10 → W ≤ O g + d t g) (h2 : ∃ g, g < 10 ∧ W = O g + d t g) : leastP d M' 121 fullP W := by
  refine ⟨fun v hv => ?_, ?_⟩
  · obtain ⟨g, w, a1, a2, a3, a4⟩ := (achR_pull hM' 121 ht).mp hv
    rw [hrm] at a3
    have b1 := (hO g a1).1 w a3
    have b2 := h1 g a1
    omega
  · obtain ⟨g, hg, e⟩ := h2
    refine (achR_pull hM' 121 ht).mpr ⟨g, O g, hg, rfl, ?_, e⟩
    rw [hrm]
    exact (hO g hg).2
theorem leastP_full {u : Nat} (h : leastP d M 121 (fun g => Nat.testBit 1023 g) u) : leastP d M 121 fullP u := by
  have e : ∀ h, h < 10 → Nat.testBit 1023 h = fullP h := by decide
  exact ⟨fun v hv => h.1 v (achR_p 121 (fun g hg => (e g hg).symm) hv), achR_p 121 e h.2⟩
theorem achR_le (hd : ∀ x g, d x g < 512) : ∀ (n : Nat) {p : Nat → Bool} {v : Nat}, achR d M n p v → v ≤ 512 * cnt M n
  | 0, p, v, h => by rw [h.2]; exact Nat.zero_le _
  | n + 1, p, v, h => by
    cases hM : M n with
    | true =>
      obtain ⟨g, w, h1, h2, h3, h4⟩ := (achR_t hM).mp h
      have := achR_le hd n h3
      have := hd n g
      rw [cnt_t hM]
      omega
    | false =>
      rw [cnt_f hM]
      exact achR_le hd n ((achR_f hM).mp h)
end DP
