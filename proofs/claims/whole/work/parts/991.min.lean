/-! PAIRINGS of marbles with goal cells, and their sums -/
def rmP (p : Nat → Bool) (g : Nat) : Nat → Bool := fun h => p h && !decide (h = g)
theorem rmP_iff {p : Nat → Bool} {g h : Nat} : rmP p g h = true ↔ p h = true ∧ h ≠ g := by
  unfold rmP
  rw [Bool.and_eq_true, Bool.not_eq_true', decide_eq_false_iff_not]
theorem rmP_f {p : Nat → Bool} {g h : Nat} (hh : h ≠ g) : rmP p g h = p h := by
  unfold rmP
  rw [decide_eq_false hh, Bool.not_false, Bool.and_true]
theorem rmP_s {p : Nat → Bool} {g : Nat} : rmP p g g = false := by
  unfold rmP
  rw [decide_eq_true rfl, Bool.not_true, Bool.and_false]
theorem rmP_comm {p : Nat → Bool} {a b : Nat} : rmP (rmP p a) b = rmP (rmP p b) a := by
  funext h
  show ((p h && _) && _) = ((p h && _) && _)
  rw [Bool.and_right_comm]
theorem bool_ext {a b : Bool} (h : a = true ↔ b = true) : a = b := by
  cases a <;> cases b
  · rfl
  · exact absurd (h.mpr rfl) (by decide)
  · exact absurd (h.mp rfl) (by decide)
  · rfl
/-- v is the sum of a pairing of the marbles below cell n with the goals p -/
def achR (c : Nat → Nat → Nat) (M : Nat → Bool) : Nat → (Nat → Bool) → Nat → Prop
  | 0, p, v => (∀ g, g < 10 → p g = false) ∧ v = 0
  | n + 1, p, v => (M n = true ∧ ∃ g w, g < 10 ∧ p g = true ∧ achR c M n (rmP p g) w ∧ v = w + c n g) ∨ (M n = false ∧ achR c M n p v)
section ACH
variable {c : Nat → Nat → Nat}
theorem achR_t {M : Nat → Bool} {n v : Nat} {p : Nat → Bool} (h : M n = true) : achR c M (n + 1) p v ↔ ∃ g w, g < 10 ∧ p g = true ∧ achR c M n (rmP p g) w ∧ v = w + c n g :=
  ⟨fun z => z.elim (fun z => z.2) (fun z => by rw [h] at z; cases z.1), fun z => Or.inl ⟨h, z⟩⟩
theorem achR_f {M : Nat → Bool} {n v : Nat} {p : Nat → Bool} (h : M n = false) : achR c M (n + 1) p v ↔ achR c M n p v :=
  ⟨fun z => z.elim (fun z => by rw [h] at z; cases z.1) (fun z => z.2), fun z => Or.inr ⟨h, z⟩⟩
theorem achR_p {M : Nat → Bool} : ∀ (n : Nat) {p q : Nat → Bool} {v : Nat}, (∀ h, h < 10 → p h = q h) → achR c M n p v → achR c M n q v
  | 0, p, q, v, e, h => ⟨fun g hg => by rw [← e g hg]; exact h.1 g hg, h.2⟩
  | n + 1, p, q, v, e, h => by
    cases hM : M n with
    | true =>
      obtain ⟨g, w, h1, h2, h3, h4⟩ := (achR_t hM).mp h
      refine (achR_t hM).mpr ⟨g, w, h1, by rw [← e g h1]; exact h2, achR_p n (fun k hk => ?_) h3, h4⟩
      unfold rmP
      rw [e k hk]
    | false => exact (achR_f hM).mpr (achR_p n e ((achR_f hM).mp h))
theorem achR_M {M M' : Nat → Bool} : ∀ (n : Nat) {p : Nat → Bool} {v : Nat}, (∀ x, x < n → M x = M' x) → achR c M n p v → achR c M' n p v
  | 0, p, v, e, h => h
  | n + 1, p, v, e, h => by
    have e1 := e n (Nat.lt_succ_self n)
    cases hM : M n with
    | true =>
      obtain ⟨g, w, h1, h2, h3, h4⟩ := (achR_t hM).mp h
      exact (achR_t (e1.symm.trans hM)).mpr ⟨g, w, h1, h2, achR_M n (fun x hx => e x (by omega)) h3, h4⟩
    | false => exact (achR_f (e1.symm.trans hM)).mpr (achR_M n (fun x hx => e x (by omega)) ((achR_f hM).mp h))
/-- any marble may be paired first -/
theorem achR_pull {M : Nat → Bool} {a : Nat} (ha : M a = true) : ∀ (n : Nat) {p : Nat → Bool} {v : Nat}, a < n → (achR c M n p v ↔ ∃ g w, g < 10 ∧ p g = true ∧ achR c (rmP M a) n (rmP p g) w ∧ v = w + c a g)
  | 0, p, v, h => absurd h (Nat.not_lt_zero a)
  | n + 1, p, v, h => by
    by_cases e : a = n
    · subst e
      rw [achR_t ha]
      have h0 : rmP M a a = false := rmP_s
      constructor
      · rintro ⟨g, w, h1, h2, h3, h4⟩
        exact ⟨g, w, h1, h2, (achR_f h0).mpr (achR_M a (fun x hx => (rmP_f (by omega)).symm) h3), h4⟩
      · rintro ⟨g, w, h1, h2, h3, h4⟩
        exact ⟨g, w, h1, h2, achR_M a (fun x hx => rmP_f (by omega)) ((achR_f h0).mp h3), h4⟩
    · have hn : rmP M a n = M n := rmP_f (fun z => e z.symm)
      cases hM : M n with
      | false =>
        rw [achR_f hM]
        refine Iff.trans (achR_pull ha n (by omega)) ?_
        constructor
        · rintro ⟨g, w, h1, h2, h3, h4⟩
          exact ⟨g, w, h1, h2, (achR_f (hn.trans hM)).mpr h3, h4⟩
        · rintro ⟨g, w, h1, h2, h3, h4⟩
          exact ⟨g, w, h1, h2, (achR_f (hn.trans hM)).mp h3, h4⟩
      | true =>
        rw [achR_t hM]
        constructor
        · rintro ⟨g, w, h1, h2, h3, h4⟩
          obtain ⟨g', w', k1, k2, k3, k4⟩ := (achR_pull ha n (by omega)).mp h3
          have k5 := rmP_iff.mp k2
          refine ⟨g', w' + c n g, k1, k5.1, (achR_t (hn.trans hM)).mpr ⟨g, w', h1, rmP_iff.mpr ⟨h2, fun z => k5.2 z.symm⟩, by rw [rmP_comm]; exact k3, rfl⟩, by omega⟩
        · rintro ⟨g, w, h1, h2, h3, h4⟩
          obtain ⟨g', w', k1, k2, k3, k4⟩ := (achR_t (hn.trans hM)).mp h3
          have k5 := rmP_iff.mp k2
          refine ⟨g', w' + c a g, k1, k5.1, (achR_pull ha n (by omega)).mpr ⟨g, w', h1, rmP_iff.mpr ⟨h2, fun z => k5.2 z.symm⟩, by rw [rmP_comm]; exact k3, rfl⟩, by omega⟩
/-- the marbles in two heaps -/
theorem achR_split {M D : Nat → Bool} : ∀ (n : Nat) {p : Nat → Bool} {v : Nat}, achR c M n p v ↔ ∃ q v1 v2, (∀ h, h < 10 → q h = true → p h = true) ∧ achR c (fun x => M x && D x) n q v1 ∧ achR c (fun x => M x && !D x) n (fun h => p h && !q h) v2 ∧ v = v1 + v2
  | 0, p, v => by
    constructor
    · rintro ⟨h1, h2⟩
      exact ⟨p, 0, 0, fun _ _ z => z, ⟨h1, rfl⟩, ⟨fun g hg => by show (p g && !p g) = false; rw [h1 g hg]; rfl, rfl⟩, by omega⟩
    · rintro ⟨q, v1, v2, h1, ⟨h2, h3⟩, ⟨h4, h5⟩, h6⟩
      refine ⟨fun g hg => ?_, by omega⟩
      have : (p g && !q g) = false := h4 g hg
      rw [h2 g hg, Bool.not_false, Bool.and_true] at this
      exact this
  | n + 1, p, v => by
    cases hM : M n with
    | false =>
      rw [achR_f hM]
      refine Iff.trans (achR_split (D := D) n) ?_
      have e1 : (fun x => M x && D x) n = false := by show (M n && D n) = false; rw [hM]; rfl
      have e2 : (fun x => M x && !D x) n = false := by show (M n && !D n) = false; rw [hM]; rfl
      constructor
      · rintro ⟨q, v1, v2, h1, h2, h3, h4⟩
        exact ⟨q, v1, v2, h1, (achR_f e1).mpr h2, (achR_f e2).mpr h3, h4⟩
      · rintro ⟨q, v1, v2, h1, h2, h3, h4⟩
        exact ⟨q, v1, v2, h1, (achR_f e1).mp h2, (achR_f e2).mp h3, h4⟩
    | true =>
      rw [achR_t hM]
      cases hD : D n with
      | true =>
        have e1 : (fun x => M x && D x) n = true := by show (M n && D n) = true; rw [hM, hD]; rfl
        have e2 : (fun x => M x && !D x) n = false := by show (M n && !D n) = false; rw [hM, hD]; rfl
        constructor
        · rintro ⟨g, w, h1, h2, h3, h4⟩
          obtain ⟨q, v1, v2, k1, k2, k3, k4⟩ := (achR_split (D := D) n).mp h3
          have qg : q g = false := by
            cases e : q g with
            | false => rfl
            | true => have := k1 g h1 e; rw [rmP_s] at this; cases this
          refine ⟨fun h => q h || decide (h = g), v1 + c n g, v2, fun h hh z => ?_, (achR_t e1).mpr ⟨g, v1, h1, ?_, achR_p n (fun h hh => ?_) k2, rfl⟩, (achR_f e2).mpr (achR_p n (fun h hh => ?_) k3), by omega⟩
          · rcases (Bool.or_eq_true _ _).mp z with z | z
            · exact (rmP_iff.mp (k1 h hh z)).1
            · rw [of_decide_eq_true z]; exact h2
          · show (q g || decide (g = g)) = true
            rw [decide_eq_true rfl, Bool.or_true]
          · by_cases e : h = g
            · subst e; rw [rmP_s]; exact qg
            · rw [rmP_f e]; show q h = (q h || decide (h = g)); rw [decide_eq_false e, Bool.or_false]
          · show (rmP p g h && !q h) = (p h && !(q h || decide (h = g)))
            by_cases e : h = g
            · subst e; rw [rmP_s, decide_eq_true rfl, Bool.or_true]; cases p h <;> rfl
            · rw [rmP_f e, decide_eq_false e, Bool.or_false]
        · rintro ⟨q, v1, v2, k1, k2, k3, k4⟩
          obtain ⟨g, w, h1, h2, h3, h4⟩ := (achR_t e1).mp k2
          refine ⟨g, w + v2, h1, k1 g h1 h2, (achR_split (D := D) n).mpr ⟨rmP q g, w, v2, fun h hh z => ?_, h3, achR_p n (fun h hh => ?_) ((achR_f e2).mp k3), rfl⟩, by omega⟩
          · have z1 := rmP_iff.mp z
            exact rmP_iff.mpr ⟨k1 h hh z1.1, z1.2⟩
          · show (p h && !q h) = (rmP p g h && !rmP q g h)
            by_cases e : h = g
            · subst e; rw [rmP_s, h2]; cases p h <;> rfl
            · rw [rmP_f e, rmP_f e]
      | false =>
        have e1 : (fun x => M x && D x) n = false := by show (M n && D n) = false; rw [hM, hD]; rfl
        have e2 : (fun x => M x && !D x) n = true := by show (M n && !D n) = true; rw [hM, hD]; rfl
        constructor
        · rintro ⟨g, w, h1, h2, h3, h4⟩
          obtain ⟨q, v1, v2, k1, k2, k3, k4⟩ := (achR_split (D := D) n).mp h3
          have qg : q g = false := by
            cases e : q g with
            | false => rfl
            | true => have := k1 g h1 e; rw [rmP_s] at this; cases this
          refine ⟨q, v1, v2 + c n g, fun h hh z => (rmP_iff.mp (k1 h hh z)).1, (achR_f e1).mpr k2, (achR_t e2).mpr ⟨g, v2, h1, ?_, achR_p n (fun h hh => ?_) k3, rfl⟩, by omega⟩
          · show (p g && !q g) = true
            rw [h2, qg]; rfl
          · show (rmP p g h && !q h) = rmP (fun h => p h && !q h) g h
            by_cases e : h = g
            · subst e; rw [rmP_s, rmP_s]; rfl
            · rw [rmP_f e, rmP_f e]
        · rintro ⟨q, v1, v2, k1, k2, k3, k4⟩
          obtain ⟨g, w, h1, h2, h3, h4⟩ := (achR_t e2).mp k3
          have h2' : (p g && !q g) = true := h2
          rw [Bool.and_eq_true, Bool.not_eq_true'] at h2'
          refine ⟨g, v1 + w, h1, h2'.1, (achR_split (D := D) n).mpr ⟨q, v1, w, fun h hh z => ?_, (achR_f e1).mp k2, achR_p n (fun h hh => ?_) h3, rfl⟩, by omega⟩
          · refine rmP_iff.mpr ⟨k1 h hh z, fun e => ?_⟩
            subst e; rw [h2'.2] at z; cases z
          · show rmP (fun h => p h && !q h) g h = (rmP p g h && !q h)
            by_cases e : h = g
            · subst e; rw [rmP_s, rmP_s]; rfl
            · rw [rmP_f e, rmP_f e]
theorem cnt_rm {p : Nat → Bool} {g : Nat} (h : p g = true) : ∀ n, g < n → cnt p n = cnt (rmP p g) n + 1
  | 0, hg => absurd hg (Nat.not_lt_zero g)
  | n + 1, hg => by
    by_cases e : g = n
    · subst e
      rw [cnt_t h, cnt_f (rmP_s), cnt_ext g (fun k hk => (rmP_f (p := p) (g := g) (by omega)).symm)]
    · have ih := cnt_rm h n (by omega)
      cases e2 : p n with
      | true => rw [cnt_t e2, cnt_t ((rmP_f (fun z => e z.symm)).trans e2), ih]
      | false => rw [cnt_f e2, cnt_f ((rmP_f (fun z => e z.symm)).trans e2), ih]
theorem cnt_0 {p : Nat → Bool} : ∀ {n : Nat}, (∀ g, g < n → p g = false) → cnt p n = 0
  | 0, _ => rfl
  | n + 1, h => by rw [cnt_f (h n (by omega))]; exact cnt_0 (fun g hg => h g (by omega))
theorem achR_cnt {M : Nat → Bool} : ∀ (n : Nat) {p : Nat → Bool} {v : Nat}, achR c M n p v → cnt p 10 = cnt M n
  | 0, p, v, h => cnt_0 h.1
  | n + 1, p, v, h => by
    cases hM : M n with
    | true =>
      obtain ⟨g, w, h1, h2, h3, h4⟩ := (achR_t hM).mp h
      rw [cnt_rm h2 10 h1, achR_cnt n h3, cnt_t hM]
    | false => rw [achR_cnt n ((achR_f hM).mp h), cnt_f hM]
end ACH
/-- any set has its number -/
theorem num_ex : ∀ (n : Nat) (q : Nat → Bool), ∃ S, S < 2 ^ n ∧ ∀ h, h < n → S.testBit h = q h
  | 0, q => ⟨0, by decide, fun h hh => absurd hh (Nat.not_lt_zero h)⟩
  | n + 1, q => by
    obtain ⟨S, h1, h2⟩ := num_ex n (fun h => q (h + 1))
    have e0 : ∀ b : Nat, b < 2 → (2 * S + b) / 2 = S := fun b hb => by omega
    have e1 : ∀ b : Nat, b < 2 → 2 * S + b < 2 ^ (n + 1) := fun b hb => by rw [Nat.pow_succ]; omega
    cases e : q 0 with
    | true =>
      refine ⟨2 * S + 1, e1 1 (by omega), fun h hh => ?_⟩
      cases h with
      | zero => rw [Nat.testBit_zero, e]; exact decide_eq_true (by omega)
      | succ h => rw [Nat.testBit_succ, e0 1 (by omega)]; exact h2 h (by omega)
    | false =>
      refine ⟨2 * S + 0, e1 0 (by omega), fun h hh => ?_⟩
      cases h with
      | zero => rw [Nat.testBit_zero, e]; exact decide_eq_false (by omega)
      | succ h => rw [Nat.testBit_succ, e0 0 (by omega)]; exact h2 h (by omega)
