/-! SEARCH LEVEL BY LEVEL: what a queue of distinct cells finds -/
/-- x, replaced at one place -/
def fu {α : Type} (f : Nat → α) (k : Nat) (v : α) : Nat → α := fun j => if j = k then v else f j
theorem fu_s {α : Type} {f : Nat → α} {k : Nat} {v : α} : fu f k v k = v := if_pos rfl
theorem fu_n {α : Type} {f : Nat → α} {k j : Nat} {v : α} (h : j ≠ k) : fu f k v j = f j := if_neg h
theorem pigeon : ∀ (m n : Nat) (f : Nat → Nat), (∀ i, i < n → f i < m) → (∀ i j, i < n → j < n → f i = f j → i = j) → n ≤ m
  | 0, 0, _, _, _ => Nat.le_refl 0
  | 0, n + 1, f, h, _ => absurd (h 0 (Nat.succ_pos n)) (Nat.not_lt_zero _)
  | m + 1, 0, _, _, _ => Nat.zero_le _
  | m + 1, n + 1, f, h, hi => by
    have key := pigeon m n (fun i => if f i = m then f n else f i) (fun i hin => by
      by_cases e : f i = m
      · simp only [if_pos e]
        have h1 := h n (Nat.lt_succ_self n)
        have h2 : f n ≠ m := fun e2 => by
          have := hi i n (by omega) (by omega) (e.trans e2.symm)
          omega
        omega
      · simp only [if_neg e]
        have := h i (by omega)
        omega) (fun i j hin hjn e => by
      by_cases e1 : f i = m <;> by_cases e2 : f j = m
      · exact hi i j (by omega) (by omega) (e1.trans e2.symm)
      · simp only [if_pos e1, if_neg e2] at e
        have := hi n j (by omega) (by omega) e
        omega
      · simp only [if_neg e1, if_pos e2] at e
        have := hi i n (by omega) (by omega) e
        omega
      · simp only [if_neg e1, if_neg e2] at e
        exact hi i j (by omega) (by omega) e)
    omega
/-- what is known while the edge d of the k-th of n found cells is looked at -/
def BI (f : Nat → Nat → Option Nat) (s : Nat) (L : Nat → Option Nat) (q : Nat → Nat) (n k d : Nat) : Prop :=
  s < 121 ∧ k ≤ n ∧ (∀ i, i < n → q i < 121) ∧ (∀ i j, i < n → j < n → q i = q j → i = j) ∧ (∀ i, i < n → ∃ l, L (q i) = some l) ∧ (∀ x, x < 121 → (∃ l, L x = some l) → ∃ i, i < n ∧ q i = x) ∧
  (∀ i j a b, i ≤ j → j < n → L (q i) = some a → L (q j) = some b → a ≤ b) ∧ (∀ j a b, k < n → j < n → L (q k) = some a → L (q j) = some b → b ≤ a + 1) ∧
  L s = some 0 ∧ (∀ y, y < 121 → L y = some 0 → y = s) ∧ (∀ y l, y < 121 → L y = some (l + 1) → ∃ p e, p < 121 ∧ e < 6 ∧ L p = some l ∧ f p e = some y) ∧
  (∀ i e y l, i < n → (i < k ∨ (i = k ∧ e < d)) → e < 6 → L (q i) = some l → f (q i) e = some y → ∃ j, j ≤ l + 1 ∧ L y = some j)
/-- the levels are the distances -/
def BL (f : Nat → Nat → Option Nat) (s : Nat) (L : Nat → Option Nat) : Prop :=
  s < 121 ∧ L s = some 0 ∧ (∀ y, y < 121 → L y = some 0 → y = s) ∧ (∀ y l, y < 121 → L y = some (l + 1) → ∃ p e, p < 121 ∧ e < 6 ∧ L p = some l ∧ f p e = some y) ∧ (∀ p e y l, p < 121 → e < 6 → L p = some l → f p e = some y → ∃ j, j ≤ l + 1 ∧ L y = some j)
section BFS
variable {f : Nat → Nat → Option Nat} {s : Nat} {L : Nat → Option Nat} {q : Nat → Nat} {n k d : Nat}
theorem BI_le (h : BI f s L q n k d) : n ≤ 121 := pigeon 121 n q h.2.2.1 h.2.2.2.1
theorem BI_room (h : BI f s L q n k d) {y : Nat} (hy : y < 121) (hn : L y = none) : n < 121 := by
  have h1 := pigeon 121 (n + 1) (fu q n y) (fun i hi => by
    by_cases e : i = n
    · rw [e, fu_s]; exact hy
    · rw [fu_n e]; exact h.2.2.1 i (by omega)) (fun i j hi hj e => by
    have hz : ∀ i, i < n → q i ≠ y := fun i hi e => by
      obtain ⟨l, hl⟩ := h.2.2.2.2.1 i hi
      rw [e, hn] at hl; cases hl
    by_cases e1 : i = n <;> by_cases e2 : j = n
    · omega
    · rw [e1, fu_s, fu_n e2] at e; exact absurd e.symm (hz j (by omega))
    · rw [e2, fu_s, fu_n e1] at e; exact absurd e (hz i (by omega))
    · rw [fu_n e1, fu_n e2] at e; exact h.2.2.2.1 i j (by omega) (by omega) e)
  omega
theorem BI_init {L0 : Nat → Option Nat} (hs : s < 121) (h0 : ∀ x, x < 121 → L0 x = none) (hq : q 0 = s) : BI f s (fu L0 s (some 0)) q 1 0 0 := by
  have hL : ∀ x l, x < 121 → fu L0 s (some 0) x = some l → x = s ∧ l = 0 := fun x l hx e => by
    by_cases e1 : x = s
    · rw [e1, fu_s] at e; cases e; exact ⟨e1, rfl⟩
    · rw [fu_n e1, h0 x hx] at e; cases e
  have hq0 : ∀ i, i < 1 → q i = s := fun i hi => by
    have : i = 0 := by omega
    rw [this, hq]
  refine ⟨hs, Nat.zero_le _, fun i hi => by rw [hq0 i hi]; exact hs, fun i j hi hj _ => by omega, fun i hi => ⟨0, by rw [hq0 i hi, fu_s]⟩, fun x hx ⟨l, hl⟩ => ⟨0, by omega, by rw [hq]; exact (hL x l hx hl).1.symm⟩, ?_, ?_, fu_s, fun y hy e => (hL y 0 hy e).1, ?_, ?_⟩
  · intro i j a b hij hj ha hb
    rw [hq0 i (by omega), fu_s] at ha
    cases ha
    exact Nat.zero_le _
  · intro j a b _ hj ha hb
    rw [hq0 j hj, fu_s] at hb
    cases hb
    exact Nat.zero_le _
  · intro y l hy e
    have := (hL y (l + 1) hy e).2
    omega
  · intro i e y l hi h1 he h2 h3
    omega
theorem BI_next (h : BI f s L q n k 6) (hk : k < n) : BI f s L q n (k + 1) 0 := by
  obtain ⟨a1, a2, a3, a4, a5, a6, a7, a8, a9, a10, a11, a12⟩ := h
  refine ⟨a1, hk, a3, a4, a5, a6, a7, fun j a b hk1 hj ha hb => ?_, a9, a10, a11, fun i e y l hi h1 he h2 h3 => ?_⟩
  · obtain ⟨c, hc⟩ := a5 k hk
    have h1 := a8 j c b hk hj hc hb
    have h2 := a7 k (k + 1) c a (by omega) hk1 hc ha
    omega
  · exact a12 i e y l hi (by omega) he h2 h3
theorem BI_none (h : BI f s L q n k d) (hf : f (q k) d = none) : BI f s L q n k (d + 1) := by
  obtain ⟨a1, a2, a3, a4, a5, a6, a7, a8, a9, a10, a11, a12⟩ := h
  refine ⟨a1, a2, a3, a4, a5, a6, a7, a8, a9, a10, a11, fun i e y l hi h1 he h2 h3 => ?_⟩
  by_cases e1 : i = k ∧ e = d
  · rw [e1.1, e1.2, hf] at h3; cases h3
  · exact a12 i e y l hi (by omega) he h2 h3
theorem BI_seen (h : BI f s L q n k d) (hk : k < n) {y j : Nat} (hf : f (q k) d = some y) (hL : L y = some j) (hy : y < 121) : BI f s L q n k (d + 1) := by
  obtain ⟨a1, a2, a3, a4, a5, a6, a7, a8, a9, a10, a11, a12⟩ := h
  refine ⟨a1, a2, a3, a4, a5, a6, a7, a8, a9, a10, a11, fun i e y' l hi h1 he h2 h3 => ?_⟩
  by_cases e1 : i = k ∧ e = d
  · rw [e1.1, e1.2, hf] at h3
    cases h3
    obtain ⟨i9, h9, e9⟩ := a6 y hy ⟨j, hL⟩
    rw [e1.1] at h2
    exact ⟨j, a8 i9 l j hk h9 h2 (by rw [e9]; exact hL), hL⟩
  · exact a12 i e y' l hi (by omega) he h2 h3
theorem BI_add (h : BI f s L q n k d) (hk : k < n) (hd : d < 6) {y l : Nat} (hf : f (q k) d = some y) (hN : L y = none) (hy : y < 121) (hl : L (q k) = some l) : BI f s (fu L y (some (l + 1))) (fu q n y) (n + 1) k (d + 1) := by
  obtain ⟨a1, a2, a3, a4, a5, a6, a7, a8, a9, a10, a11, a12⟩ := h
  have hq : ∀ i, i < n → fu q n y i = q i := fun i hi => fu_n (by omega)
  have hz : ∀ i, i < n → q i ≠ y := fun i hi e => by
    obtain ⟨l, hl⟩ := a5 i hi
    rw [e, hN] at hl; cases hl
  have hL : ∀ i, i < n → fu L y (some (l + 1)) (q i) = L (q i) := fun i hi => fu_n (hz i hi)
  have hc : ∀ i, i < n + 1 → i ≠ n → i < n := fun i _ _ => by omega
  refine ⟨a1, by omega, ?_, ?_, ?_, ?_, ?_, ?_, ?_, ?_, ?_, ?_⟩
  · intro i hi
    by_cases e : i = n
    · rw [e, fu_s]; exact hy
    · rw [hq i (hc i hi e)]; exact a3 i (hc i hi e)
  · intro i j hi hj e
    by_cases e1 : i = n <;> by_cases e2 : j = n
    · omega
    · rw [e1, fu_s, hq j (hc j hj e2)] at e; exact absurd e.symm (hz j (hc j hj e2))
    · rw [e2, fu_s, hq i (hc i hi e1)] at e; exact absurd e (hz i (hc i hi e1))
    · rw [hq i (hc i hi e1), hq j (hc j hj e2)] at e; exact a4 i j (hc i hi e1) (hc j hj e2) e
  · intro i hi
    by_cases e : i = n
    · exact ⟨l + 1, by rw [e, fu_s, fu_s]⟩
    · rw [hq i (hc i hi e), hL i (hc i hi e)]; exact a5 i (hc i hi e)
  · intro x hx ⟨l', hx'⟩
    by_cases e : x = y
    · exact ⟨n, by omega, by rw [fu_s, e]⟩
    · rw [fu_n e] at hx'
      obtain ⟨i, h1, h2⟩ := a6 x hx ⟨l', hx'⟩
      exact ⟨i, by omega, by rw [hq i h1]; exact h2⟩
  · intro i j a b hij hj ha hb
    by_cases e2 : j = n
    · rw [e2, fu_s, fu_s] at hb
      cases hb
      by_cases e1 : i = n
      · rw [e1, fu_s, fu_s] at ha; cases ha; exact Nat.le_refl _
      · have hi : i < n := by omega
        rw [hq i hi, hL i hi] at ha
        exact a8 i l a hk hi hl ha
    · have hj' := hc j hj e2
      rw [hq j hj', hL j hj'] at hb
      rw [hq i (by omega), hL i (by omega)] at ha
      exact a7 i j a b hij hj' ha hb
  · intro j a b _ hj ha hb
    rw [hq k hk, hL k hk, hl] at ha
    cases ha
    by_cases e2 : j = n
    · rw [e2, fu_s, fu_s] at hb; cases hb; exact Nat.le_refl _
    · have hj' := hc j hj e2
      rw [hq j hj', hL j hj'] at hb
      exact a8 j l b hk hj' hl hb
  · by_cases e : s = y
    · rw [← e, a9] at hN; cases hN
    · rw [fu_n e]; exact a9
  · intro x hx hx'
    by_cases e : x = y
    · rw [e, fu_s] at hx'; cases hx'
    · rw [fu_n e] at hx'; exact a10 x hx hx'
  · intro x l' hx hx'
    by_cases e : x = y
    · rw [e, fu_s] at hx'
      cases hx'
      exact ⟨q k, d, a3 k hk, hd, by rw [hL k hk]; exact hl, by rw [e]; exact hf⟩
    · rw [fu_n e] at hx'
      obtain ⟨p, e', h1, h2, h3, h4⟩ := a11 x l' hx hx'
      refine ⟨p, e', h1, h2, ?_, h4⟩
      by_cases e9 : p = y
      · rw [e9, hN] at h3; cases h3
      · rw [fu_n e9]; exact h3
  · intro i e y' l' hi h1 he h2 h3
    have hi' : i < n := by omega
    rw [hq i hi', hL i hi'] at h2
    rw [hq i hi'] at h3
    by_cases e1 : i = k ∧ e = d
    · rw [e1.1, e1.2, hf] at h3
      cases h3
      rw [e1.1, hl] at h2
      cases h2
      exact ⟨l + 1, Nat.le_refl _, fu_s⟩
    · obtain ⟨j, h4, h5⟩ := a12 i e y' l' hi' (by omega) he h2 h3
      refine ⟨j, h4, ?_⟩
      by_cases e9 : y' = y
      · rw [e9, hN] at h5; cases h5
      · rw [fu_n e9]; exact h5
theorem BI_done (h : BI f s L q n k d) (hk : n ≤ k) : BL f s L := by
  obtain ⟨a1, a2, a3, a4, a5, a6, a7, a8, a9, a10, a11, a12⟩ := h
  refine ⟨a1, a9, a10, a11, fun p e y l hp he h1 h2 => ?_⟩
  obtain ⟨i, hi, e1⟩ := a6 p hp ⟨l, h1⟩
  exact a12 i e y l hi (by omega) he (by rw [e1]; exact h1) (by rw [e1]; exact h2)
end BFS
theorem BL_le {f : Nat → Nat → Option Nat} {s : Nat} {L L' : Nat → Option Nat} (h : BL f s L) (h' : BL f s L') : ∀ (l x : Nat), x < 121 → L x = some l → ∃ j, j ≤ l ∧ L' x = some j
  | 0, x, hx, e => ⟨0, Nat.le_refl _, by rw [h.2.2.1 x hx e]; exact h'.2.1⟩
  | l + 1, x, hx, e => by
    obtain ⟨p, e', hp, he, h1, h2⟩ := h.2.2.2.1 x l hx e
    obtain ⟨j, hj, h3⟩ := BL_le h h' l p hp h1
    obtain ⟨i, hi, h4⟩ := h'.2.2.2.2 p e' x j hp he h3 h2
    exact ⟨i, by omega, h4⟩
theorem BL_eq {f : Nat → Nat → Option Nat} {s : Nat} {L L' : Nat → Option Nat} (h : BL f s L) (h' : BL f s L') {x : Nat} (hx : x < 121) : L x = L' x := by
  cases e : L x with
  | some l =>
    obtain ⟨j, hj, e'⟩ := BL_le h h' l x hx e
    obtain ⟨i, hi, e2⟩ := BL_le h' h j x hx e'
    rw [e] at e2
    cases e2
    rw [e']
    congr 1
    omega
  | none =>
    cases e' : L' x with
    | none => rfl
    | some l =>
      obtain ⟨j, hj, e2⟩ := BL_le h' h l x hx e'
      rw [e] at e2; cases e2
/-- a way of so many edges -/
def pth (f : Nat → Nat → Option Nat) : Nat → Nat → Nat → Prop
  | 0, a, b => a = b
  | n + 1, a, b => ∃ c e, c < 121 ∧ e < 6 ∧ f a e = some c ∧ pth f n c b
theorem pth_end {f : Nat → Nat → Option Nat} {b c e : Nat} (hc : c < 121) (he : e < 6) (h : f b e = some c) : ∀ (n a : Nat), pth f n a b → pth f (n + 1) a c
  | 0, a, e1 => ⟨c, e, hc, he, by rw [show a = b from e1]; exact h, rfl⟩
  | n + 1, a, ⟨x, e1, h1, h2, h3, h4⟩ => ⟨x, e1, h1, h2, h3, pth_end hc he h n x h4⟩
theorem BL_pth {f : Nat → Nat → Option Nat} {s : Nat} {L : Nat → Option Nat} (h : BL f s L) : ∀ (l a k b : Nat), a < 121 → L a = some k → pth f l a b → b < 121 → ∃ j, j ≤ k + l ∧ L b = some j
  | 0, a, k, b, ha, h1, e, hb => ⟨k, Nat.le_refl _, by rw [← show a = b from e]; exact h1⟩
  | l + 1, a, k, b, ha, h1, ⟨c, e, hc, he, h2, h3⟩, hb => by
    obtain ⟨j, hj, h4⟩ := h.2.2.2.2 a e c k ha he h1 h2
    obtain ⟨i, hi, h5⟩ := BL_pth h l c j b hc h4 h3 hb
    exact ⟨i, by omega, h5⟩
/-- back along the way, where each edge can be gone back -/
theorem BL_back {f : Nat → Nat → Option Nat} {s : Nat} {L : Nat → Option Nat} {G : Nat → Prop} (h : BL f s L) (hs : G s) (hG : ∀ p e y, p < 121 → e < 6 → f p e = some y → G y) (hsym : ∀ p e y, p < 121 → e < 6 → G p → f p e = some y → ∃ e', e' < 6 ∧ f y e' = some p) : ∀ (l x : Nat), x < 121 → L x = some l → G x ∧ pth f l x s
  | 0, x, hx, e => ⟨by rw [h.2.2.1 x hx e]; exact hs, h.2.2.1 x hx e⟩
  | l + 1, x, hx, e => by
    obtain ⟨p, e1, hp, he1, h1, h2⟩ := h.2.2.2.1 x l hx e
    obtain ⟨h3, h4⟩ := BL_back h hs hG hsym l p hp h1
    obtain ⟨e2, he2, h5⟩ := hsym p e1 x hp he1 h3 h2
    exact ⟨hG p e1 x hp he1 h2, p, e2, hp, he2, h5, h4⟩
/-- as far there as back -/
theorem BL_swap {f : Nat → Nat → Option Nat} {s t : Nat} {L L' : Nat → Option Nat} {G : Nat → Prop} (h : BL f s L) (h' : BL f t L') (hs : G s) (ht : G t) (hG : ∀ p e y, p < 121 → e < 6 → f p e = some y → G y) (hsym : ∀ p e y, p < 121 → e < 6 → G p → f p e = some y → ∃ e', e' < 6 ∧ f y e' = some p) {l : Nat} (e : L t = some l) : L' s = some l := by
  have h1 := (BL_back h hs hG hsym l t h'.1 e).2
  obtain ⟨j, hj, e2⟩ := BL_pth h' l t 0 s h'.1 h'.2.1 h1 h.1
  have h2 := (BL_back h' ht hG hsym j s h.1 e2).2
  obtain ⟨i, hi, e3⟩ := BL_pth h j s 0 t h.1 h.2.1 h2 h'.1
  rw [e] at e3
  cases e3
  rw [e2]
  congr 1
  omega
/-- the board's own distances are such levels -/
theorem BL_dst {s : Nat} (hs : s < 121) : BL nx s (fun x => some (dst s x)) := by
  refine ⟨hs, by show some (dst s s) = some 0; rw [(dst_zero hs hs).mpr rfl], fun y hy e => ((dst_zero hs hy).mp (Option.some.inj e)).symm, fun y l hy e => ?_, fun p e y l hp he h1 h2 => ?_⟩
  · have e' : dst s y = l + 1 := Option.some.inj e
    have hne : s ≠ y := fun e2 => by rw [(dst_zero hs hy).mpr e2] at e'; omega
    obtain ⟨d, p, hd, hp, h1, h2⟩ := dst_pred hs hy hne
    obtain ⟨-, h3, -⟩ := nx_facts hy hd h1
    exact ⟨p, (d + 3) % 6, hp, by omega, by show some (dst s p) = some l; congr 1; omega, h3⟩
  · have e' : dst s p = l := Option.some.inj h1
    exact ⟨dst s y, by have := dst_step (s := s) hp he h2; omega, rfl⟩
