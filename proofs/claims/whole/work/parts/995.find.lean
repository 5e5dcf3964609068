/-! THE BEST MOVE on both sides: the first of those with the least way -/
/-- the least way of a player's marbles -/
noncomputable def wayV (t : Nat) (M : Nat → Bool) : Nat := Classical.epsilon (WAYO t M)
theorem wayV_eq {t : Nat} {M : Nat → Bool} {u : Nat} (h : WAYO t M u) : u = wayV t M := leastP_eq h (Classical.epsilon_spec ⟨u, h⟩)
/-- the best of the first i moves: its number, and its way -/
noncomputable def bstF (B : Nat → Option Nat) (t : Nat) : Nat → Option Nat × Nat
  | 0 => (none, 0)
  | i + 1 => if isE B (some t) (i / 121) (i % 121) = true ∧ ((bstF B t i).1 = none ∨ wayV t (movB (ownB B t) (i / 121) (i % 121)) < (bstF B t i).2) then (some i, wayV t (movB (ownB B t) (i / 121) (i % 121))) else bstF B t i
section BST
variable {B : Nat → Option Nat} {t : Nat}
theorem bst_no {i : Nat} (h : isE B (some t) (i / 121) (i % 121) = false) : bstF B t (i + 1) = bstF B t i := if_neg (fun z => by rw [h] at z; cases z.1)
theorem bst_t {i : Nat} (h : isE B (some t) (i / 121) (i % 121) = true) (h2 : (bstF B t i).1 = none ∨ wayV t (movB (ownB B t) (i / 121) (i % 121)) < (bstF B t i).2) : bstF B t (i + 1) = (some i, wayV t (movB (ownB B t) (i / 121) (i % 121))) := if_pos ⟨h, h2⟩
theorem bst_f {i m : Nat} (h2 : (bstF B t i).1 = some m) (h3 : ¬ wayV t (movB (ownB B t) (i / 121) (i % 121)) < (bstF B t i).2) : bstF B t (i + 1) = bstF B t i := if_neg (fun z => by
  rcases z.2 with z | z
  · rw [h2] at z; cases z
  · exact h3 z)
theorem isE_own {T : Option Nat} {c x : Nat} (h : isE B T c x = true) : T ≠ none ∧ B c = T := by
  by_cases e : T = none ∨ B c ≠ T
  · have h2 : (EE B T c x).isSome = true := h
    rw [EE_no e] at h2
    cases h2
  · exact ⟨fun z => e (Or.inl z), by
      by_cases z : B c = T
      · exact z
      · exact absurd (Or.inr z) e⟩
theorem isE_empty {c x : Nat} (h : isE B (some t) c x = true) : B x = none := ((isE_iff (isE_own h).2).mp h).1
/-- over a row of no own marble nothing changes -/
theorem bst_row {c : Nat} (h : ownB B t c = false) : ∀ k, k ≤ 121 → bstF B t (121 * c + k) = bstF B t (121 * c)
  | 0, _ => rfl
  | k + 1, hk => by
    have e1 : (121 * c + k) / 121 = c := by omega
    have e2 : (121 * c + k) % 121 = k := by omega
    refine Eq.trans (bst_no ?_) (bst_row h k (by omega))
    show isE B (some t) ((121 * c + k) / 121) ((121 * c + k) % 121) = false
    rw [e1]
    cases e : isE B (some t) c ((121 * c + k) % 121) with
    | false => rfl
    | true =>
      have h2 : ownB B t c = true := decide_eq_true (isE_own e).2
      rw [h] at h2; cases h2
theorem bst_rows {a : Nat} : ∀ k, (∀ x, a ≤ x → x < a + k → ownB B t x = false) → bstF B t (121 * (a + k)) = bstF B t (121 * a)
  | 0, _ => rfl
  | k + 1, h => by
    rw [show 121 * (a + (k + 1)) = 121 * (a + k) + 121 by omega, bst_row (h (a + k) (by omega) (by omega)) 121 (Nat.le_refl _)]
    exact bst_rows k (fun x h1 h2 => h x h1 (by omega))
/-- how a search holds its best so far: z where there is none -/
def HLD (z : Nat) (s : Option Nat × Nat) (x2 x3 : Int32) : Prop := x2 = oi s.1 ∧ ((s.1 = none ∧ x3 = nI z) ∨ (∃ m, s.1 = some m ∧ m < 14641) ∧ x3 = nI s.2 ∧ s.2 ≤ 5120)
theorem HLD_lt {z i w : Nat} {s : Option Nat × Nat} {x2 x3 : Int32} (h : HLD z s x2 x3) (hw : w ≤ 5120) (hz : 5120 < z) (hz2 : z < 2 ^ 31) (hi : i < 14641) : (x3 ≤ nI w → ¬ (s.1 = none ∨ w < s.2)) ∧ (¬ x3 ≤ nI w → (s.1 = none ∨ w < s.2) ∧ HLD z (some i, w) (nI i) (nI w)) := by
  obtain ⟨h1, h2⟩ := h
  have hn : HLD z (some i, w) (nI i) (nI w) := ⟨rfl, Or.inr ⟨⟨i, rfl, hi⟩, rfl, hw⟩⟩
  rcases h2 with ⟨a1, a2⟩ | ⟨⟨m, a1, a3⟩, a2, a4⟩
  · rw [a2]
    exact ⟨fun e => absurd e (nI_ge (by omega) hz2), fun _ => ⟨Or.inl a1, hn⟩⟩
  · rw [a2]
    refine ⟨fun e z => ?_, fun e => ⟨Or.inr ?_, hn⟩⟩
    · rcases z with z | z
      · rw [a1] at z; cases z
      · exact nI_ge z (by omega) e
    · rcases Nat.lt_or_ge w s.2 with z | z
      · exact z
      · exact absurd (nI_le z (by omega)) e
end BST
section BESTC
variable {vr vcl vc vn vo : Nat → Int32} {B : Nat → Option Nat} {t : Nat}
theorem t_best_in {v1 v2 v6 vR : Nat → Int32} (hr : ROWA vr) (hcl : COLA vcl) (h2 : ORD (glB t) 121 v2) (h6 : OTA t (ownB B t) v6) (h10 : cnt (ownB B t) 121 = 10) {a : Nat} (ha : a < 121) (hM : ownB B t a = true) (hR0 : ∀ k, k < 121 → vR k = oi (EE B (some t) a k)) {K : Int32 → Int32 → Prop} {x2 x3 : Int32} (h0 : HLD MX (bstF B t (121 * a)) x2 x3) (hK : ∀ x2 x3, HLD MX (bstF B t (121 * (a + 1))) x2 x3 → K x2 x3) : wl_X6_bestMove_62 vr vcl vR v2 v6 (nI (cnt (ownB B t) a)) (nI a) K x2 x3 0 := by
  intro R hR
  refine upL (P := fun (z : Int32 × Int32) i => R z.1 z.2 i) (fun i z => HLD MX (bstF B t (121 * a + i)) z.1 z.2) 121 (fun z hz => hR _ _ _ ?_) (fun i z hi hz ih => hR _ _ _ ?_) 0 (by omega) (x2, x3) h0
  · unfold wb_X6_bestMove_62
    exact pk_le 121 121 (fun _ => hK _ _ hz) (fun z => absurd z (by omega))
  · unfold wb_X6_bestMove_62
    have e1 : (121 * a + i) / 121 = a := by omega
    have e2 : (121 * a + i) % 121 = i := by omega
    refine pk_le 121 i (fun z => absurd z (by omega)) (fun _ => t_hopsTo hR0 hi (bo_m1' (EE_ob ha hi) (fun e => ?_) (fun n e => ?_)))
    · refine ih _ ?_
      have hb := bst_no (B := B) (t := t) (i := 121 * a + i) (by rw [e1, e2]; show (EE B (some t) a i).isSome = false; rw [e]; rfl)
      show HLD MX (bstF B t (121 * a + i + 1)) _ _
      rw [hb]
      exact hz
    · have hE : isE B (some t) a i = true := by show (EE B (some t) a i).isSome = true; rw [e]; rfl
      have hBi := isE_empty hE
      have hMi : ownB B t i = false := decide_eq_false (fun z => by rw [hBi] at z; cases z)
      refine t_sumWith hr hcl h2 h6 h10 ha hM hi hMi (fun u hu => ?_)
      have hule := WAY_le (mov_10 hi ha hM h10 hMi) hu
      have huv := wayV_eq hu
      obtain ⟨q1, q2⟩ := HLD_lt (i := 121 * a + i) hz hule (by unfold MX; omega) (by unfold MX; omega) (by omega)
      refine ⟨fun c => ih _ ?_, fun c => ?_⟩
      · have c1 := q1 c
        show HLD MX (bstF B t (121 * a + i + 1)) _ _
        rw [show bstF B t (121 * a + i + 1) = bstF B t (121 * a + i) from if_neg (fun z => c1 (by rw [e1, e2, ← huv] at z; exact z.2))]
        exact hz
      · obtain ⟨c1, c2⟩ := q2 c
        rw [show nI a * (121 : Int32) + nI i = nI (121 * a + i) by rw [show (121 : Int32) = nI 121 from rfl, pk_mul, nI_add, Nat.mul_comm]]
        refine ih (_, _) ?_
        show HLD MX (bstF B t (121 * a + i + 1)) _ _
        rw [bst_t (by rw [e1, e2]; exact hE) (by rw [e1, e2, ← huv]; exact c1), e1, e2, ← huv]
        exact c2
theorem own_gap {M : Nat → Bool} {x : Nat} : ∀ a b, a ≤ b → cnt M a = cnt M b → a ≤ x → x < b → M x = false := fun a b hab h h1 h2 => by
  cases e : M x with
  | false => rfl
  | true =>
    have h3 := cnt_lt (p := M) h2 e
    have h4 := cnt_mono (p := M) h1
    omega
theorem t_bestMove {z1 z2 z3 z4 z5 : Int32} (hr : ROWA vr) (hcl : COLA vcl) (hcv : CPA vc) (hn : NXA vn) (hv : BD vo B) (hB : BK B) {T : Option Nat} (hT : ob 6 T) (h10 : ∀ t, T = some t → cnt (ownB B t) 121 = 10) {r1 r2 r3 v1 v2 v3 v4 v5 v6 : Nat → Int32} {Q : Int32 → (Nat → Int32) → (Nat → Int32) → (Nat → Int32) → (Nat → Int32) → (Nat → Int32) → (Nat → Int32) → (Nat → Int32) → (Nat → Int32) → (Nat → Int32) → Prop} (hQ : ∀ r1 r2 r3 v1 v2 v3 v4 v5 v6, Q (oi (match T with | none => none | some t => (bstF B t 14641).1)) r1 r2 r3 v1 v2 v3 v4 v5 v6) : wp_X6_bestMove z1 z2 vr vcl vc vn vo r1 r2 r3 v1 v2 v3 v4 v5 v6 z3 z4 z5 (oi T) Q := by
  unfold wp_X6_bestMove wp_X4_onTurn
  refine bo_m1' hT (fun e => ?_) (fun t e => ?_)
  · subst e
    exact hQ _ _ _ _ _ _ _ _ _
  · subst e
    have ht := hT t rfl
    have h10 := h10 t rfl
    refine t_weigh hr hcl hcv hv hB ht h10 (fun w1 w2 w3 w4 w5 w6 h1 h2 h6 => ?_)
    intro R hR
    have hz0 : bstF B t (121 * 0) = (none, 0) := rfl
    refine upL (P := fun (z : (Nat → Int32) × (Nat → Int32) × (Nat → Int32) × Int32 × Int32) i => R z.1 z.2.1 z.2.2.1 z.2.2.2.1 z.2.2.2.2 i) (fun i z => ∃ a, a ≤ 121 ∧ cnt (ownB B t) a = i ∧ HLD MX (bstF B t (121 * a)) z.2.2.2.1 z.2.2.2.2) 10 (fun z hz => hR _ _ _ _ _ _ ?_) (fun i z hi hz ih => hR _ _ _ _ _ _ ?_) 0 (by omega) (r1, r2, r3, -1, 1000000) ⟨0, by omega, rfl, by rw [hz0]; exact ⟨rfl, Or.inl ⟨rfl, rfl⟩⟩⟩
    · unfold wb_X6_bestMove_31
      obtain ⟨a, k1, k2, k3⟩ := hz
      refine pk_le 10 10 (fun _ => ?_) (fun z => absurd z (by omega))
      have hrows := bst_rows (B := B) (t := t) (a := a) (121 - a) (fun x q1 q2 => own_gap a 121 k1 (by omega) q1 (by omega))
      rw [show a + (121 - a) = 121 by omega] at hrows
      have h9 := hQ z.1 z.2.1 z.2.2.1 w1 w2 w3 w4 w5 w6
      rw [show (match (some t : Option Nat) with | none => none | some t => (bstF B t 14641).1) = (bstF B t 14641).1 from rfl, show 14641 = 121 * 121 from rfl, hrows, ← k3.1] at h9
      exact h9
    · unfold wb_X6_bestMove_31
      obtain ⟨a, k1, k2, k3⟩ := hz
      obtain ⟨m1, m2, m3, m4⟩ := mcO_k h1 h10 hi
      refine pk_le 10 i (fun z => absurd z (by omega)) (fun _ => ?_)
      unfold wp_X2_marbleCell
      refine br_f (nI_pos (by omega)) (br_f (nI_ge (b := 10) hi (by decide)) ⟨vp_in_nI hi (by omega), ?_⟩)
      rw [nI_clamp (n := i) (by omega), m1]
      have hab : a ≤ mcO w1 i := by
        rcases Nat.lt_or_ge (mcO w1 i) a with q | q
        · have := cnt_lt (p := ownB B t) q m3; omega
        · exact q
      have hrows := bst_rows (B := B) (t := t) (a := a) (mcO w1 i - a) (fun x q1 q2 => own_gap a (mcO w1 i) hab (by omega) q1 (by omega))
      rw [show a + (mcO w1 i - a) = mcO w1 i by omega] at hrows
      rw [← hrows] at k3
      refine t_search (T := some t) hcv hn hv hB hT m2 (fun q1 q2 q3 hq => ?_)
      have hin := t_best_in (v1 := w1) (K := fun x2_11 x3_12 => R q1 q2 q3 x2_11 x3_12 (nI i + 1)) hr hcl h2 h6 h10 m2 m3 hq k3 (fun x2 x3 hx => ih (q1, q2, q3, x2, x3) ⟨mcO w1 i + 1, by omega, by rw [cnt_t m3, m4], hx⟩)
      rw [m4] at hin
      exact hin
end BESTC
section BESTR
variable {z1 z2 z3 z5 z6 z7 z8 : Int32} {vc vn vf vg : Nat → Int32} {B : Nat → Option Nat} {t : Nat}
/-- the board with a marble moved -/
theorem BD_mov {vb : Nat → Int32} {a x : Nat} (hv : BD vb B) : BD (upd (upd vb x (nI t)) a (-1)) (fu (fu B x (some t)) a none) := fun k hk => by
  show (if k = a then (-1 : Int32) else (if k = x then nI t else vb k)) = oi (if k = a then none else (if k = x then some t else B k))
  by_cases e1 : k = a
  · rw [if_pos e1, if_pos e1]; rfl
  · rw [if_neg e1, if_neg e1]
    by_cases e2 : k = x
    · rw [if_pos e2, if_pos e2]; rfl
    · rw [if_neg e2, if_neg e2]; exact hv k hk
theorem BK_mov {a x : Nat} (hB : BK B) (ht : t < 6) : BK (fu (fu B x (some t)) a none) := fun k hk => by
  show ob 6 (if k = a then none else (if k = x then some t else B k))
  by_cases e1 : k = a
  · rw [if_pos e1]; exact ob_none
  · rw [if_neg e1]
    by_cases e2 : k = x
    · rw [if_pos e2]; exact ob_some ht
    · rw [if_neg e2]; exact hB k hk
theorem own_mov {a x : Nat} (hne : x ≠ a) : ownB (fu (fu B x (some t)) a none) t = movB (ownB B t) a x := by
  funext y
  show decide ((if y = a then none else (if y = x then some t else B y)) = some t) = (decide (y = x) || (ownB B t y && !decide (y = a)))
  by_cases e1 : y = a
  · subst e1
    rw [if_pos rfl, decide_eq_true (show y = y from rfl), decide_eq_false (show ¬ y = x from fun z => hne z.symm), decide_eq_false (show ¬ (none : Option Nat) = some t from fun z => by cases z), Bool.not_true, Bool.and_false]
    rfl
  · rw [if_neg e1, decide_eq_false e1, Bool.not_false, Bool.and_true]
    by_cases e2 : y = x
    · rw [if_pos e2, decide_eq_true e2, decide_eq_true rfl]; rfl
    · rw [if_neg e2, decide_eq_false e2]; rfl
theorem BD_back {vb : Nat → Int32} {a x : Nat} (hv : BD vb B) (ha : B a = some t) (hx : B x = none) : BD (upd (upd (upd (upd vb x (nI t)) a (-1)) x (-1)) a (nI t)) B := fun k hk => by
  show (if k = a then nI t else (if k = x then (-1 : Int32) else (if k = a then (-1 : Int32) else (if k = x then nI t else vb k)))) = oi (B k)
  by_cases e1 : k = a
  · rw [if_pos e1, e1, ha]; rfl
  · rw [if_neg e1]
    by_cases e2 : k = x
    · rw [if_pos e2, e2, hx]; rfl
    · rw [if_neg e2, if_neg e1, if_neg e2]; exact hv k hk
theorem t7_best {vb : Nat → Int32} (hcv : CPA vc) (hn : NXA vn) (hf : FARA vf) (hg : GCA vg) (hv : BD vb B) (hB : BK B) {T : Option Nat} (hT : ob 6 T) (h10 : ∀ t, T = some t → cnt (ownB B t) 121 = 10) {vl vq ve v1 v2 : Nat → Int32} {Q : Int32 → (Nat → Int32) → (Nat → Int32) → (Nat → Int32) → (Nat → Int32) → (Nat → Int32) → (Nat → Int32) → Prop} (hQ : ∀ vb vl vq ve v1 v2, BD vb B → Q (oi (match T with | none => none | some t => (bstF B t 14641).1)) vb vl vq ve v1 v2) : wp_X7_best z1 z2 z3 (oi T) z5 z6 z7 z8 vc vn vf vg vb vl vq ve v1 v2 Q := by
  unfold wp_X7_best
  intro R hR
  cases T with
  | none =>
    refine hR _ _ _ _ _ _ _ _ _ ?_
    unfold wb_X7_best_7
    exact br_f (by decide) (br_t rfl (hQ _ _ _ _ _ _ hv))
  | some t =>
    have ht := hT t rfl
    have h10 := h10 t rfl
    refine upL (P := fun (z : (Nat → Int32) × (Nat → Int32) × (Nat → Int32) × (Nat → Int32) × (Nat → Int32) × (Nat → Int32) × Int32 × Int32) i => R z.1 z.2.1 z.2.2.1 z.2.2.2.1 z.2.2.2.2.1 z.2.2.2.2.2.1 z.2.2.2.2.2.2.1 z.2.2.2.2.2.2.2 i) (fun i z => BD z.1 B ∧ HLD 1000000 (bstF B t i) z.2.2.2.2.2.2.1 z.2.2.2.2.2.2.2 ∧ (i % 121 ≠ 0 → ∀ k, k < 121 → z.2.2.2.1 k = bi (isE B (some t) (i / 121) k))) 14641 (fun z hz => hR _ _ _ _ _ _ _ _ _ ?_) (fun i z hi hz ih => hR _ _ _ _ _ _ _ _ _ ?_) 0 (by omega) (vb, vl, vq, ve, v1, v2, -1, 1000000) ⟨hv, ⟨rfl, Or.inl ⟨rfl, rfl⟩⟩, fun z => absurd rfl z⟩
    · unfold wb_X7_best_7
      refine pk_le 14641 14641 (fun _ => ?_) (fun z => absurd z (by omega))
      have h9 := hQ z.1 z.2.1 z.2.2.1 z.2.2.2.1 z.2.2.2.2.1 z.2.2.2.2.2.1 hz.1
      rw [show (match (some t : Option Nat) with | none => none | some t => (bstF B t 14641).1) = (bstF B t 14641).1 from rfl, ← hz.2.1.1] at h9
      exact h9
    · obtain ⟨wb, wl, wq, we, w1, w2, x2, x3⟩ := z
      obtain ⟨k1, k2, k3⟩ := hz
      dsimp only at k1 k2 k3 ih ⊢
      have hc : i / 121 < 121 := by omega
      have hx : i % 121 < 121 := by omega
      have vx : vp_in (nI (i % 121)) 121 := vp_in_nI hx (by omega)
      have vcc : vp_in (nI (i / 121)) 121 := vp_in_nI hc (by omega)
      have e1 : nI i / (121 : Int32) = nI (i / 121) := pk_div (d := 121) (by omega) (by omega) (by omega)
      have e2 : nI i - nI i / (121 : Int32) * (121 : Int32) = nI (i % 121) := pk_rem (d := 121) (by omega) (by omega) (by omega)
      have nxt : ∀ (wl wq we : Nat → Int32), (∀ k, k < 121 → we k = bi (isE B (some t) (i / 121) k)) → ((i + 1) % 121 ≠ 0 → ∀ k, k < 121 → we k = bi (isE B (some t) ((i + 1) / 121) k)) := fun wl wq we h z => by
        rw [show (i + 1) / 121 = i / 121 by omega]
        exact h
      have j46 : ∀ (wl wq we : Nat → Int32), (∀ k, k < 121 → we k = bi (isE B (some t) (i / 121) k)) → wJ_X7_best_46 z1 z2 z3 (nI t) z5 z6 z7 z8 vf vg wb wl wq we w1 w2 x2 x3 (nI i) (nI (i / 121)) (nI (i % 121)) R := fun wl wq we hwe => by
        unfold wJ_X7_best_46
        rw [nI_clamp (n := i % 121) (by omega), nI_clamp (n := i / 121) (by omega), hwe _ hx]
        refine ⟨vx, bb' (fun e => ⟨vx, vcc, ?_⟩) (fun e => ?_)⟩
        · have hBx := isE_empty e
          have hBc := (isE_own e).2
          have hne : i % 121 ≠ i / 121 := fun z => by rw [z, hBc] at hBx; cases hBx
          have hM : ownB B t (i / 121) = true := decide_eq_true hBc
          have hMx : ownB B t (i % 121) = false := decide_eq_false (fun z => by rw [hBx] at z; cases z)
          have hm10 := mov_10 hx hc hM h10 hMx
          refine t7_wayOf hf hg (BD_mov k1) (BK_mov hB ht) ht (by rw [own_mov hne]; exact hm10) (fun u v1' v2' hu => ⟨vx, vcc, ?_⟩)
          rw [own_mov hne] at hu
          have hule := WAY_le hm10 hu
          have huv := wayV_eq hu
          obtain ⟨q1, q2⟩ := HLD_lt (i := i) k2 hule (by omega) (by omega) hi
          have hbk := BD_back k1 hBc hBx
          refine ⟨fun c => ?_, fun c => ?_⟩
          · have c1 := q1 c
            unfold wJ_X7_best_115
            refine br_t c (ih (_, wl, wq, we, _, _, _, _) ⟨hbk, ?_, nxt wl wq we hwe⟩)
            show HLD 1000000 (bstF B t (i + 1)) _ _
            rw [show bstF B t (i + 1) = bstF B t i from if_neg (fun z => c1 (by rw [← huv] at z; exact z.2))]
            exact k2
          · obtain ⟨c1, c2⟩ := q2 c
            unfold wJ_X7_best_115
            refine br_f c (ih (_, wl, wq, we, _, _, _, _) ⟨hbk, ?_, nxt wl wq we hwe⟩)
            show HLD 1000000 (bstF B t (i + 1)) _ _
            rw [bst_t e (by rw [← huv]; exact c1), ← huv]
            exact c2
        · refine ih (_, wl, wq, we, _, _, _, _) ⟨k1, ?_, nxt wl wq we hwe⟩
          show HLD 1000000 (bstF B t (i + 1)) _ _
          rw [bst_no e]
          exact k2
      unfold wb_X7_best_7
      rw [e2, e1]
      refine pk_le 14641 i (fun z => absurd z (by omega)) (fun _ => br_f (nI_m1 (by omega)) ⟨fun z => ?_, fun z => ?_⟩)
      · exact j46 wl wq we (k3 (fun y => z (by rw [y]; rfl)))
      · exact t7_endsOf (T := some t) hcv hn hf k1 hB hT hc (fun vl vq ve L _ he => j46 vl vq ve he)
end BESTR
