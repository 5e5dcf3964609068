/-! THE GAME: begin, move, pass, undo, the best move -/
/-- what the log tells of the board -/
def Hist (pl : Int32) (fr to tu pd : Nat → Int32) : Nat → Nat → (Nat → Option Nat) → Prop
  | 0, _, _ => True
  | n + 1, P, B => ∃ t p', tu n = nI t ∧ t < 6 ∧ bitB pl t = true ∧ pd n = nI p' ∧ p' ≤ P ∧ ((fr n = -1 ∧ to n = -1 ∧ Hist pl fr to tu pd n p' B) ∨ ∃ a b, a < 121 ∧ b < 121 ∧ fr n = nI a ∧ to n = nI b ∧ B b = some t ∧ B a = none ∧ Hist pl fr to tu pd n p' (fu (fu B a (some t)) b none))
theorem Hist_ext {pl : Int32} {fr to tu pd fr' to' tu' pd' : Nat → Int32} : ∀ (n P : Nat) (B : Nat → Option Nat), (∀ i, i < n → fr' i = fr i ∧ to' i = to i ∧ tu' i = tu i ∧ pd' i = pd i) → Hist pl fr to tu pd n P B → Hist pl fr' to' tu' pd' n P B
  | 0, _, _, _, _ => trivial
  | n + 1, P, B, e, h => by
    obtain ⟨t, p', h1, h2, h3, h4, h5, h6⟩ := h
    obtain ⟨e1, e2, e3, e4⟩ := e n (Nat.lt_succ_self n)
    have e' : ∀ i, i < n → fr' i = fr i ∧ to' i = to i ∧ tu' i = tu i ∧ pd' i = pd i := fun i hi => e i (by omega)
    refine ⟨t, p', e3.trans h1, h2, h3, e4.trans h4, h5, ?_⟩
    rcases h6 with ⟨a1, a2, a3⟩ | ⟨a, b, a1, a2, a3, a4, a5, a6, a7⟩
    · exact Or.inl ⟨e1.trans a1, e2.trans a2, Hist_ext n p' B e' a3⟩
    · exact Or.inr ⟨a, b, a1, a2, e1.trans a3, e2.trans a4, a5, a6, Hist_ext n p' _ e' a7⟩
theorem Hist_le {pl : Int32} {fr to tu pd : Nat → Int32} {n P P' : Nat} {B : Nat → Option Nat} (h : Hist pl fr to tu pd n P B) (hP : P ≤ P') : Hist pl fr to tu pd n P' B := by
  cases n with
  | zero => trivial
  | succ n =>
    obtain ⟨t, p', h1, h2, h3, h4, h5, h6⟩ := h
    exact ⟨t, p', h1, h2, h3, h4, Nat.le_trans h5 hP, h6⟩
/-- what holds of a game between calls -/
def GI (B : Nat → Option Nat) (T : Option Nat) (P N : Nat) (pl : Int32) (pls fr to tu pd : Nat → Int32) : Prop := BK B ∧ (∀ t, T = some t → t < 6 ∧ bitB pl t = true) ∧ P ≤ 6 ∧ PLD pls P ∧ N ≤ 300 ∧ (∀ t, t < 6 → bitB pl t = true → cnt (ownB B t) 121 = 10) ∧ Hist pl fr to tu pd N P B
theorem GI.ob {B : Nat → Option Nat} {T : Option Nat} {P N : Nat} {pl : Int32} {pls fr to tu pd : Nat → Int32} (h : GI B T P N pl pls fr to tu pd) : ob 6 T := fun t e => (h.2.1 t e).1
theorem GI.ten {B : Nat → Option Nat} {T : Option Nat} {P N : Nat} {pl : Int32} {pls fr to tu pd : Nat → Int32} (h : GI B T P N pl pls fr to tu pd) : ∀ t, T = some t → cnt (ownB B t) 121 = 10 := fun t e => h.2.2.2.2.2.1 t (h.2.1 t e).1 (h.2.1 t e).2
/-- moving a marble keeps everyone's number -/
theorem own_keep {B : Nat → Option Nat} {a b t : Nat} (ha : a < 121) (hb : b < 121) (h1 : B b = some t) (h2 : B a = none) (u : Nat) : cnt (ownB (fu (fu B a (some t)) b none) u) 121 = cnt (ownB B u) 121 := by
  have hne : a ≠ b := fun e => by rw [e, h1] at h2; cases h2
  by_cases e : u = t
  · subst e
    rw [own_mov hne]
    have hM : ownB B u b = true := decide_eq_true h1
    have hMa : ownB B u a = false := decide_eq_false (fun z => by rw [h2] at z; cases z)
    have h3 : movB (ownB B u) b a a = true := by unfold movB; rw [decide_eq_true rfl, Bool.true_or]
    have h4 := cnt_rm h3 121 ha
    have h5 := cnt_rm hM 121 hb
    rw [mov_rm hMa] at h4
    omega
  · refine cnt_ext 121 (fun x _ => ?_)
    show decide ((if x = b then none else (if x = a then some t else B x)) = some u) = decide (B x = some u)
    by_cases e1 : x = b
    · rw [if_pos e1, e1, h1, decide_eq_false (fun z => by cases z), decide_eq_false (fun z => e (by cases z; rfl))]
    · rw [if_neg e1]
      by_cases e2 : x = a
      · rw [if_pos e2, e2, h2, decide_eq_false (show ¬ some t = some u from fun z => e (by cases z; rfl)), decide_eq_false (show ¬ (none : Option Nat) = some u from fun z => by cases z)]
      · rw [if_neg e2]
section GAME
variable {V V2 V3 : Prop} {fill pat pl out thr : Int32} {vr vk vc vn vM rr rk vcz vnz vf vg vZ mb pls fr to tu ou pd : Nat → Int32} {r1 r2 r3 p1 p2 p3 p4 p5 p6 l1 l2 l3 l4 l5 : Nat → Int32} {vO : Nat → Int64} {B : Nat → Option Nat} {T : Option Nat} {P N : Nat} {z1 z2 z3 z4 z5 z6 z7 z8 y1 y2 y3 y4 : Int32}
theorem k_begin {x : Int32} (hcv : CPA vc) (hcz : CPA vcz) (hV : V) {G : Int32 → (Nat → Int32) → Int32 → Int32 → Int32 → Int32 → (Nat → Int32) → Int32 → Int32 → Int32 → Int32 → Int32 → Int32 → Int32 → (Nat → Int32) → (Nat → Int32) → Prop}
    (h0 : ∀ w1 w2 U, BD w1 (bgB x) → BD w2 (bgB x) → (∀ t, U = some t → t < 6 ∧ bitB x t = true) → G 0 w1 (nI 0) x 0 (oi U) (dzj mb 6) (nI 0) x (oi U) (nI 0) 0 (nI 0) 0 w2 (dzj mb 6)) (h1 : G 1 vM (nI P) pl out (oi T) mb (nI N) pl (oi T) (nI N) out (nI P) 1 vZ mb) : wp_L_begin fill pat vc vM (nI P) pl out (oi T) mb (nI N) x (fun r5 a1 a2 a3 a4 a5 a6 a7 => V ∧ wp_X7_begin pl z2 z3 (oi T) (nI N) out (nI P) z8 vcz vZ mb x (fun b1 b2 b3 b4 b5 b6 b7 b8 => G r5 a1 a2 a3 a4 a5 a6 a7 b1 b2 b3 b4 b5 b6 b7 b8)) := by
  unfold wp_L_begin wp_X6_begin
  have j45 : ∀ k : Int32, ¬ k = 0 → G 1 vM (nI P) pl out (oi T) mb (nI N) pl (oi T) (nI N) out (nI P) k vZ mb → wJ_X7_begin_45 pl z2 z3 (oi T) (nI N) out (nI P) z8 vcz vZ mb x k (fun b1 b2 b3 b4 b5 b6 b7 b8 => G 1 vM (nI P) pl out (oi T) mb (nI N) b1 b2 b3 b4 b5 b6 b7 b8) := fun k hk h => by
    unfold wJ_X7_begin_45
    exact t7_canN hk (br_t rfl h)
  have bad : (∀ c, 0 ≤ c → c ≤ 63 → ¬ x = nI c) → V ∧ wp_X7_begin pl z2 z3 (oi T) (nI N) out (nI P) z8 vcz vZ mb x (fun b1 b2 b3 b4 b5 b6 b7 b8 => G 1 vM (nI P) pl out (oi T) mb (nI N) b1 b2 b3 b4 b5 b6 b7 b8) := fun h => ⟨hV, by
    unfold wp_X7_begin
    exact t7_many x (fun v _ => t7_isIn (a := 0) (b := 63) (by omega) (by omega) x (fun c q1 q2 e => absurd e (h c q1 q2)) (fun _ => br_t rfl (j45 1 (by decide) h1)))⟩
  rcases rng 0 63 (by omega) (by omega) x with ⟨S, q1, q2, e⟩ | ⟨q1, q2⟩
  · have hS : S < 64 := by omega
    have hp6 : cnt (fun g => S.testBit g) 6 = pop S := of_decide_eq_true (all_lt pop_6 hS)
    have hp10 := pop_10 (show S < 1024 by omega)
    refine br_f (by rw [e]; exact nI_pos (by omega)) (br_f (by rw [e]; exact nI_nlt (b := S) (a := 63) q2 (by decide)) ?_)
    rw [e]
    refine t_bitCount (by omega) (pk_le 2 (pop S) (fun h2 => ?_) (fun h2 => ⟨rfl, hV, ?_⟩))
    · rw [← e]
      refine t_setUp1 hcv (fun w1 hw1 => t_setUp4 ?_)
      unfold wp_X0_clear
      refine ⟨hV, ?_⟩
      unfold wp_X7_begin
      refine t7_many x (fun v hv => t7_isIn (a := 0) (b := 63) (by omega) (by omega) x (fun _ _ _ _ => br_f (by decide) ?_) (fun z => absurd e (z S q1 q2)))
      rw [hv S hS e, hp6]
      refine br_f (nI_nlt (b := 2) h2 (by omega)) ?_
      unfold wJ_X7_begin_45
      refine t7_can0 (br_f (by decide) (t7_begin_board hcz (fun w2 hw2 => t7_begin_turn ?_)))
      have hU : tuj x T 6 = tuj x none 6 := by
        rcases tuj_two x T none 6 with z | z
        · exact z
        · have h9 := all_lt pop_2 hS
          rw [decide_eq_false (show ¬ pop S < 2 by omega), Bool.false_or, List.any_eq_true] at h9
          obtain ⟨k, k1, k2⟩ := h9
          have k3 := z k (List.mem_range.mp k1)
          rw [e] at k3
          unfold bitB at k3
          have hk6 := List.mem_range.mp k1
          rw [bitI (by omega) (by omega), k2] at k3
          exact absurd k3 (by decide)
      rw [hU]
      exact h0 w1 w2 (tuj x none 6) hw1 hw2 (tuj_ok x 6)
    · rw [← e]
      unfold wp_X7_begin
      refine t7_many x (fun v hv => t7_isIn (a := 0) (b := 63) (by omega) (by omega) x (fun _ _ _ _ => br_f (by decide) ?_) (fun z => absurd e (z S q1 q2)))
      rw [hv S hS e, hp6]
      exact br_t (nI_lt (b := 2) h2 (by decide)) (j45 1 (by decide) h1)
  · refine br_c (fun _ => ⟨rfl, bad q1⟩) (fun z => br_t ?_ ⟨rfl, bad q1⟩)
    have h3 := q2 z
    rw [Int32.le_iff_toInt_le] at h3
    rw [Int32.lt_iff_toInt_lt]
    have h4 : (63 : Int32).toInt = (nI 63).toInt := rfl
    omega
/-- both logs take the same entry -/
theorem t_add {x y : Int32} {Q : Int32 → (Nat → Int32) → (Nat → Int32) → (Nat → Int32) → (Nat → Int32) → (Nat → Int32) → Prop} (hN : N < 300) (h : Q (nI (N + 1)) (upd fr N x) (upd to N y) (upd tu N y4) (upd ou N y3) (upd pd N y1)) : wp_X0_add y1 y2 y3 y4 (nI N) fr to tu ou pd x y Q := by
  unfold wp_X0_add wp_X4_onTurn wp_X4_outSet wp_X4_placedCount
  have v : vp_in (nI N) 300 := vp_in_nI hN (by omega)
  refine pk_le 300 N (fun z => absurd z (by omega)) (fun _ => ⟨v, v, v, v, v, ?_⟩)
  rw [nI_clamp (n := N) (by omega), nI_1]
  exact h
theorem t7_notes {x y : Int32} {t : Nat} {Q : Int32 → (Nat → Int32) → (Nat → Int32) → (Nat → Int32) → (Nat → Int32) → (Nat → Int32) → (Nat → Int32) → Prop} (hN : N < 300) (ht : t < 6) (h : Q (nI (N + 1)) (upd mb t (mb t + 1)) (upd fr N x) (upd to N y) (upd tu N (nI t)) (upd ou N z6) (upd pd N z7)) : wp_X7_notes z1 z2 z3 (nI t) (nI N) z6 z7 z8 mb fr to tu ou pd x y Q := by
  unfold wp_X7_notes
  have v : vp_in (nI N) 300 := vp_in_nI hN (by omega)
  have vt : vp_in (nI t) 6 := vp_in_nI ht (by omega)
  refine ⟨v, v, v, v, v, vt, vt, ?_⟩
  rw [nI_clamp (n := N) (by omega), nI_clamp (n := t) (by omega), nI_1]
  exact h
theorem t_countMove {t : Nat} {Q : (Nat → Int32) → Prop} (ht : t < 6) (h : Q (upd mb t (mb t + 1))) : wp_X4_countMove y1 y2 y3 (nI t) mb Q := by
  unfold wp_X4_countMove
  have vt : vp_in (nI t) 6 := vp_in_nI ht (by omega)
  refine t_isCamp ht (br_f (by decide) ⟨vt, vt, ?_⟩)
  rw [nI_clamp (n := t) (by omega)]
  exact h
theorem Hist_add {fr to tu pd : Nat → Int32} {t P' : Nat} {x y : Int32} {B' : Nat → Option Nat} (ht : t < 6) (hpl : bitB pl t = true) (hP : P ≤ P') (h : (x = -1 ∧ y = -1 ∧ Hist pl fr to tu pd N P B') ∨ ∃ a b, a < 121 ∧ b < 121 ∧ x = nI a ∧ y = nI b ∧ B' b = some t ∧ B' a = none ∧ Hist pl fr to tu pd N P (fu (fu B' a (some t)) b none)) : Hist pl (upd fr N x) (upd to N y) (upd tu N (nI t)) (upd pd N (nI P)) (N + 1) P' B' := by
  have s : ∀ (f : Nat → Int32) (v : Int32), upd f N v N = v := fun f v => if_pos rfl
  have o : ∀ i, i < N → upd fr N x i = fr i ∧ upd to N y i = to i ∧ upd tu N (nI t) i = tu i ∧ upd pd N (nI P) i = pd i := fun i hi => by
    have : ∀ (f : Nat → Int32) (v : Int32), upd f N v i = f i := fun f v => if_neg (by omega)
    exact ⟨this _ _, this _ _, this _ _, this _ _⟩
  refine ⟨t, P, s _ _, ht, hpl, s _ _, hP, ?_⟩
  rcases h with ⟨a1, a2, a3⟩ | ⟨a, b, a1, a2, a3, a4, a5, a6, a7⟩
  · exact Or.inl ⟨(s _ _).trans a1, (s _ _).trans a2, Hist_ext _ _ _ o a3⟩
  · exact Or.inr ⟨a, b, a1, a2, (s _ _).trans a3, (s _ _).trans a4, a5, a6, Hist_ext _ _ _ o a7⟩
theorem board_back {a b t : Nat} (h1 : B a = some t) (h2 : B b = none) : fu (fu (fu (fu B b (some t)) a none) a (some t)) b none = B := by
  funext k
  show (if k = b then none else (if k = a then some t else (if k = a then none else (if k = b then some t else B k)))) = B k
  by_cases e1 : k = b
  · rw [if_pos e1, e1, h2]
  · rw [if_neg e1]
    by_cases e2 : k = a
    · rw [if_pos e2, e2, h1]
    · rw [if_neg e2, if_neg e2, if_neg e1]
theorem t_carry {a b t : Nat} {Q : (Nat → Int32) → Prop} (hv : BD vM B) (ha : a < 121) (hb : b < 121) (h1 : B a = some t) (h : ∀ v, BD v (fu (fu B b (some t)) a none) → Q v) : wp_X1_carry vM (nI a) (nI b) Q := by
  unfold wp_X1_carry
  have va := vp_in_nI ha (show 121 < 2 ^ 31 by decide)
  have vb := vp_in_nI hb (show 121 < 2 ^ 31 by decide)
  refine t_isCell ha (br_f (by decide) (t_isCell hb (br_f (by decide) ⟨va, vb, va, ?_⟩)))
  rw [nI_clamp (n := a) (by omega), nI_clamp (n := b) (by omega), hv a ha, h1]
  exact h _ (BD_mov hv)
theorem k_move {x y : Int32} (hcv : CPA vc) (hn : NXA vn) (hv : BD vM B) (hcz : CPA vcz) (hnz : NXA vnz) (hf : FARA vf) (hg : GCA vg) (hz : BD vZ B) (hI : GI B T P N pl pls fr to tu pd) (hV : V) (hV2 : V2)
    {G : Int32 → (Nat → Int32) → (Nat → Int32) → (Nat → Int32) → (Nat → Int32) → Int32 → Int32 → Int32 → (Nat → Int32) → (Nat → Int32) → Int32 → (Nat → Int32) → (Nat → Int32) → (Nat → Int32) → (Nat → Int32) → (Nat → Int32) → (Nat → Int64) → Int32 → Int32 → Int32 → Int32 → Int32 → Int32 → (Nat → Int32) → (Nat → Int32) → (Nat → Int32) → (Nat → Int32) → (Nat → Int32) → (Nat → Int32) → (Nat → Int32) → (Nat → Int32) → (Nat → Int32) → (Nat → Int32) → (Nat → Int32) → Prop}
    (h0 : ∀ (r : Int32) B' T' P' o' w1 w2 a1 a2 a3 b1 b2 b3 m' pls' fr' to' tu' ou' pd', GI B' T' P' (N + 1) pl pls' fr' to' tu' pd' → BD w1 B' → BD w2 B' → G 0 w1 a1 a2 a3 (nI P') o' (oi T') m' pls' (nI (N + 1)) fr' to' tu' ou' pd' (vp_updL vO (0 : Int32).toNatClampNeg r.toInt64) r (oi T') (nI (N + 1)) o' (nI P') 0 w2 m' pls' fr' to' tu' ou' pd' b1 b2 b3)
    (h1 : ∀ (k : Int32) a1 a2 a3 b1 b2 b3, ¬ k = 0 → G k vM a1 a2 a3 (nI P) out (oi T) mb pls (nI N) fr to tu ou pd vO 0 (oi T) (nI N) out (nI P) k vZ mb pls fr to tu ou pd b1 b2 b3) :
    wp_L_move fill pat vc vn vM r1 r2 r3 (nI P) pl out (oi T) mb pls (nI N) fr to tu ou pd vO x y (fun r5 c1 c2 c3 c4 c5 c6 c7 c8 c9 c10 c11 c12 c13 c14 c15 w => V ∧ V2 ∧ wp_X7_move pl fill pat (oi T) (nI N) out (nI P) z8 vcz vnz vf vg vZ mb pls fr to tu ou pd l1 l2 l3 x y (fun d1 d2 d3 d4 d5 d6 d7 d8 d9 d10 d11 d12 d13 d14 d15 d16 d17 => G r5 c1 c2 c3 c4 c5 c6 c7 c8 c9 c10 c11 c12 c13 c14 c15 w d1 d2 d3 d4 d5 d6 d7 d8 d9 d10 d11 d12 d13 d14 d15 d16 d17)) := by
  have hT := hI.ob
  obtain ⟨hB, hplay, hP6, hPL, hN300, hten, hH⟩ := hI
  unfold wp_L_move wp_X6_move
  have j42 : ∀ (k : Int32) (u1 u2 u3 : Nat → Int32), ¬ k = 0 → wJ_X7_move_42 pl fill pat (oi T) (nI N) out (nI P) z8 vcz vnz vf vg vZ mb pls fr to tu ou pd l1 l2 l3 x y k (fun d1 d2 d3 d4 d5 d6 d7 d8 d9 d10 d11 d12 d13 d14 d15 d16 d17 => G k vM u1 u2 u3 (nI P) out (oi T) mb pls (nI N) fr to tu ou pd vO d1 d2 d3 d4 d5 d6 d7 d8 d9 d10 d11 d12 d13 d14 d15 d16 d17) := fun k u1 u2 u3 hk => by
    unfold wJ_X7_move_42
    exact t7_canN hk ⟨fun z => absurd rfl z, fun _ => h1 _ _ _ _ _ _ _ hk⟩
  rcases cell_cases x with ⟨a, ha, e1⟩ | hbad
  · rcases cell_cases y with ⟨b, hb, e2⟩ | hbad
    · subst e1 e2
      refine t_isCell ha (br_f (by decide) (t_isCell hb ⟨fun _ => ?_, fun z => absurd z (by decide)⟩))
      unfold wp_X6_isOpen wp_X4_onTurn wp_X0_size
      have cell2 : (∀ k : Int32, True) := fun _ => trivial
      refine bo_m1 hT (fun e => ⟨fun z => absurd rfl z, fun _ => Or.inr (Or.inl ⟨rfl, hV, hV2, ?_⟩)⟩) (fun t e => pk_le 300 N (fun hN => ⟨fun z => absurd rfl z, fun _ => Or.inr (Or.inl ⟨rfl, hV, hV2, ?_⟩)⟩) (fun hN => ⟨fun _ => ?_, fun z => absurd z (by decide)⟩))
      · unfold wp_X7_move
        exact t7_isCell ha (br_f (by decide) (t7_isCell hb ⟨fun _ => bo_m1 hT (fun _ => j42 2 _ _ _ (by decide)) (fun n e' => by rw [e] at e'; cases e'), fun z => absurd z (by decide)⟩))
      · unfold wp_X7_move
        have hN' : N = 300 := by omega
        exact t7_isCell ha (br_f (by decide) (t7_isCell hb ⟨fun _ => bo_m1 hT (fun e' => by rw [e] at e'; cases e') (fun n e' => ⟨fun z => absurd (by rw [hN']; rfl) z, fun _ => j42 2 _ _ _ (by decide)⟩), fun z => absurd z (by decide)⟩))
      · obtain ⟨ht, hpl⟩ := hplay t e
        have hNe : ¬ nI N = (300 : Int32) := fun z => by
          have := nI_inj (show N < 2 ^ 31 by omega) (show 300 < 2 ^ 31 by decide) z
          omega
        refine t_search hcv hn hv hB hT ha (fun a1 a2 a3 hq => t_hopsTo hq hb (bo_m1' (EE_ob ha hb) (fun hE => Or.inr (Or.inr ⟨rfl, hV, hV2, ?_⟩)) (fun M hE => ?_)))
        · unfold wp_X7_move
          refine t7_isCell ha (br_f (by decide) (t7_isCell hb ⟨fun _ => bo_m1 hT (fun e' => by rw [e] at e'; cases e') (fun n e' => ⟨fun _ => ?_, fun z => absurd z hNe⟩), fun z => absurd z (by decide)⟩))
          unfold wJ_X7_move_42
          refine t7_can0 ⟨fun _ => t7_hopsOf hcz hnz hf hz hB hT ha hb (fun _ _ _ => ?_), fun z => absurd z (by decide)⟩
          rw [hE]
          refine ⟨fun z => absurd rfl z, fun _ => ?_⟩
          unfold wJ_X7_move_68
          exact t7_canN (by decide) ⟨fun z => absurd rfl z, fun _ => h1 _ _ _ _ _ _ _ (by decide)⟩
        · have hEs : isE B T a b = true := by show (EE B T a b).isSome = true; rw [hE]; rfl
          have hMb := EE_ob (T := T) (B := B) ha hb M hE
          subst e
          have hBa := (isE_own hEs).2
          have hBb := isE_empty hEs
          have hne : b ≠ a := fun z => by rw [z, hBa] at hBb; cases hBb
          have hB' : BK (fu (fu B b (some t)) a none) := BK_mov hB ht
          refine t_add (by omega) (t_carry hv ha hb hBa (fun w1 hw1 => t_countMove ht ?_))
          refine t_placeFinishers hcv hw1 hB' hPL hP6 ?_
          obtain ⟨f1, f2, f3⟩ := finS_ok (pl := pl) (out := out) (fill := fill) (B := fu (fu B b (some t)) a none) (z := (P, pls)) hPL hP6 6 (Nat.le_refl _)
          generalize hy : finS pl out fill (fu (fu B b (some t)) a none) (P, pls) 6 = yy at f1 f2 f3 ⊢
          refine t_goOn hcv hw1 hB' f2 ht ⟨v01, hV, hV2, ?_⟩
          unfold wp_X7_move
          refine t7_isCell ha (br_f (by decide) (t7_isCell hb ⟨fun _ => br_f (nI_m1 (by omega)) ⟨fun _ => ?_, fun z => absurd z hNe⟩, fun z => absurd z (by decide)⟩))
          unfold wJ_X7_move_42
          refine t7_can0 ⟨fun _ => t7_hopsOf hcz hnz hf hz hB hT ha hb (fun _ _ _ => ?_), fun z => absurd z (by decide)⟩
          rw [hE]
          refine ⟨fun _ => ?_, fun z => absurd z (nI_m1 (by omega))⟩
          unfold wJ_X7_move_68
          refine t7_can0 ⟨fun _ => t7_notes (by omega) ht ⟨vp_in_nI hb (by omega), vp_in_nI ha (by omega), ?_⟩, fun z => absurd z (by decide)⟩
          rw [nI_clamp (n := a) (by omega), nI_clamp (n := b) (by omega)]
          have hz' := BD_mov (t := t) (a := a) (x := b) hz
          refine t7_finishes hg hz' hB' hPL hP6 ?_
          rw [hy]
          refine t7_turns hg hz' hB' f2 ht ?_
          refine h0 _ _ _ _ _ _ _ _ _ _ _ _ _ _ _ _ _ _ _ _ ⟨hB', fun u hu => goS_ok 6 u hu, f2, f1, by omega, fun u hu hb2 => ?_, ?_⟩ hw1 hz'
          · rw [own_keep hb ha hBa hBb]
            exact hten u hu hb2
          · refine Hist_add ht hpl f3 (Or.inr ⟨a, b, ha, hb, rfl, rfl, ?_, ?_, ?_⟩)
            · show (if b = a then none else (if b = b then some t else B b)) = some t
              rw [if_neg hne, if_pos rfl]
            · show (if a = a then none else _) = none
              rw [if_pos rfl]
            · rw [board_back hBa hBb]
              exact hH
    · subst e1
      refine t_isCell ha (br_f (by decide) (t_isCell_bad hbad ⟨fun z => absurd rfl z, fun _ => Or.inl ⟨rfl, hV, hV2, ?_⟩⟩))
      unfold wp_X7_move
      exact t7_isCell ha (br_f (by decide) (t7_isCell_bad hbad ⟨fun z => absurd rfl z, fun _ => j42 1 _ _ _ (by decide)⟩))
  · refine t_isCell_bad hbad (br_t rfl (Or.inl ⟨rfl, hV, hV2, ?_⟩))
    unfold wp_X7_move
    exact t7_isCell_bad hbad (br_t rfl (j42 1 _ _ _ (by decide)))
theorem k_pass (hcv : CPA vc) (hn : NXA vn) (hv : BD vM B) (hcz : CPA vcz) (hnz : NXA vnz) (hf : FARA vf) (hg : GCA vg) (hz : BD vZ B) (hI : GI B T P N pl pls fr to tu pd)
    {G : Int32 → (Nat → Int32) → (Nat → Int32) → (Nat → Int32) → Int32 → Int32 → (Nat → Int32) → Int32 → (Nat → Int32) → (Nat → Int32) → (Nat → Int32) → (Nat → Int32) → (Nat → Int32) → Int32 → Int32 → Int32 → Int32 → (Nat → Int32) → (Nat → Int32) → (Nat → Int32) → (Nat → Int32) → (Nat → Int32) → (Nat → Int32) → (Nat → Int32) → (Nat → Int32) → (Nat → Int32) → Prop}
    (h0 : ∀ T' o' a1 a2 a3 b1 b2 b3 m' fr' to' tu' ou' pd', GI B T' P (N + 1) pl pls fr' to' tu' pd' → G 0 a1 a2 a3 o' (oi T') m' (nI (N + 1)) fr' to' tu' ou' pd' (oi T') (nI (N + 1)) o' 0 m' fr' to' tu' ou' pd' b1 b2 b3)
    (h1 : ∀ a1 a2 a3 b1 b2 b3, G 1 a1 a2 a3 out (oi T) mb (nI N) fr to tu ou pd (oi T) (nI N) out 1 mb fr to tu ou pd b1 b2 b3) :
    wp_L_pass fill pat vc vn vM r1 r2 r3 (nI P) pl out (oi T) mb pls (nI N) fr to tu ou pd (fun r5 c1 c2 c3 c4 c5 c6 c7 c8 c9 c10 c11 c12 => wp_X7_pass pl fill pat (oi T) (nI N) out (nI P) z8 vcz vnz vf vg vZ mb pls fr to tu ou pd l1 l2 l3 (fun d1 d2 d3 d4 d5 d6 d7 d8 d9 d10 d11 d12 d13 => G r5 c1 c2 c3 c4 c5 c6 c7 c8 c9 c10 c11 c12 d1 d2 d3 d4 d5 d6 d7 d8 d9 d10 d11 d12 d13)) := by
  have hT := hI.ob
  obtain ⟨hB, hplay, hP6, hPL, hN300, hten, hH⟩ := hI
  unfold wp_L_pass wp_X6_pass wp_X6_isOpen wp_X4_onTurn wp_X0_size
  have j31 : ∀ (u1 u2 u3 b1 b2 b3 : Nat → Int32), wJ_X7_pass_31 pl fill pat (oi T) (nI N) out (nI P) z8 vg vZ mb pls fr to tu ou pd b1 b2 b3 1 (fun d1 d2 d3 d4 d5 d6 d7 d8 d9 d10 d11 d12 d13 => G 1 u1 u2 u3 out (oi T) mb (nI N) fr to tu ou pd d1 d2 d3 d4 d5 d6 d7 d8 d9 d10 d11 d12 d13) := fun u1 u2 u3 b1 b2 b3 => by
    unfold wJ_X7_pass_31
    exact t7_canN (by decide) (br_t rfl (h1 _ _ _ _ _ _))
  have hsum : sumN (fun c => cnt (isE B T c) 121) 121 ≤ 121 * 121 := sumN_le (fun c => cnt_le _ 121) 121
  generalize hs : sumN (fun c => cnt (isE B T c) 121) 121 = sm at hsum
  have hNe : N < 300 → ¬ nI N = (300 : Int32) := fun hlt z => by
    have := nI_inj (show N < 2 ^ 31 by omega) (show 300 < 2 ^ 31 by decide) z
    omega
  refine bo_m1 hT (fun e => br_t rfl ⟨rfl, ?_⟩) (fun t e => pk_le 300 N (fun hN => br_t rfl ⟨rfl, ?_⟩) (fun hN => br_f (by decide) (t_moves hcv hn hv hB hT (fun a1 a2 a3 => ?_))))
  · unfold wp_X7_pass
    exact bo_m1 hT (fun _ => j31 _ _ _ _ _ _) (fun n e' => by rw [e] at e'; cases e')
  · unfold wp_X7_pass
    have hN' : N = 300 := by omega
    refine bo_m1 hT (fun e' => by rw [e] at e'; cases e') (fun n e' => t7_allMoves hcz hnz hf hz hB hT (fun b1 b2 b3 => ?_))
    exact br_c (fun _ => j31 _ _ _ _ _ _) (fun _ => ⟨fun z => absurd (by rw [hN']; rfl) z, fun _ => j31 _ _ _ _ _ _⟩)
  · rw [hs]
    refine pk_le sm 0 (fun h9 => ?_) (fun h9 => ⟨rfl, ?_⟩)
    · obtain ⟨ht, hpl⟩ := hplay t e
      subst e
      refine t_add hN (t_countMove ht (t_goOn hcv hv hB hP6 ht ?_))
      unfold wp_X7_pass
      refine br_f (nI_m1 (by omega)) (t7_allMoves hcz hnz hf hz hB hT (fun b1 b2 b3 => ?_))
      rw [hs]
      refine pk_lt 0 sm (fun z => absurd z (by omega)) (fun _ => ⟨fun _ => ?_, fun z => absurd z (hNe hN)⟩)
      unfold wJ_X7_pass_31
      refine t7_can0 (br_f (by decide) (t7_notes hN ht (t7_turns hg hz hB hP6 ht ?_)))
      refine h0 _ _ _ _ _ _ _ _ _ _ _ _ _ _ ⟨hB, fun u hu => goS_ok 6 u hu, hP6, hPL, by omega, hten, ?_⟩
      exact Hist_add ht hpl (Nat.le_refl _) (Or.inl ⟨rfl, rfl, hH⟩)
    · unfold wp_X7_pass
      refine bo_m1 hT (fun e' => by rw [e] at e'; cases e') (fun n e' => t7_allMoves hcz hnz hf hz hB hT (fun b1 b2 b3 => ?_))
      rw [hs]
      exact pk_lt 0 sm (fun _ => j31 _ _ _ _ _ _) (fun z => absurd z (by omega))
theorem k_undo (hv : BD vM B) (hz : BD vZ B) (hI : GI B T P N pl pls fr to tu pd)
    {G : Int32 → (Nat → Int32) → Int32 → Int32 → Int32 → (Nat → Int32) → Int32 → (Nat → Int64) → Int32 → Int32 → Int32 → Int32 → Int32 → Int32 → (Nat → Int32) → (Nat → Int32) → Prop}
    (h0 : ∀ (r : Int32) B' T' P' N' o' m' w1 w2, GI B' T' P' N' pl pls fr to tu pd → BD w1 B' → BD w2 B' → G 0 w1 (nI P') o' (oi T') m' (nI N') (vp_updL vO (0 : Int32).toNatClampNeg r.toInt64) r (oi T') (nI N') o' (nI P') 0 w2 m')
    (h1 : G 1 vM (nI P) out (oi T) mb (nI N) vO 0 (oi T) (nI N) out (nI P) 1 vZ mb) :
    wp_L_undo fill pat vM (nI P) pl out (oi T) mb (nI N) fr to tu ou pd vO (fun r5 c1 c2 c3 c4 c5 c6 w => wp_X7_undo pl fill pat (oi T) (nI N) out (nI P) z8 vZ mb fr to tu ou pd (fun d1 d2 d3 d4 d5 d6 d7 d8 => G r5 c1 c2 c3 c4 c5 c6 w d1 d2 d3 d4 d5 d6 d7 d8)) := by
  obtain ⟨hB, hplay, hP6, hPL, hN300, hten, hH⟩ := hI
  unfold wp_L_undo wp_X6_undo wp_X0_size
  cases N with
  | zero =>
    refine ⟨fun z => absurd rfl z, fun _ => ⟨rfl, ?_⟩⟩
    unfold wp_X7_undo wJ_X7_undo_13
    exact ⟨fun z => absurd rfl z, fun _ => t7_canN (by decide) ⟨fun z => absurd rfl z, fun _ => h1⟩⟩
  | succ N =>
    obtain ⟨t, p', q1, ht, hpl, q2, q3, q4⟩ := hH
    have hN : N < 300 := by omega
    have vN : vp_in (nI N) 300 := vp_in_nI hN (by omega)
    have vt : vp_in (nI t) 6 := vp_in_nI ht (by omega)
    have hne : ¬ nI (N + 1) = 0 := nI_ne0 (by omega) (by omega)
    refine ⟨fun _ => ?_, fun z => absurd z hne⟩
    unfold wp_X0_takeBack wp_X4_restore
    refine br_f (nI_nle (by omega) (by omega)) ?_
    rw [nI_pred, nI_clamp (n := N) (by omega), q1, q2]
    refine ⟨vN, vN, ?_⟩
    rcases q4 with ⟨a1, a2, a3⟩ | ⟨a, b, ha, hb, a1, a2, a3, a4, a5⟩
    · rw [a1, a2]
      unfold wp_X1_carry
      refine t_isCell_m1 (br_t rfl ⟨vN, vN, vN, t_isCamp ht (br_f (by decide) ⟨vt, vt, v01, ?_⟩)⟩)
      unfold wp_X7_undo wJ_X7_undo_13
      refine ⟨fun _ => t7_can0 ⟨fun _ => ?_, fun z => absurd z (by decide)⟩, fun z => absurd z hne⟩
      rw [nI_pred, nI_clamp (n := N) (by omega), q1, q2, a1, nI_clamp (n := t) (by omega)]
      refine ⟨vN, vN, vN, vt, vt, vN, br_t rfl ?_⟩
      exact h0 _ B (some t) p' N _ _ _ _ ⟨hB, fun u hu => by cases hu; exact ⟨ht, hpl⟩, by omega, PLD_le hPL q3, by omega, hten, a3⟩ hv hz
    · rw [a1, a2]
      refine t_carry hv hb ha a3 (fun w hw => ⟨vN, vN, vN, t_isCamp ht (br_f (by decide) ⟨vt, vt, v01, ?_⟩)⟩)
      unfold wp_X7_undo wJ_X7_undo_13
      refine ⟨fun _ => t7_can0 ⟨fun _ => ?_, fun z => absurd z (by decide)⟩, fun z => absurd z hne⟩
      rw [nI_pred, nI_clamp (n := N) (by omega), q1, q2, a1, a2, nI_clamp (n := t) (by omega), nI_clamp (n := a) (by omega), nI_clamp (n := b) (by omega)]
      refine ⟨vN, vN, vN, vt, vt, vN, br_f (nI_m1 (by omega)) ⟨vN, vp_in_nI ha (by omega), vN, vp_in_nI hb (by omega), ?_⟩⟩
      refine h0 _ (fu (fu B a (some t)) b none) (some t) p' N _ _ _ _ ⟨BK_mov hB ht, fun u hu => by cases hu; exact ⟨ht, hpl⟩, by omega, PLD_le hPL q3, by omega, fun u hu hb2 => ?_, a5⟩ hw (BD_mov hz)
      rw [own_keep ha hb a3 a4]
      exact hten u hu hb2
theorem bst_num {t : Nat} : ∀ i m, (bstF B t i).1 = some m → m < i
  | 0, m, h => by cases h
  | i + 1, m, h => by
    unfold bstF at h
    by_cases e : isE B (some t) (i / 121) (i % 121) = true ∧ ((bstF B t i).1 = none ∨ wayV t (movB (ownB B t) (i / 121) (i % 121)) < (bstF B t i).2)
    · rw [if_pos e] at h; cases h; exact Nat.lt_succ_self _
    · rw [if_neg e] at h; have := bst_num i m h; omega
theorem bst_ob : ob 14641 (match T with | none => none | some t => (bstF B t 14641).1) := fun m h => by
  cases T with
  | none => cases h
  | some t => exact bst_num 14641 m h
theorem k_bestFrom (hr : ROWA vr) (hk : COLA vk) (hcv : CPA vc) (hn : NXA vn) (hv : BD vM B) (hcz : CPA vcz) (hnz : NXA vnz) (hf : FARA vf) (hg : GCA vg) (hz : BD vZ B) (hI : GI B T P N pl pls fr to tu pd) {G : Int32 → (Nat → Int32) → (Nat → Int32) → (Nat → Int32) → (Nat → Int32) → (Nat → Int32) → (Nat → Int32) → (Nat → Int32) → (Nat → Int32) → (Nat → Int32) → Int32 → Int32 → (Nat → Int32) → (Nat → Int32) → (Nat → Int32) → (Nat → Int32) → (Nat → Int32) → (Nat → Int32) → Prop}
    (h0 : ∀ (r : Int32) c1 c2 c3 c4 c5 c6 c7 c8 c9 w d1 d2 d3 d4 d5, BD w B → G r c1 c2 c3 c4 c5 c6 c7 c8 c9 r 0 w d1 d2 d3 d4 d5) : wp_X6_bestFrom fill pat vr vk vc vn vM r1 r2 r3 p1 p2 p3 p4 p5 p6 y1 y2 y3 (oi T) (fun r c1 c2 c3 c4 c5 c6 c7 c8 c9 => wp_X7_bestFrom z1 z2 z3 (oi T) z5 z6 z7 z8 vcz vnz vf vg vZ l1 l2 l3 l4 l5 (fun b t w d1 d2 d3 d4 d5 => G r c1 c2 c3 c4 c5 c6 c7 c8 c9 b t w d1 d2 d3 d4 d5)) := by
  unfold wp_X6_bestFrom
  refine t_bestMove hr hk hcv hn hv hI.1 hI.ob hI.ten (fun c1 c2 c3 c4 c5 c6 c7 c8 c9 => bo_m1' bst_ob (fun e => ?_) (fun m e => ?_))
  · unfold wp_X7_bestFrom
    refine t7_best hcz hnz hf hg hz hI.1 hI.ob hI.ten (fun w d1 d2 d3 d4 d5 hw => bo_m1' bst_ob (fun _ => h0 _ _ _ _ _ _ _ _ _ _ _ _ _ _ _ _ hw) (fun m e' => by rw [e] at e'; cases e'))
  · unfold wp_X7_bestFrom
    refine t7_best hcz hnz hf hg hz hI.1 hI.ob hI.ten (fun w d1 d2 d3 d4 d5 hw => bo_m1' bst_ob (fun e' => by rw [e] at e'; cases e') (fun m e' => ?_))
    exact h0 _ _ _ _ _ _ _ _ _ _ _ _ _ _ _ _ hw
theorem k_bestTo (hr : ROWA vr) (hk : COLA vk) (hcv : CPA vc) (hn : NXA vn) (hv : BD vM B) (hcz : CPA vcz) (hnz : NXA vnz) (hf : FARA vf) (hg : GCA vg) (hz : BD vZ B) (hI : GI B T P N pl pls fr to tu pd) {G : Int32 → (Nat → Int32) → (Nat → Int32) → (Nat → Int32) → (Nat → Int32) → (Nat → Int32) → (Nat → Int32) → (Nat → Int32) → (Nat → Int32) → (Nat → Int32) → Int32 → Int32 → (Nat → Int32) → (Nat → Int32) → (Nat → Int32) → (Nat → Int32) → (Nat → Int32) → (Nat → Int32) → Prop}
    (h0 : ∀ (r : Int32) c1 c2 c3 c4 c5 c6 c7 c8 c9 w d1 d2 d3 d4 d5, BD w B → G r c1 c2 c3 c4 c5 c6 c7 c8 c9 r 0 w d1 d2 d3 d4 d5) : wp_X6_bestTo fill pat vr vk vc vn vM r1 r2 r3 p1 p2 p3 p4 p5 p6 y1 y2 y3 (oi T) (fun r c1 c2 c3 c4 c5 c6 c7 c8 c9 => wp_X7_bestTo z1 z2 z3 (oi T) z5 z6 z7 z8 vcz vnz vf vg vZ l1 l2 l3 l4 l5 (fun b t w d1 d2 d3 d4 d5 => G r c1 c2 c3 c4 c5 c6 c7 c8 c9 b t w d1 d2 d3 d4 d5)) := by
  unfold wp_X6_bestTo
  refine t_bestMove hr hk hcv hn hv hI.1 hI.ob hI.ten (fun c1 c2 c3 c4 c5 c6 c7 c8 c9 => bo_m1' bst_ob (fun e => ?_) (fun m e => ?_))
  · unfold wp_X7_bestTo
    refine t7_best hcz hnz hf hg hz hI.1 hI.ob hI.ten (fun w d1 d2 d3 d4 d5 hw => bo_m1' bst_ob (fun _ => h0 _ _ _ _ _ _ _ _ _ _ _ _ _ _ _ _ hw) (fun m e' => by rw [e] at e'; cases e'))
  · unfold wp_X7_bestTo
    refine t7_best hcz hnz hf hg hz hI.1 hI.ob hI.ten (fun w d1 d2 d3 d4 d5 hw => bo_m1' bst_ob (fun e' => by rw [e] at e'; cases e') (fun m e' => ?_))
    exact h0 _ _ _ _ _ _ _ _ _ _ _ _ _ _ _ _ hw
end GAME
