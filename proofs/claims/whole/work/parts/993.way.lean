/-! THE WAY: both sides' tables of sums -/
def ROWA (v : Nat → Int32) : Prop := ∀ c, c < 121 → v c = nI (rw_ c)
def COLA (v : Nat → Int32) : Prop := ∀ c, c < 121 → v c = nI (cw_ c)
theorem absI {x y : Nat} (hx : x < 256) (hy : y < 256) : (if 0 ≤ nI x - nI y then nI x - nI y else 0 - (nI x - nI y)) = nI (adf x y) := by
  by_cases h : y ≤ x
  · rw [pk_sub h, if_pos (nI_pos' (by omega))]
    unfold adf
    by_cases e : x ≤ y
    · rw [if_pos e]; congr 1; omega
    · rw [if_neg e]
  · have h1 : ¬ 0 ≤ nI x - nI y := fun z => by
      rw [Int32.le_iff_toInt_le, pk_sub_toInt (by omega) (by omega), show (0 : Int32).toInt = 0 from rfl] at z
      omega
    rw [if_neg h1, Int32.zero_sub, Int32.neg_sub, pk_sub (by omega)]
    unfold adf
    rw [if_pos (by omega)]
theorem maxI {x y : Nat} (hx : x < 512) (hy : y < 512) : (if nI x < nI y then nI y else nI x) = nI (max x y) := by
  by_cases h : x < y
  · rw [if_pos (nI_lt h (by omega)), Nat.max_eq_right (by omega)]
  · rw [if_neg (nI_nlt (by omega) (by omega)), Nat.max_eq_left (by omega)]
theorem minIf {x y : Nat} (hx : x < 2 ^ 31) (hy : y < 2 ^ 31) : (if nI x < nI y then nI x else nI y) = if x < y then nI x else nI y := by
  by_cases h : x < y
  · rw [if_pos (nI_lt h (by omega)), if_pos h]
  · rw [if_neg (nI_nlt (by omega) (by omega)), if_neg h]
theorem t_steps {vr vc : Nat → Int32} {a b : Nat} {Q : Int32 → Prop} (hr : ROWA vr) (hcl : COLA vc) (ha : a < 121) (hb : b < 121) (h : Q (nI (dst a b))) : wp_X5_steps vr vc (nI a) (nI b) Q := by
  unfold wp_X5_steps
  have va := vp_in_nI ha (show 121 < 2 ^ 31 by decide)
  have vb := vp_in_nI hb (show 121 < 2 ^ 31 by decide)
  have l1 := adf_lt (rw_lt a) (rw_lt b)
  have l2 := adf_lt (cw_lt a) (cw_lt b)
  refine t_isCell ha (br_f (by decide) (t_isCell hb ⟨fun _ => ⟨va, vb, va, vb, ?_⟩, fun z => absurd z (by decide)⟩))
  rw [nI_clamp (n := a) (by omega), nI_clamp (n := b) (by omega), hr a ha, hr b hb, hcl a ha, hcl b hb, absI (rw_lt a) (rw_lt b), absI (cw_lt a) (cw_lt b), nI_add, show (2 : Int32) = nI 2 from rfl, pk_div (by omega) (by omega) (by omega), maxI (by omega) (by omega)]
  exact h
/-- is it a goal cell of t -/
def glB (t : Nat) (x : Nat) : Bool := decide (cp x = some ((t + 3) % 6))
def ownB (B : Nat → Option Nat) (t : Nat) (x : Nat) : Bool := decide (B x = some t)
/-- the cells of M, in order -/
def ORD (M : Nat → Bool) (n : Nat) (v : Nat → Int32) : Prop := ∀ x, x < n → M x = true → v (cnt M x) = nI x
theorem gl_cnt : ((List.range 6).all fun a => (List.range 10).all fun j => decide (cnt (fun x => decide (cp x = some a)) (gc a j) = j)) = true := by decide +kernel
theorem gl_10 : ((List.range 6).all fun a => decide (cnt (fun x => decide (cp x = some a)) 121 = 10)) = true := by decide +kernel
theorem ORD_goal {t : Nat} {v : Nat → Int32} (h : ORD (glB t) 121 v) {j : Nat} (hj : j < 10) : v j = nI (gc ((t + 3) % 6) j) := by
  have ha : (t + 3) % 6 < 6 := by omega
  have h1 := all_lt (all_lt gc_all ha) hj
  rw [Bool.and_eq_true] at h1
  have h2 : cnt (glB t) (gc ((t + 3) % 6) j) = j := of_decide_eq_true (all_lt (all_lt gl_cnt ha) hj)
  have h3 := h _ (of_decide_eq_true h1.1) h1.2
  rw [h2] at h3
  exact h3
theorem ORD_up {M : Nat → Bool} {n : Nat} {v : Nat → Int32} (h : ORD M n v) (hM : M n = true) : ORD M (n + 1) (upd v (cnt M n) (nI n)) := fun x hx hx2 => by
  show (if cnt M x = cnt M n then nI n else v (cnt M x)) = nI x
  by_cases e : x = n
  · subst e; rw [if_pos rfl]
  · have := cnt_lt (p := M) (show x < n by omega) hx2
    rw [if_neg (by omega)]
    exact h x (by omega) hx2
theorem ORD_no {M : Nat → Bool} {n : Nat} {v : Nat → Int32} (h : ORD M n v) (hM : M n = false) : ORD M (n + 1) v := fun x hx hx2 => by
  by_cases e : x = n
  · subst e; rw [hM] at hx2; cases hx2
  · exact h x (by omega) hx2
theorem cnt_full {M : Nat → Bool} {n N : Nat} (hn : n < 121) (hM : M n = true) (h : cnt M 121 = N) : cnt M n < N := by
  have := cnt_lt (p := M) hn hM
  omega
/-- the k-th marble's cell, as the array has it -/
def mcO (v : Nat → Int32) (k : Nat) : Nat := (v k).toNatClampNeg
theorem mcO_cnt {M : Nat → Bool} {v : Nat → Int32} (h : ORD M 121 v) {x : Nat} (hx : x < 121) (hM : M x = true) : mcO v (cnt M x) = x := by
  unfold mcO
  rw [h x hx hM, nI_clamp (by omega)]
theorem mcO_k {M : Nat → Bool} {v : Nat → Int32} (h : ORD M 121 v) (h10 : cnt M 121 = 10) {k : Nat} (hk : k < 10) : v k = nI (mcO v k) ∧ mcO v k < 121 ∧ M (mcO v k) = true ∧ cnt M (mcO v k) = k := by
  obtain ⟨x, h1, h2, h3⟩ := cnt_kth 121 k (by rw [h10]; exact hk)
  have e : mcO v k = x := by rw [← h3]; exact mcO_cnt h h1 h2
  rw [e]
  refine ⟨?_, h1, h2, h3⟩
  rw [← h3]
  exact h x h1 h2
section WAY
variable {vr vcl vc vo : Nat → Int32} {B : Nat → Option Nat} {t : Nat}
theorem t_collect (hcv : CPA vc) (hv : BD vo B) (hB : BK B) (ht : t < 6) (h10 : cnt (ownB B t) 121 = 10) {v1 v2 : Nat → Int32} {Q : (Nat → Int32) → (Nat → Int32) → Prop} (hQ : ∀ v1 v2, ORD (ownB B t) 121 v1 → ORD (glB t) 121 v2 → Q v1 v2) : wp_X2_collect vc vo v1 v2 (nI t) Q := by
  unfold wp_X2_collect
  refine t_goalOf ht ?_
  have g10 : cnt (glB t) 121 = 10 := of_decide_eq_true (all_lt gl_10 (show (t + 3) % 6 < 6 by omega))
  intro R hR
  refine upL (P := fun (z : (Nat → Int32) × (Nat → Int32) × Int32 × Int32) i => R z.1 z.2.1 z.2.2.1 z.2.2.2 i) (fun i z => ORD (ownB B t) i z.1 ∧ ORD (glB t) i z.2.1 ∧ z.2.2.1 = nI (cnt (ownB B t) i) ∧ z.2.2.2 = nI (cnt (glB t) i)) 121 (fun z hz => hR _ _ _ _ _ ?_) (fun i z hi hz ih => hR _ _ _ _ _ ?_) 0 (by omega) (v1, v2, 0, 0) ⟨fun x hx => absurd hx (Nat.not_lt_zero x), fun x hx => absurd hx (Nat.not_lt_zero x), rfl, rfl⟩
  · unfold wb_X2_collect_13
    exact pk_le 121 121 (fun _ => hQ _ _ hz.1 hz.2.1) (fun z => absurd z (by omega))
  · obtain ⟨w1, w2, a, b⟩ := z
    obtain ⟨k1, k2, k3, k4⟩ := hz
    dsimp only at k1 k2 k3 k4 ih ⊢
    subst k3 k4
    have j50 : ∀ (w : Nat → Int32), ORD (ownB B t) (i + 1) w → wJ_X2_collect_50 vc w w2 (nI ((t + 3) % 6)) (nI (cnt (ownB B t) (i + 1))) (nI (cnt (glB t) i)) (nI i) R := fun w hw => by
      unfold wJ_X2_collect_50
      refine t_camp hcv hi (bo_eq' (cp_ob hi) (ob_some (show (t + 3) % 6 < 6 by omega)) rfl rfl (fun e => ?_) (fun e => ?_))
      · have eg : glB t i = true := decide_eq_true e
        have lg := cnt_full hi eg g10
        refine pk_le 10 (cnt (glB t) i) (fun z => absurd z (by omega)) (fun _ => ⟨vp_in_nI lg (by omega), ?_⟩)
        rw [nI_clamp (n := cnt (glB t) i) (by omega)]
        exact ih (w, upd w2 (cnt (glB t) i) (nI i), _, _) ⟨hw, ORD_up k2 eg, rfl, by rw [cnt_t eg]; exact nI_1 _⟩
      · have eg : glB t i = false := decide_eq_false e
        exact ih (w, w2, _, _) ⟨hw, ORD_no k2 eg, rfl, congrArg nI (cnt_f eg).symm⟩
    unfold wb_X2_collect_13
    refine pk_le 121 i (fun z => absurd z (by omega)) (fun _ => t_owner hv hi (bo_eq' (hB i hi) (ob_some ht) rfl rfl (fun e => ?_) (fun e => ?_)))
    · have eo : ownB B t i = true := decide_eq_true e
      have lo := cnt_full hi eo h10
      refine pk_le 10 (cnt (ownB B t) i) (fun z => absurd z (by omega)) (fun _ => ⟨vp_in_nI lo (by omega), ?_⟩)
      rw [nI_clamp (n := cnt (ownB B t) i) (by omega), nI_1, ← cnt_t eo]
      exact j50 _ (ORD_up k1 eo)
    · have eo : ownB B t i = false := decide_eq_false e
      have := j50 w1 (ORD_no k1 eo)
      rw [cnt_f eo] at this
      exact this
/-- the marbles' distances from the goal's cells -/
def STA (m : Nat → Nat) (t : Nat) (v : Nat → Int32) : Prop := ∀ k g, k < 10 → g < 10 → v (10 * k + g) = nI (dst (m k) (gc ((t + 3) % 6) g))
theorem ix10 (a b : Nat) : nI a * (10 : Int32) + nI b = nI (10 * a + b) := by
  rw [show (10 : Int32) = nI 10 from rfl, pk_mul, nI_add, Nat.mul_comm]
theorem t_measure (hr : ROWA vr) (hcl : COLA vcl) (hcv : CPA vc) (hv : BD vo B) (hB : BK B) (ht : t < 6) (h10 : cnt (ownB B t) 121 = 10) {v1 v2 v3 : Nat → Int32} {Q : (Nat → Int32) → (Nat → Int32) → (Nat → Int32) → Prop} (hQ : ∀ v1 v2 v3, ORD (ownB B t) 121 v1 → ORD (glB t) 121 v2 → STA (mcO v1) t v3 → Q v1 v2 v3) : wp_X2_measure vr vcl vc vo v1 v2 v3 (nI t) Q := by
  unfold wp_X2_measure
  refine t_collect hcv hv hB ht h10 (fun w1 w2 h1 h2 => ?_)
  have hgl : ∀ g, g < 10 → gc ((t + 3) % 6) g < 121 := fun g hg => gc_lt (by omega) hg
  intro R hR
  refine upL (P := fun v i => R v i) (fun i v => ∀ k g, k < i → g < 10 → v (10 * k + g) = nI (dst (mcO w1 k) (gc ((t + 3) % 6) g))) 10 (fun v hv => hR _ _ ?_) (fun i v hi hv9 ih => hR _ _ ?_) 0 (by omega) v3 (fun k g hk => absurd hk (Nat.not_lt_zero k))
  · unfold wb_X2_measure_7
    exact pk_le 10 10 (fun _ => hQ _ _ _ h1 h2 hv) (fun z => absurd z (by omega))
  · unfold wb_X2_measure_7
    refine pk_le 10 i (fun z => absurd z (by omega)) (fun _ => ?_)
    obtain ⟨m1, m2, -, -⟩ := mcO_k h1 h10 hi
    intro R' hR'
    refine upL (P := fun v j => R' v j) (fun j v => (∀ k g, k < i → g < 10 → v (10 * k + g) = nI (dst (mcO w1 k) (gc ((t + 3) % 6) g))) ∧ ∀ g, g < j → v (10 * i + g) = nI (dst (mcO w1 i) (gc ((t + 3) % 6) g))) 10 (fun v hv => hR' _ _ ?_) (fun j v hj hv8 ih' => hR' _ _ ?_) 0 (by omega) v ⟨hv9, fun g hg => absurd hg (Nat.not_lt_zero g)⟩
    · unfold wb_X2_measure_15
      refine pk_le 10 10 (fun _ => ih v (fun k g hk hg => ?_)) (fun z => absurd z (by omega))
      by_cases e : k = i
      · subst e; exact hv.2 g hg
      · exact hv.1 k g (by omega) hg
    · unfold wb_X2_measure_15
      refine pk_le 10 j (fun z => absurd z (by omega)) (fun _ => ⟨vp_in_nI hi (by omega), vp_in_nI hj (by omega), ?_⟩)
      rw [nI_clamp (n := i) (by omega), nI_clamp (n := j) (by omega), m1, ORD_goal h2 hj]
      refine t_steps hr hcl m2 (hgl j hj) ?_
      rw [ix10]
      refine ⟨vp_in_nI (by omega) (by omega), ih' _ ⟨fun k g hk hg => ?_, fun g hg => ?_⟩⟩
      · rw [nI_clamp (by omega)]
        show (if 10 * k + g = 10 * i + j then _ else v (10 * k + g)) = _
        rw [if_neg (by omega)]
        exact hv8.1 k g hk hg
      · rw [nI_clamp (by omega)]
        show (if 10 * i + g = 10 * i + j then _ else v (10 * i + g)) = _
        by_cases e : g = j
        · subst e; rw [if_pos rfl]
        · rw [if_neg (by omega)]; exact hv8.2 g (by omega)
theorem t_bitCount {S : Nat} {Q : Int32 → Prop} (hS : S < 1024) (h : Q (nI (pop S))) : wp_J6_bitCount_0f7a4 (nI S) Q := by
  have e := eq_of_beq (all_lt bits_cnt hS)
  rw [← e] at h
  exact h
theorem bitI {S g : Nat} (hS : S < 1024) (hg : g < 10) : (nI S >>> (nI g &&& 31)) &&& 1 = bi (S.testBit g) := eq_of_beq (all_lt (all_lt bits_get hS) hg)
theorem shlI {g : Nat} (hg : g < 10) : (1 : Int32) <<< (nI g &&& 31) = nI (2 ^ g) := eq_of_beq (all_lt bits_shl hg)
theorem bi_1 {b : Bool} : bi b = 1 ↔ b = true := by cases b <;> decide
/-- a branch on a bit -/
theorem bbit {b : Bool} {A C : Prop} (f : b = true → A) (g : b = false → C) : (¬ bi b = 1 → C) ∧ (bi b = 1 → A) := by
  cases b with
  | true => exact ⟨fun z => absurd rfl z, fun _ => f rfl⟩
  | false => exact ⟨fun _ => g rfl, fun z => absurd z (by decide)⟩
def MX : Nat := 1000000
theorem t_leastWith {S row : Nat} {vs vA : Nat → Int32} {c : Nat → Nat} {F : Nat → Nat} (hS : S < 1024) (hrow : row < 10) (hs : ∀ g, g < 10 → vs (10 * row + g) = nI (c g)) (hc : ∀ g, c g < 512) (hA : ∀ U, U < S → vA U = nI (F U) ∧ F U ≤ 512 * pop U) {Q : Int32 → Prop} (h : ∀ u, minI S.testBit (fun g => F (S - 2 ^ g) + c g) MX 10 u → Q (nI u)) : wp_X2_leastWith vs vA (nI S) (nI row) Q := by
  unfold wp_X2_leastWith
  intro R hR
  refine upL (P := fun v i => R v i) (fun i v => ∃ u, v = nI u ∧ minI S.testBit (fun g => F (S - 2 ^ g) + c g) MX i u) 10 (fun v hv => hR _ _ ?_) (fun i v hi hv ih => hR _ _ ?_) 0 (by omega) 1000000 ⟨MX, rfl, minI_0⟩
  · unfold wb_X2_leastWith_7
    obtain ⟨u, e, hu⟩ := hv
    rw [e]
    exact pk_le 10 10 (fun _ => h u hu) (fun z => absurd z (by omega))
  · unfold wb_X2_leastWith_7
    obtain ⟨u, e, hu⟩ := hv
    subst e
    rw [bitI hS hi]
    refine pk_le 10 i (fun z => absurd z (by omega)) (fun _ => bbit (fun hb => ?_) (fun hb => ih _ ⟨u, rfl, minI_no hu hb⟩))
    have h1 := bt_le hS hi hb
    have h2 := bt_lt hS hi hb
    have h3 := hA _ h2
    have h4 := pop_10 (show S - 2 ^ i < 1024 by omega)
    have h5 := hc i
    have h6 : u ≤ MX := hu.1
    unfold MX at h6
    rw [shlI hi, pk_sub h1.1, ix10]
    refine ⟨vp_in_nI (by omega) (by omega), vp_in_nI (by omega) (by omega), ?_⟩
    rw [nI_clamp (n := S - 2 ^ i) (by omega), nI_clamp (n := 10 * row + i) (by omega), h3.1, hs i hi, nI_add, minIf (by omega) (by omega)]
    by_cases e : F (S - 2 ^ i) + c i < u
    · rw [if_pos e]; exact ih _ ⟨_, rfl, minI_lt hu hb e⟩
    · rw [if_neg e]; exact ih _ ⟨_, rfl, minI_ge hu hb (by show F (S - 2 ^ i) + c i < MX; unfold MX; omega) (by show u ≤ F (S - 2 ^ i) + c i; omega)⟩
/-- an array holds a table's first k sums -/
def TAB (rw : Nat → Nat) (c : Nat → Nat → Nat) (k : Nat) (v : Nat → Int32) : Prop := ∃ F, DPk rw c k F ∧ ∀ S, S < k → v S = nI (F S)
theorem TAB_1 {rw : Nat → Nat} {c : Nat → Nat → Nat} {v : Nat → Int32} (h : v 0 = 0) : TAB rw c 1 v := ⟨fun _ => 0, DPk_1, fun S hS => by rw [show S = 0 by omega]; exact h⟩
theorem TAB_add {rw : Nat → Nat} {c : Nat → Nat → Nat} {k u T : Nat} {F : Nat → Nat} {v : Nat → Int32} (hc : ∀ a g, c a g < 512) (h : DPk rw c k F) (hv : ∀ S, S < k → v S = nI (F S)) (h0 : 0 < k) (hk : k < 1024) (hu : minI (fun g => k.testBit g) (fun g => F (k - 2 ^ g) + c (rw (pop k)) g) T 10 u) : TAB rw c (k + 1) (upd v k (nI u)) := by
  refine ⟨fu F k u, DPk_add hc h h0 hk hu, fun S hS => ?_⟩
  show (if S = k then nI u else v S) = nI (fu F k u S)
  by_cases e : S = k
  · subst e; rw [if_pos rfl, fu_s]
  · rw [if_neg e, fu_n e]; exact hv S (by omega)
/-- what a pairing costs -/
def dG (t : Nat) (x g : Nat) : Nat := dst x (gc ((t + 3) % 6) g)
theorem dG_lt (x g : Nat) : dG t x g < 512 := dst_lt _ _
theorem t_sumFirst {m : Nat → Nat} {vs vF : Nat → Int32} (hs : STA m t vs) {Q : (Nat → Int32) → Prop} (h : ∀ v, TAB (fun k => k - 1) (fun k g => dG t (m k) g) 1024 v → Q v) : wp_X2_sumFirst vs vF Q := by
  unfold wp_X2_sumFirst
  refine ⟨vp_in_nI (n := 0) (by omega) (by omega), ?_⟩
  rw [show (0 : Int32).toNatClampNeg = 0 from by decide]
  intro R hR
  have key := upLo (P := fun v i => R v i) (fun i v => TAB (fun k => k - 1) (fun k g => dG t (m k) g) (1 + i) v) 1 1023 (fun v hv => hR _ _ ?_) (fun i v hi hv ih => hR _ _ ?_) (upd vF 0 0) (TAB_1 (by show (if 0 = 0 then (0 : Int32) else _) = 0; rw [if_pos rfl]))
  · exact key
  · unfold wb_X2_sumFirst_9
    exact pk_le 1024 1024 (fun _ => h v hv) (fun z => absurd z (by omega))
  · unfold wb_X2_sumFirst_9
    obtain ⟨F, h1, h2⟩ := hv
    have hS : 1 + i < 1024 := by omega
    obtain ⟨g0, hg0, hb0⟩ := bit_ex hS (by omega)
    have hp := pop_rm hS hg0 hb0
    have hp10 := pop_10 hS
    refine pk_le 1024 (1 + i) (fun z => absurd z (by omega)) (fun _ => t_bitCount hS ?_)
    rw [show (1 : Int32) = nI 1 from rfl, pk_sub (by omega)]
    refine t_leastWith (c := fun g => dG t (m (pop (1 + i) - 1)) g) (F := F) hS (by omega) (fun g hg => hs _ g (by omega) hg) (fun g => dG_lt _ g) (fun U hU => ⟨h2 U hU, h1.2.1 U hU⟩) (fun u hu => ⟨vp_in_nI (by omega) (by omega), ?_⟩)
    rw [nI_clamp (n := 1 + i) (by omega)]
    exact ih _ (TAB_add (k := 1 + i) (fun a g => dG_lt _ g) h1 h2 (by omega) hS hu)
theorem t_sumLast {m : Nat → Nat} {vs vF : Nat → Int32} (hs : STA m t vs) {Q : (Nat → Int32) → Prop} (h : ∀ v, TAB (fun k => 10 - k) (fun k g => dG t (m k) g) 1024 v → Q v) : wp_X2_sumLast vs vF Q := by
  unfold wp_X2_sumLast
  refine ⟨vp_in_nI (n := 0) (by omega) (by omega), ?_⟩
  rw [show (0 : Int32).toNatClampNeg = 0 from by decide]
  intro R hR
  have key := upLo (P := fun v i => R v i) (fun i v => TAB (fun k => 10 - k) (fun k g => dG t (m k) g) (1 + i) v) 1 1023 (fun v hv => hR _ _ ?_) (fun i v hi hv ih => hR _ _ ?_) (upd vF 0 0) (TAB_1 (by show (if 0 = 0 then (0 : Int32) else _) = 0; rw [if_pos rfl]))
  · exact key
  · unfold wb_X2_sumLast_9
    exact pk_le 1024 1024 (fun _ => h v hv) (fun z => absurd z (by omega))
  · unfold wb_X2_sumLast_9
    obtain ⟨F, h1, h2⟩ := hv
    have hS : 1 + i < 1024 := by omega
    obtain ⟨g0, hg0, hb0⟩ := bit_ex hS (by omega)
    have hp := pop_rm hS hg0 hb0
    have hp10 := pop_10 hS
    refine pk_le 1024 (1 + i) (fun z => absurd z (by omega)) (fun _ => t_bitCount hS ?_)
    rw [show (10 : Int32) = nI 10 from rfl, pk_sub hp10]
    refine t_leastWith (c := fun g => dG t (m (10 - pop (1 + i))) g) (F := F) hS (by omega) (fun g hg => hs _ g (by omega) hg) (fun g => dG_lt _ g) (fun U hU => ⟨h2 U hU, h1.2.1 U hU⟩) (fun u hu => ⟨vp_in_nI (by omega) (by omega), ?_⟩)
    rw [nI_clamp (n := 1 + i) (by omega)]
    exact ih _ (TAB_add (k := 1 + i) (fun a g => dG_lt _ g) h1 h2 (by omega) hS hu)
/-- the way of a player's marbles M -/
def WAYO (t : Nat) (M : Nat → Bool) (u : Nat) : Prop := leastP (dG t) M 121 fullP u
theorem WAY_tab {M : Nat → Bool} {v vF : Nat → Int32} (hv : ORD M 121 v) (h10 : cnt M 121 = 10) (hF : TAB (fun k => k - 1) (fun k g => dG t (mcO v k) g) 1024 vF) : ∃ u, vF 1023 = nI u ∧ WAYO t M u := by
  obtain ⟨F, h1, h2⟩ := hF
  exact ⟨F 1023, h2 1023 (by omega), leastP_full (DP_F h1 (fun x hx hM => mcO_cnt hv hx hM) 121 (Nat.le_refl _) 1023 (by omega) (by rw [pop_full, h10]))⟩
theorem WAY_le {M : Nat → Bool} {u : Nat} (h10 : cnt M 121 = 10) (h : WAYO t M u) : u ≤ 5120 := by
  have := achR_le (fun x g => dG_lt x g) 121 h.2
  omega
theorem t_leastSum (hr : ROWA vr) (hcl : COLA vcl) (hcv : CPA vc) (hv : BD vo B) (hB : BK B) (ht : t < 6) (h10 : cnt (ownB B t) 121 = 10) {v1 v2 v3 v4 : Nat → Int32} {Q : Int32 → (Nat → Int32) → (Nat → Int32) → (Nat → Int32) → (Nat → Int32) → Prop} (hQ : ∀ u v1 v2 v3 v4, WAYO t (ownB B t) u → Q (nI u) v1 v2 v3 v4) : wp_X2_leastSum vr vcl vc vo v1 v2 v3 v4 (nI t) Q := by
  unfold wp_X2_leastSum
  refine t_measure hr hcl hcv hv hB ht h10 (fun w1 w2 w3 h1 h2 h3 => t_sumFirst h3 (fun w4 h4 => ⟨vp_in_nI (n := 1023) (by omega) (by omega), ?_⟩))
  obtain ⟨u, e, hu⟩ := WAY_tab h1 h10 h4
  rw [show (1023 : Int32).toNatClampNeg = 1023 from by decide, e]
  exact hQ u _ _ _ _ hu
end WAY
