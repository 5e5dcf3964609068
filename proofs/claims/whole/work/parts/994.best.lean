/-! THE BEST MOVE: sums with one marble moved -/
theorem cnt_miss {p : Nat → Bool} {g : Nat} (h : p g = false) : ∀ n, g < n → cnt p n < n
  | 0, hg => absurd hg (Nat.not_lt_zero g)
  | n + 1, hg => by
    by_cases e : g = n
    · subst e; rw [cnt_f h]; have := cnt_le p g; omega
    · have ih := cnt_miss h n (by omega)
      show cnt p n + (if p n then 1 else 0) < n + 1
      split <;> omega
theorem bbit0 {b : Bool} {A C : Prop} (f : b = true → A) (g : b = false → C) : (¬ bi b = 0 → A) ∧ (bi b = 0 → C) := bb f g
/-- the k-th sums of others: what the sets below n have given -/
def OTH (F L : Nat → Nat) (v : Nat → Int32) (m g n : Nat) : Prop := ∃ u, v (10 * m + g) = nI u ∧ minI (fun S => decide (pop S = m) && !S.testBit g) (fun S => F S + L (1023 - S - 2 ^ g)) MX n u
theorem OTH_no {F L : Nat → Nat} {v : Nat → Int32} {m g n : Nat} (h : OTH F L v m g n) (hb : ¬ (pop n = m ∧ n.testBit g = false)) : OTH F L v m g (n + 1) := by
  obtain ⟨u, h1, h2⟩ := h
  refine ⟨u, h1, minI_no h2 ?_⟩
  cases e : (decide (pop n = m) && !n.testBit g) with
  | false => rfl
  | true =>
    rw [Bool.and_eq_true, Bool.not_eq_true'] at e
    exact absurd ⟨of_decide_eq_true e.1, e.2⟩ hb
section BEST
variable {vr vcl vc vn vo : Nat → Int32} {B : Nat → Option Nat} {t : Nat} {F L : Nat → Nat} {vF vL : Nat → Int32}
theorem t_weigh_in {n : Nat} (hn : n < 1023) (hF : ∀ S, S < 1024 → vF S = nI (F S) ∧ F S ≤ 5120) (hL : ∀ S, S < 1024 → vL S = nI (L S) ∧ L S ≤ 5120) {v : Nat → Int32} (hv : ∀ m g, m < 10 → g < 10 → OTH F L v m g n) {K : (Nat → Int32) → Prop} (hK : ∀ v, (∀ m g, m < 10 → g < 10 → OTH F L v m g (n + 1)) → K v) : wl_X2_weighAllButOne_55 vF vL (nI n) (nI (pop n)) K v 0 := by
  have hS : n < 1024 := by omega
  intro R hR
  refine upL (P := fun v i => R v i) (fun i v => ∀ m g, m < 10 → g < 10 → OTH F L v m g (if g < i then n + 1 else n)) 10 (fun v hv => hR _ _ ?_) (fun i v hi hv ih => hR _ _ ?_) 0 (by omega) v (fun m g hm hg => by rw [if_neg (Nat.not_lt_zero g)]; exact hv m g hm hg)
  · unfold wb_X2_weighAllButOne_55
    exact pk_le 10 10 (fun _ => hK v (fun m g hm hg => by have := hv m g hm hg; rw [if_pos hg] at this; exact this)) (fun z => absurd z (by omega))
  · unfold wb_X2_weighAllButOne_55
    rw [bitI hS hi]
    have oth : ∀ m g, m < 10 → g < 10 → g ≠ i → OTH F L v m g (if g < i + 1 then n + 1 else n) := fun m g hm hg hne => by
      have := hv m g hm hg
      by_cases e : g < i
      · rw [if_pos e] at this; rw [if_pos (by omega)]; exact this
      · rw [if_neg e] at this; rw [if_neg (by omega)]; exact this
    have cur : ∀ m, m < 10 → OTH F L v m i n := fun m hm => by
      have := hv m i hm hi
      rw [if_neg (Nat.lt_irrefl i)] at this; exact this
    refine pk_le 10 i (fun z => absurd z (by omega)) (fun _ => bb (fun hb => ih _ (fun m g hm hg => ?_)) (fun hb => ?_))
    · by_cases e : g = i
      · subst e
        rw [if_pos (Nat.lt_succ_self g)]
        exact OTH_no (cur m hm) (fun z => by rw [hb] at z; cases z.2)
      · exact oth m g hm hg e
    · have hp : pop n < 10 := cnt_miss (p := fun g => n.testBit g) hb 10 hi
      have hroom := bt_room hS hi hb
      have hU : 1023 - n - 2 ^ i < 1024 := co_lt n i
      have e1 : (1023 : Int32) - nI n - (1 : Int32) <<< (nI i &&& 31) = nI (1023 - n - 2 ^ i) := by
        rw [shlI hi, show (1023 : Int32) = nI 1023 from rfl, pk_sub (by omega), pk_sub (by omega)]
      obtain ⟨u, k1, k2⟩ := cur (pop n) hp
      have k3 : u ≤ MX := k2.1
      unfold MX at k3
      have f1 := hF n hS
      have f2 := hL _ hU
      have b9 : (decide (pop n = pop n) && !n.testBit i) = true := by rw [hb, decide_eq_true rfl]; rfl
      rw [e1, ix10]
      refine ⟨vp_in_nI (by omega) (by omega), vp_in_nI hS (by omega), vp_in_nI hU (by omega), vp_in_nI (by omega) (by omega), ?_⟩
      rw [nI_clamp (n := n) (by omega), nI_clamp (n := 1023 - n - 2 ^ i) (by omega), nI_clamp (n := 10 * pop n + i) (by omega), f1.1, f2.1, nI_add, k1, minIf (by omega) (by omega)]
      have fin : ∀ w, minI (fun S => decide (pop S = pop n) && !S.testBit i) (fun S => F S + L (1023 - S - 2 ^ i)) MX (n + 1) w → R (upd v (10 * pop n + i) (nI w)) (nI i + 1) := fun w hw => ih _ (fun m g hm hg => by
        by_cases e : g = i
        · subst e
          rw [if_pos (Nat.lt_succ_self g)]
          by_cases e2 : m = pop n
          · subst e2
            refine ⟨w, ?_, hw⟩
            show (if _ = _ then _ else _) = _
            rw [if_pos rfl]
          · obtain ⟨u', a1, a2⟩ := OTH_no (cur m hm) (fun z => e2 z.1.symm)
            refine ⟨u', ?_, a2⟩
            show (if _ = _ then _ else _) = _
            rw [if_neg (by omega)]
            exact a1
        · obtain ⟨u', a1, a2⟩ := oth m g hm hg e
          refine ⟨u', ?_, a2⟩
          show (if _ = _ then _ else _) = _
          rw [if_neg (by omega)]
          exact a1)
      by_cases e : F n + L (1023 - n - 2 ^ i) < u
      · rw [if_pos e]; exact fin _ (minI_lt k2 b9 e)
      · rw [if_neg e]; exact fin _ (minI_ge k2 b9 (by show F n + L (1023 - n - 2 ^ i) < MX; unfold MX; omega) (by show u ≤ F n + L (1023 - n - 2 ^ i); omega))
/-- the sums of all but one marble -/
def OTA (t : Nat) (M : Nat → Bool) (v : Nat → Int32) : Prop := ∀ a g, a < 121 → M a = true → g < 10 → ∃ O, v (10 * cnt M a + g) = nI O ∧ O ≤ 5120 ∧ leastP (dG t) (rmP M a) 121 (rmP fullP g) O
theorem cnt_rmM {M : Nat → Bool} {a : Nat} (ha : a < 121) (hM : M a = true) (h10 : cnt M 121 = 10) : cnt (rmP M a) 121 = 9 := by
  have := cnt_rm hM 121 ha
  omega
theorem t_weigh (hr : ROWA vr) (hcl : COLA vcl) (hcv : CPA vc) (hv : BD vo B) (hB : BK B) (ht : t < 6) (h10 : cnt (ownB B t) 121 = 10) {v1 v2 v3 v4 v5 v6 : Nat → Int32} {Q : (Nat → Int32) → (Nat → Int32) → (Nat → Int32) → (Nat → Int32) → (Nat → Int32) → (Nat → Int32) → Prop} (hQ : ∀ v1 v2 v3 v4 v5 v6, ORD (ownB B t) 121 v1 → ORD (glB t) 121 v2 → OTA t (ownB B t) v6 → Q v1 v2 v3 v4 v5 v6) : wp_X2_weighAllButOne vr vcl vc vo v1 v2 v3 v4 v5 v6 (nI t) Q := by
  unfold wp_X2_weighAllButOne
  refine t_measure hr hcl hcv hv hB ht h10 (fun w1 w2 w3 h1 h2 h3 => t_sumFirst h3 (fun w4 h4 => t_sumLast h3 (fun w5 h5 => ?_)))
  obtain ⟨F, f1, f2⟩ := h4
  obtain ⟨L, l1, l2⟩ := h5
  have hF : ∀ S, S < 1024 → w4 S = nI (F S) ∧ F S ≤ 5120 := fun S hS => ⟨f2 S hS, by have := f1.2.1 S hS; have := pop_10 hS; omega⟩
  have hL : ∀ S, S < 1024 → w5 S = nI (L S) ∧ L S ≤ 5120 := fun S hS => ⟨l2 S hS, by have := l1.2.1 S hS; have := pop_10 hS; omega⟩
  have outer : ∀ v, (∀ k, k < 100 → v k = nI MX) → wl_X2_weighAllButOne_40 w4 w5 (fun v6 => Q w1 w2 w3 w4 w5 v6) v 0 := fun v hv0 => by
    intro R hR
    refine upL (P := fun v i => R v i) (fun i v => ∀ m g, m < 10 → g < 10 → OTH F L v m g i) 1023 (fun v hv => hR _ _ ?_) (fun i v hi hv ih => hR _ _ ?_) 0 (by omega) v (fun m g hm hg => ⟨MX, hv0 _ (by omega), minI_0⟩)
    · unfold wb_X2_weighAllButOne_40
      refine pk_le 1023 1023 (fun _ => hQ _ _ _ _ _ _ h1 h2 (fun a g ha hM hg => ?_)) (fun z => absurd z (by omega))
      have hlt := cnt_full ha hM h10
      obtain ⟨u, k1, k2⟩ := hv (cnt (ownB B t) a) g hlt hg
      have hex := all_lt (all_lt bits_ex hlt) hg
      rw [List.any_eq_true] at hex
      obtain ⟨S0, s1, s2⟩ := hex
      have s3 := List.mem_range.mp s1
      have hat : ∃ S, S < 1023 ∧ pop S = cnt (ownB B t) a ∧ S.testBit g = false ∧ u = F S + L (1023 - S - 2 ^ g) := by
        rcases k2.2.2 with ⟨_, k3⟩ | ⟨S, k3, k4, k5⟩
        · cases (s2.symm.trans (k3 S0 s3))
        · rw [Bool.and_eq_true, Bool.not_eq_true'] at k4
          exact ⟨S, k3, of_decide_eq_true k4.1, k4.2, k5⟩
      have hO := DP_O f1 l1 (fun x hx hM => mcO_cnt h1 hx hM) h10 ha hM hg (fun S a1 a2 a3 => k2.2.1 S a1 (by rw [Bool.and_eq_true, Bool.not_eq_true']; exact ⟨decide_eq_true a2, a3⟩)) hat
      refine ⟨u, k1, ?_, hO⟩
      have := achR_le (fun x g => dG_lt x g) 121 hO.2
      rw [cnt_rmM ha hM h10] at this
      omega
    · unfold wb_X2_weighAllButOne_40
      refine pk_le 1023 i (fun z => absurd z (by omega)) (fun _ => t_bitCount (by omega) (t_weigh_in hi hF hL hv (fun v' hv' => ih _ hv')))
  intro R hR
  refine upL (P := fun v i => R v i) (fun i v => ∀ k, k < i → v k = nI MX) 100 (fun v hv => hR _ _ ?_) (fun i v hi hv ih => hR _ _ ?_) 0 (by omega) v6 (fun k hk => absurd hk (Nat.not_lt_zero k))
  · unfold wb_X2_weighAllButOne_15
    exact pk_le 100 100 (fun _ => outer v hv) (fun z => absurd z (by omega))
  · unfold wb_X2_weighAllButOne_15
    refine pk_le 100 i (fun z => absurd z (by omega)) (fun _ => ⟨vp_in_nI (by omega) (by omega), ih _ ?_⟩)
    rw [nI_clamp (by omega)]
    intro k hk
    show (if k = i then _ else v k) = _
    by_cases e : k = i
    · rw [if_pos e]; rfl
    · rw [if_neg e]; exact hv k (by omega)
/-- the marbles, one of them moved -/
def movB (M : Nat → Bool) (a x : Nat) : Nat → Bool := fun y => decide (y = x) || rmP M a y
theorem mov_rm {M : Nat → Bool} {a x : Nat} (h : M x = false) : rmP (movB M a x) x = rmP M a := by
  funext y
  unfold movB
  by_cases e : y = x
  · subst e
    rw [rmP_s]
    by_cases e2 : y = a
    · subst e2; rw [rmP_s]
    · rw [rmP_f e2, h]
  · rw [rmP_f e]
    show (decide (y = x) || rmP M a y) = _
    rw [decide_eq_false e, Bool.false_or]
theorem mov_10 {M : Nat → Bool} {a x : Nat} (hx : x < 121) (ha : a < 121) (hM : M a = true) (h10 : cnt M 121 = 10) (h : M x = false) : cnt (movB M a x) 121 = 10 := by
  have h1 : movB M a x x = true := by unfold movB; rw [decide_eq_true rfl, Bool.true_or]
  have h2 := cnt_rm h1 121 hx
  rw [mov_rm h, cnt_rmM ha hM h10] at h2
  exact h2
theorem t_sumWith {M : Nat → Bool} {v2 v6 : Nat → Int32} {a x : Nat} (hr : ROWA vr) (hcl : COLA vcl) (h2 : ORD (glB t) 121 v2) (h6 : OTA t M v6) (h10 : cnt M 121 = 10) (ha : a < 121) (hM : M a = true) (hx : x < 121) (hMx : M x = false) {Q : Int32 → Prop} (hQ : ∀ u, WAYO t (movB M a x) u → Q (nI u)) : wp_X2_sumWith vr vcl v2 v6 (nI (cnt M a)) (nI x) Q := by
  have hk := cnt_full ha hM h10
  have hex : ∀ g, ∃ O, g < 10 → v6 (10 * cnt M a + g) = nI O ∧ O ≤ 5120 ∧ leastP (dG t) (rmP M a) 121 (rmP fullP g) O := fun g => by
    by_cases hg : g < 10
    · obtain ⟨O, h⟩ := h6 a g ha hM hg
      exact ⟨O, fun _ => h⟩
    · exact ⟨0, fun z => absurd z hg⟩
  have hex2 : ∃ O : Nat → Nat, ∀ g, g < 10 → v6 (10 * cnt M a + g) = nI (O g) ∧ O g ≤ 5120 ∧ leastP (dG t) (rmP M a) 121 (rmP fullP g) (O g) := ⟨fun g => Classical.choose (hex g), fun g hg => Classical.choose_spec (hex g) hg⟩
  obtain ⟨O, hO⟩ := hex2
  unfold wp_X2_sumWith
  refine br_f (nI_pos (by omega)) (br_t (nI_lt (b := 10) hk (by decide)) ?_)
  intro R hR
  refine upL (P := fun v i => R v i) (fun i v => ∃ u, v = nI u ∧ minI (fun _ => true) (fun g => O g + dG t x g) MX i u) 10 (fun v hv => hR _ _ ?_) (fun i v hi hv ih => hR _ _ ?_) 0 (by omega) 1000000 ⟨MX, rfl, minI_0⟩
  · unfold wb_X2_sumWith_18
    obtain ⟨u, e, hu⟩ := hv
    rw [e]
    refine pk_le 10 10 (fun _ => hQ u ?_) (fun z => absurd z (by omega))
    refine DP_W (a := a) hx (fun g hg => (hO g hg).2.2) (by unfold movB; rw [decide_eq_true rfl, Bool.true_or]) (mov_rm hMx) (fun g hg => hu.2.1 g hg rfl) ?_
    rcases hu.2.2 with ⟨_, k2⟩ | ⟨g, k2, k3, k4⟩
    · have := k2 0 (by omega)
      cases this
    · exact ⟨g, k2, k4⟩
  · unfold wb_X2_sumWith_18
    obtain ⟨u, e, hu⟩ := hv
    subst e
    have k3 : u ≤ MX := hu.1
    unfold MX at k3
    have hgl : gc ((t + 3) % 6) i < 121 := gc_lt (by omega) hi
    obtain ⟨o1, o2, -⟩ := hO i hi
    have o3 : dG t x i < 512 := dG_lt x i
    refine pk_le 10 i (fun z => absurd z (by omega)) (fun _ => ?_)
    rw [ix10]
    refine ⟨vp_in_nI (by omega) (by omega), vp_in_nI hi (by omega), ?_⟩
    rw [nI_clamp (n := i) (by omega), ORD_goal h2 hi]
    refine t_steps hr hcl hx hgl ?_
    rw [nI_clamp (n := 10 * cnt M a + i) (by omega), o1]
    show R (if nI (O i) + nI (dG t x i) < nI u then nI (O i) + nI (dG t x i) else nI u) (nI i + 1)
    rw [nI_add, minIf (by omega) (by omega)]
    by_cases e : O i + dG t x i < u
    · rw [if_pos e]; exact ih _ ⟨_, rfl, minI_lt hu rfl e⟩
    · rw [if_neg e]; exact ih _ ⟨_, rfl, minI_ge hu rfl (by show O i + dG t x i < MX; unfold MX; omega) (by show u ≤ O i + dG t x i; omega)⟩
end BEST
theorem bits_xor : ((List.range 1024).all fun S => (List.range 10).all fun g => !(S.testBit g) || (nI S ^^^ nI (2 ^ g) == nI (S - 2 ^ g))) = true := by decide +kernel
theorem xorI {S g : Nat} (hS : S < 1024) (hg : g < 10) (h : S.testBit g = true) : nI S ^^^ (1 : Int32) <<< (nI g &&& 31) = nI (S - 2 ^ g) := by
  rw [shlI hg]
  have h1 := all_lt (all_lt bits_xor hS) hg
  rw [h, Bool.not_true, Bool.false_or] at h1
  exact eq_of_beq h1
section WAY7
variable {z1 z2 z3 z4 z5 z6 z7 z8 : Int32} {vf vg vb : Nat → Int32} {B : Nat → Option Nat} {t : Nat}
theorem t7_pop {S : Nat} (hS : S < 1024) (h0 : 0 < S) {K : Int32 → Prop} (h : K (nI (pop S - 1))) : wl_X7_wayOf_70 (nI S) K (-1) 0 := by
  obtain ⟨g0, hg0, hb0⟩ := bit_ex hS h0
  have hp := pop_rm hS hg0 hb0
  intro R hR
  refine upL (P := fun v i => R v i) (fun i v => v = nI (cnt (fun g => S.testBit g) i) + (-1)) 10 (fun v hv => hR _ _ ?_) (fun i v hi hv ih => hR _ _ ?_) 0 (by omega) (-1) (show (-1 : Int32) = nI 0 + (-1) by decide)
  · unfold wb_X7_wayOf_70
    rw [hv]
    refine pk_le 10 10 (fun _ => ?_) (fun z => absurd z (by omega))
    have e : nI (cnt (fun g => S.testBit g) 10) + (-1) = nI (pop S - 1) := by
      show nI (pop S) + (-1) = _
      rw [show nI (pop S) = nI (pop S - 1) + 1 by rw [nI_1]; congr 1; omega, Int32.add_assoc, show (1 : Int32) + (-1) = 0 by decide, Int32.add_zero]
    rw [e]
    exact h
  · unfold wb_X7_wayOf_70
    rw [bitI hS hi, hv]
    refine pk_le 10 i (fun z => absurd z (by omega)) (fun _ => ih _ ?_)
    rw [Int32.add_assoc, Int32.add_comm (-1), ← Int32.add_assoc]
    cases e : S.testBit i with
    | true => rw [cnt_t (p := fun g => S.testBit g) e, ← nI_1]; rfl
    | false => rw [cnt_f (p := fun g => S.testBit g) e, show nI (cnt (fun g => S.testBit g) i) + bi false = nI (cnt (fun g => S.testBit g) i) from nI_add _ 0]
def FR2 : Nat := 1000000
theorem t7_least {S : Nat} {vm : Nat → Int32} {F : Nat → Nat} (hf : FARA vf) (hg : GCA vg) (hS : S < 1024) (h0 : 0 < S) {M : Nat → Bool} (hm : ORD M 121 vm) (h10 : cnt M 121 = 10) {k : Nat} (hk : k < 10) (hA : ∀ U, U < S → F U ≤ 512 * pop U) {v : Nat → Int32} (hv : ∀ U, U < S → v U = nI (F U)) (hvS : v S = nI FR2) {K : (Nat → Int32) → Prop} (hK : ∀ v u, minI S.testBit (fun g => F (S - 2 ^ g) + dG t (mcO vm k) g) FR2 10 u → (∀ U, U < S → v U = nI (F U)) → v S = nI u → K v) : wl_X7_wayOf_107 vf vg vm (nI (10 * ((t + 3) % 6))) (nI S) (nI k) K v 0 := by
  intro R hR
  refine upL (P := fun v i => R v i) (fun i v => (∀ U, U < S → v U = nI (F U)) ∧ ∃ u, v S = nI u ∧ minI S.testBit (fun g => F (S - 2 ^ g) + dG t (mcO vm k) g) FR2 i u) 10 (fun v hv => hR _ _ ?_) (fun i v hi hv ih => hR _ _ ?_) 0 (by omega) v ⟨hv, FR2, hvS, minI_0⟩
  · unfold wb_X7_wayOf_107
    obtain ⟨h1, u, h2, h3⟩ := hv
    exact pk_le 10 10 (fun _ => hK v u h3 h1 h2) (fun z => absurd z (by omega))
  · unfold wb_X7_wayOf_107
    obtain ⟨h1, u, h2, h3⟩ := hv
    have k3 : u ≤ FR2 := h3.1
    unfold FR2 at k3
    obtain ⟨m1, m2, -, -⟩ := mcO_k hm h10 hk
    have hgl : gc ((t + 3) % 6) i < 121 := gc_lt (by omega) hi
    have vS : vp_in (nI S) 1024 := vp_in_nI hS (by omega)
    have fin : ∀ w, minI S.testBit (fun g => F (S - 2 ^ g) + dG t (mcO vm k) g) FR2 (i + 1) w → R (upd v S (nI w)) (nI i + 1) := fun w hw => ih _ ⟨fun U hU => by
      show (if U = S then _ else v U) = _
      rw [if_neg (by omega)]
      exact h1 U hU, w, by show (if S = S then _ else _) = _; rw [if_pos rfl], hw⟩
    have j168 : ∀ x, x < 2 ^ 31 → (x < u → minI S.testBit (fun g => F (S - 2 ^ g) + dG t (mcO vm k) g) FR2 (i + 1) x) → (u ≤ x → minI S.testBit (fun g => F (S - 2 ^ g) + dG t (mcO vm k) g) FR2 (i + 1) u) → wJ_X7_wayOf_168 v (nI S) (nI i) (nI x) R := fun x hx q1 q2 => by
      unfold wJ_X7_wayOf_168 wJ_X7_wayOf_200
      rw [nI_clamp (n := S) (by omega), h2]
      exact ⟨vS, pk_le u x (fun z => ⟨vS, vS, fin u (q2 z)⟩) (fun z => ⟨vS, fin x (q1 z)⟩)⟩
    rw [bitI hS hi]
    refine pk_le 10 i (fun z => absurd z (by omega)) (fun _ => bbit (fun hb => ?_) (fun hb => j168 FR2 (by decide) (fun z => absurd z (by unfold FR2; omega)) (fun _ => minI_no h3 hb)))
    have b1 := bt_le hS hi hb
    have b2 := bt_lt hS hi hb
    have b3 := hA _ b2
    have b4 := pop_10 (show S - 2 ^ i < 1024 by omega)
    have b5 : dG t (mcO vm k) i < 512 := dG_lt _ i
    have e1 := xorI hS hi hb
    have e2 : nI (10 * ((t + 3) % 6)) + nI i = nI (10 * ((t + 3) % 6) + i) := nI_add _ _
    rw [e1, e2]
    have vg9 := hg ((t + 3) % 6) i (by omega) hi
    refine ⟨vp_in_nI (by omega) (by omega), vp_in_nI hk (by omega), vp_in_nI (by omega) (by omega), ?_⟩
    rw [nI_clamp (n := S - 2 ^ i) (by omega), nI_clamp (n := k) (by omega), nI_clamp (n := 10 * ((t + 3) % 6) + i) (by omega), vg9, m1, ix121, nI_clamp (n := 121 * mcO vm k + gc ((t + 3) % 6) i) (by omega), hf _ _ m2 hgl, h1 _ b2, nI_add]
    refine ⟨vp_in_nI (by omega) (by omega), j168 _ ?_ (fun z => minI_lt (X := fun g => F (S - 2 ^ g) + dG t (mcO vm k) g) h3 hb z) (fun z => minI_ge (X := fun g => F (S - 2 ^ g) + dG t (mcO vm k) g) h3 hb ?_ z)⟩
    · show F (S - 2 ^ i) + dG t (mcO vm k) i < 2 ^ 31
      omega
    · show F (S - 2 ^ i) + dG t (mcO vm k) i < FR2
      unfold FR2
      omega
theorem t7_wayOf (hf : FARA vf) (hg : GCA vg) (hv : BD vb B) (hB : BK B) (ht : t < 6) (h10 : cnt (ownB B t) 121 = 10) {v1 v2 : Nat → Int32} {Q : Int32 → (Nat → Int32) → (Nat → Int32) → Prop} (hQ : ∀ u v1 v2, WAYO t (ownB B t) u → Q (nI u) v1 v2) : wp_X7_wayOf z1 z2 z3 z4 z5 z6 z7 z8 vf vg vb v1 v2 (nI t) Q := by
  unfold wp_X7_wayOf
  rw [goal_eq ht]
  have e10 : (10 : Int32) * nI ((t + 3) % 6) = nI (10 * ((t + 3) % 6)) := by rw [show (10 : Int32) = nI 10 from rfl, pk_mul]
  rw [e10]
  have outer : ∀ vm, ORD (ownB B t) 121 vm → (vp_in (0 : Int32) 1024 ∧ wl_X7_wayOf_56 vf vg vm (nI (10 * ((t + 3) % 6))) (fun vZ_cheapest_22 => (vp_in (1023 : Int32) 1024 ∧ Q (vZ_cheapest_22 (1023 : Int32).toNatClampNeg) vZ_cheapest_22 vm)) (upd v1 (0 : Int32).toNatClampNeg (0 : Int32)) (1 : Int32)) := fun vm hm => by
    refine ⟨vp_in_nI (n := 0) (by omega) (by omega), ?_⟩
    rw [show (0 : Int32).toNatClampNeg = 0 from by decide, show (1023 : Int32).toNatClampNeg = 1023 from by decide]
    intro R hR
    have key := upLo (P := fun v i => R v i) (fun i v => TAB (fun k => k - 1) (fun k g => dG t (mcO vm k) g) (1 + i) v) 1 1023 (fun v hv => hR _ _ ?_) (fun i v hi hv ih => hR _ _ ?_) (upd v1 0 0) (TAB_1 (by show (if 0 = 0 then (0 : Int32) else _) = 0; rw [if_pos rfl]))
    · exact key
    · unfold wb_X7_wayOf_56
      obtain ⟨u, e, hu⟩ := WAY_tab hm h10 hv
      refine pk_le 1024 1024 (fun _ => ⟨vp_in_nI (n := 1023) (by omega) (by omega), ?_⟩) (fun z => absurd z (by omega))
      show Q (v 1023) v vm
      rw [e]
      exact hQ u _ _ hu
    · unfold wb_X7_wayOf_56
      obtain ⟨F, h1, h2⟩ := hv
      have hS : 1 + i < 1024 := by omega
      obtain ⟨g0, hg0, hb0⟩ := bit_ex hS (by omega)
      have hp := pop_rm hS hg0 hb0
      have hp10 := pop_10 hS
      refine pk_le 1024 (1 + i) (fun z => absurd z (by omega)) (fun _ => t7_pop hS (by omega) ⟨vp_in_nI hS (by omega), ?_⟩)
      rw [nI_clamp (n := 1 + i) (by omega)]
      refine t7_least (F := F) hf hg hS (by omega) hm h10 (by omega) h1.2.1 (fun U hU => ?_) ?_ (fun w u hu hw hwS => ih _ ?_)
      · show (if U = 1 + i then _ else v U) = _
        rw [if_neg (by omega)]
        exact h2 U hU
      · show (if 1 + i = 1 + i then _ else _) = _
        rw [if_pos rfl]; rfl
      · obtain ⟨F', k1, k2⟩ := TAB_add (k := 1 + i) (v := w) (fun a g => dG_lt _ g) h1 hw (by omega) hS hu
        refine ⟨F', k1, fun U hU => ?_⟩
        rw [← k2 U hU]
        show _ = (if U = 1 + i then nI u else w U)
        by_cases e : U = 1 + i
        · rw [if_pos e, e]; exact hwS
        · rw [if_neg e]
  intro R hR
  refine upL (P := fun (z : (Nat → Int32) × Int32) i => R z.1 z.2 i) (fun i z => ORD (ownB B t) i z.1 ∧ z.2 = nI (cnt (ownB B t) i)) 121 (fun z hz => hR _ _ _ ?_) (fun i z hi hz ih => hR _ _ _ ?_) 0 (by omega) (v2, 0) ⟨fun x hx => absurd hx (Nat.not_lt_zero x), rfl⟩
  · unfold wb_X7_wayOf_4
    exact pk_le 121 121 (fun _ => outer _ hz.1) (fun z => absurd z (by omega))
  · obtain ⟨w, a⟩ := z
    obtain ⟨k1, k3⟩ := hz
    dsimp only at k1 k3 ih ⊢
    subst k3
    unfold wb_X7_wayOf_4
    refine pk_le 121 i (fun z => absurd z (by omega)) (fun _ => ⟨vp_in_nI hi (by omega), ?_⟩)
    rw [nI_clamp (n := i) (by omega), hv i hi]
    refine bo_eq' (hB i hi) (ob_some ht) rfl rfl (fun e => ?_) (fun e => ?_)
    · have eo : ownB B t i = true := decide_eq_true e
      have lo := cnt_full hi eo h10
      refine ⟨vp_in_nI lo (by omega), ?_⟩
      rw [nI_clamp (n := cnt (ownB B t) i) (by omega)]
      exact ih (upd w (cnt (ownB B t) i) (nI i), _) ⟨ORD_up k1 eo, by rw [cnt_t eo]; exact nI_1 _⟩
    · have eo : ownB B t i = false := decide_eq_false e
      exact ih (w, _) ⟨ORD_no k1 eo, congrArg nI (cnt_f eo).symm⟩
end WAY7
