/-! PLAIN WORDS for what the small methods answer -/
theorem nI_m1 {n : Nat} (h : n < 2 ^ 31) : ¬ nI n = -1 := fun e => by
  have h1 := congrArg Int32.toInt e
  rw [nI_toInt h, show ((-1 : Int32)).toInt = -1 from by decide] at h1
  omega
theorem nI_inj {a b : Nat} (ha : a < 2 ^ 31) (hb : b < 2 ^ 31) (h : nI a = nI b) : a = b := (nI_eq ha hb).mp h
/-- at most so large -/
def ob (N : Nat) (o : Option Nat) : Prop := ∀ n, o = some n → n < N
theorem ob_none {N : Nat} : ob N none := fun _ h => by cases h
theorem ob_some {N n : Nat} (h : n < N) : ob N (some n) := fun _ e => by cases e; exact h
theorem oi_m1 {N : Nat} {o : Option Nat} (h : ob N o) (hN : N ≤ 2 ^ 31 := by decide) : oi o = -1 ↔ o = none := by
  cases o with
  | none => exact ⟨fun _ => rfl, fun _ => rfl⟩
  | some n => exact ⟨fun e => absurd e (nI_m1 (Nat.lt_of_lt_of_le (h n rfl) hN)), fun e => by cases e⟩
theorem oi_inj {N : Nat} {a b : Option Nat} (ha : ob N a) (hb : ob N b) (hN : N ≤ 2 ^ 31 := by decide) (e : oi a = oi b) : a = b := by
  cases a with
  | none => exact ((oi_m1 hb hN).mp e.symm).symm
  | some n => cases b with
    | none => exact (oi_m1 ha hN).mp e
    | some k => rw [nI_inj (Nat.lt_of_lt_of_le (ha n rfl) hN) (Nat.lt_of_lt_of_le (hb k rfl) hN) e]
theorem oi_eq {N : Nat} {a b : Option Nat} (ha : ob N a) (hb : ob N b) (hN : N ≤ 2 ^ 31 := by decide) : oi a = oi b ↔ a = b := ⟨oi_inj ha hb hN, fun e => by rw [e]⟩
/-- a branch on 'none' -/
theorem bo_m1 {N : Nat} {o : Option Nat} {A B : Prop} (h : ob N o) (f : o = none → A) (g : ∀ n, o = some n → B) (hN : N ≤ 2 ^ 31 := by decide) : (oi o = -1 → A) ∧ (¬ oi o = -1 → B) := by
  cases o with
  | none => exact ⟨fun _ => f rfl, fun z => absurd rfl z⟩
  | some n => exact ⟨fun e => absurd e (nI_m1 (Nat.lt_of_lt_of_le (h n rfl) hN)), fun _ => g n rfl⟩
theorem bo_m1' {N : Nat} {o : Option Nat} {A B : Prop} (h : ob N o) (f : o = none → A) (g : ∀ n, o = some n → B) (hN : N ≤ 2 ^ 31 := by decide) : (¬ oi o = -1 → B) ∧ (oi o = -1 → A) := ⟨(bo_m1 h f g hN).2, (bo_m1 h f g hN).1⟩
/-- a truth value as an int -/
def bi (b : Bool) : Int32 := cond b 1 0
theorem bi_0 {b : Bool} : bi b = 0 ↔ b = false := by cases b <;> decide
theorem bb {b : Bool} {A B : Prop} (f : b = true → A) (g : b = false → B) : (¬ bi b = 0 → A) ∧ (bi b = 0 → B) := by
  cases b with
  | true => exact ⟨fun _ => f rfl, fun z => absurd z (by decide)⟩
  | false => exact ⟨fun z => absurd rfl z, fun _ => g rfl⟩
theorem bb' {b : Bool} {A B : Prop} (f : b = true → A) (g : b = false → B) : (bi b = 0 → B) ∧ (¬ bi b = 0 → A) := ⟨(bb f g).2, (bb f g).1⟩
theorem bi_b {b : Bool} {A B C : Prop} (h : C ↔ b = true) (f : A → b = true → B) (a : A) (c : C) : B := f a (h.mp c)
theorem cl_nI {n : Nat} (h : n < 2 ^ 31) : (nI n).toNatClampNeg = n := nI_clamp h
/-- an array holds g at its first places -/
def AR (N : Nat) (v g : Nat → Int32) : Prop := ∀ k, k < N → v k = g k
theorem AR.upd {N : Nat} {v g : Nat → Int32} {k : Nat} {x : Int32} (h : AR N v g) : AR N (upd v k x) (fun j => if j = k then x else g j) := fun j hj => by
  show (if j = k then x else v j) = _
  show _ = (if j = k then x else g j)
  by_cases e : j = k
  · rw [if_pos e, if_pos e]
  · rw [if_neg e, if_neg e]; exact h j hj
/-! the board -/
def BD (v : Nat → Int32) (B : Nat → Option Nat) : Prop := ∀ k, k < 121 → v k = oi (B k)
def BK (B : Nat → Option Nat) : Prop := ∀ k, k < 121 → ob 6 (B k)
def NXA (v : Nat → Int32) : Prop := ∀ c d, c < 121 → d < 6 → v (6 * c + d) = oi (nx c d)
def CPA (v : Nat → Int32) : Prop := ∀ c, c < 121 → v c = oi (cp c)
theorem nx_ob {c d : Nat} (hc : c < 121) (hd : d < 6) : ob 121 (nx c d) := fun y h => (nx_facts hc hd h).1
theorem cp_all : ((List.range 121).all fun c => decide (cpr c = 255) || decide (cpr c < 6)) = true := by decide +kernel
theorem cp_ob {c : Nat} (hc : c < 121) : ob 6 (cp c) := fun y h => by
  have h1 := all_lt cp_all hc
  unfold cp at h
  by_cases e : cpr c = 255
  · rw [if_pos e] at h; cases h
  · rw [if_neg e] at h
    cases h
    simp only [Bool.or_eq_true, decide_eq_true_eq] at h1
    omega
/-- where a hop from c in the direction d comes down; the marble that hops began at g -/
def land (B : Nat → Option Nat) (g c d : Nat) : Option Nat := match nx c d with
  | none => none
  | some o => if o = g ∨ B o = none then none else match nx o d with
    | none => none
    | some b => if b = g ∨ B b = none then some b else none
theorem land_some {B : Nat → Option Nat} {g c d b : Nat} (h : land B g c d = some b) : ∃ o, nx c d = some o ∧ o ≠ g ∧ B o ≠ none ∧ nx o d = some b ∧ (b = g ∨ B b = none) := by
  unfold land at h
  cases e : nx c d with
  | none => rw [e] at h; cases h
  | some o =>
    rw [e] at h
    dsimp only at h
    by_cases e1 : o = g ∨ B o = none
    · rw [if_pos e1] at h; cases h
    · rw [if_neg e1] at h
      cases e2 : nx o d with
      | none => rw [e2] at h; cases h
      | some b' =>
        rw [e2] at h
        dsimp only at h
        by_cases e3 : b' = g ∨ B b' = none
        · rw [if_pos e3] at h
          cases h
          exact ⟨o, rfl, fun z => e1 (Or.inl z), fun z => e1 (Or.inr z), e2, e3⟩
        · rw [if_neg e3] at h; cases h
theorem land_of {B : Nat → Option Nat} {g c d b o : Nat} (h1 : nx c d = some o) (h2 : o ≠ g) (h3 : B o ≠ none) (h4 : nx o d = some b) (h5 : b = g ∨ B b = none) : land B g c d = some b := by
  unfold land
  rw [h1]
  dsimp only
  rw [if_neg (fun z => z.elim h2 h3), h4]
  dsimp only
  rw [if_pos h5]
theorem land_ob {B : Nat → Option Nat} {g c d : Nat} (hc : c < 121) (hd : d < 6) : ob 121 (land B g c d) := fun b h => by
  obtain ⟨o, h1, -, -, h4, -⟩ := land_some h
  exact nx_ob (nx_ob hc hd o h1) hd b h4
/-- a hop can be gone back -/
theorem land_back {B : Nat → Option Nat} {g c d b : Nat} (hc : c < 121) (hd : d < 6) (hG : c = g ∨ B c = none) (h : land B g c d = some b) : land B g b ((d + 3) % 6) = some c := by
  obtain ⟨o, h1, h2, h3, h4, -⟩ := land_some h
  have hd3 : (d + 3) % 6 < 6 := by omega
  obtain ⟨ho, e1, -⟩ := nx_facts hc hd h1
  obtain ⟨-, e2, -⟩ := nx_facts ho hd h4
  exact land_of e2 h2 h3 e1 hG
section PRIM
variable {Q : Int32 → Prop}
theorem t_isCell {c : Nat} (hc : c < 121) (h : Q 1) : wp_X6_isCell (nI c) Q := by
  unfold wp_X6_isCell
  exact br_f (nI_pos (by omega)) (br_f (nI_ge (b := 121) hc (by decide)) h)
theorem t_isCell_m1 (h : Q 0) : wp_X6_isCell (-1) Q := by
  unfold wp_X6_isCell
  exact br_t (by decide) h
/-- any int at all -/
theorem t_isCell_any (x : Int32) (h1 : ∀ c, c < 121 → x = nI c → Q 1) (h0 : (∀ c, c < 121 → ¬ x = nI c) → Q 0) : wp_X6_isCell x Q := by
  unfold wp_X6_isCell
  refine br_c (fun a => h0 (fun c hc e => ?_)) (fun a => br_c (fun b => h0 (fun c hc e => ?_)) (fun b => ?_))
  · rw [e] at a; exact nI_pos (by omega) a
  · rw [e] at b; exact nI_ge hc (by omega) b
  · rcases pk_ix x (n := 121) (by omega) with h | h | ⟨j, hj, e⟩
    · exact absurd h a
    · exact absurd h b
    · exact h1 j hj e
theorem t_isCell_o {o : Option Nat} (ho : ob 121 o) (h : Q (bi o.isSome)) : wp_X6_isCell (oi o) Q := by
  cases o with
  | none => exact t_isCell_m1 h
  | some c => exact t_isCell (ho c rfl) h
theorem t_next {v : Nat → Int32} {c d : Nat} (hv : NXA v) (hc : c < 121) (hd : d < 6) (h : Q (oi (nx c d))) : wp_X5_next v (nI c) (nI d) Q := by
  unfold wp_X5_next
  refine t_isCell hc (br_f (by decide) (br_f (nI_pos (by omega)) (br_t (nI_lt (b := 6) hd (by decide)) ?_)))
  have e : nI c * 6 + nI d = nI (6 * c + d) := by
    rw [show (6 : Int32) = nI 6 from rfl, pk_mul, nI_add, Nat.mul_comm]
  rw [e]
  refine ⟨vp_in_nI (by omega) (by omega), ?_⟩
  rw [nI_clamp (by omega), hv c d hc hd]
  exact h
theorem t_next_m1 {v : Nat → Int32} {d : Int32} (h : Q (-1)) : wp_X5_next v (-1) d Q := by
  unfold wp_X5_next
  exact t_isCell_m1 (br_t rfl h)
theorem t_owner {v : Nat → Int32} {B : Nat → Option Nat} {c : Nat} (hv : BD v B) (hc : c < 121) (h : Q (oi (B c))) : wp_X1_owner v (nI c) Q := by
  unfold wp_X1_owner
  refine t_isCell hc (br_f (by decide) ⟨vp_in_nI hc (by omega), ?_⟩)
  rw [nI_clamp (by omega), hv c hc]
  exact h
/-- is there such a cell, and is it empty -/
def emp (B : Nat → Option Nat) (o : Option Nat) : Bool := match o with
  | none => false
  | some c => (B c).isNone
theorem t_isEmpty {v : Nat → Int32} {B : Nat → Option Nat} {o : Option Nat} (hv : BD v B) (hB : BK B) (ho : ob 121 o) (h : Q (bi (emp B o))) : wp_X1_isEmpty v (oi o) Q := by
  unfold wp_X1_isEmpty
  cases o with
  | none => exact t_isCell_m1 (br_t rfl h)
  | some c =>
    have hc := ho c rfl
    refine t_isCell hc (br_f (by decide) ⟨vp_in_nI hc (by omega), ?_⟩)
    rw [show (oi (some c)).toNatClampNeg = c from nI_clamp (by omega), hv c hc]
    refine bo_m1' (hB c hc) (fun e => ?_) (fun n e => ?_)
    · rw [show emp B (some c) = true by show (B c).isNone = true; rw [e]; rfl] at h; exact h
    · rw [show emp B (some c) = false by show (B c).isNone = false; rw [e]; rfl] at h; exact h
theorem t_camp {v : Nat → Int32} {c : Nat} (hv : CPA v) (hc : c < 121) (h : Q (oi (cp c))) : wp_X5_camp v (nI c) Q := by
  unfold wp_X5_camp
  refine t_isCell hc (br_f (by decide) ⟨vp_in_nI hc (by omega), ?_⟩)
  rw [nI_clamp (by omega), hv c hc]
  exact h
theorem goal_eq {t : Nat} (ht : t < 6) : ((nI t + 3) - (nI t + 3) / 6 * 6 : Int32) = nI ((t + 3) % 6) := by
  rw [show (3 : Int32) = nI 3 from rfl, nI_add, show (6 : Int32) = nI 6 from rfl]
  exact pk_rem (by omega) (by omega) (by omega)
theorem t_goalOf {t : Nat} (ht : t < 6) (h : Q (nI ((t + 3) % 6))) : wp_X6_goalOf (nI t) Q := by
  unfold wp_X6_goalOf
  rw [goal_eq ht]
  exact h
theorem t_landing {vn vo : Nat → Int32} {B : Nat → Option Nat} {c d g : Nat} (hn : NXA vn) (hv : BD vo B) (hB : BK B) (hc : c < 121) (hd : d < 6) (hg : g < 121) (h : Q (oi (land B g c d))) : wp_X3_landing vn vo (nI c) (nI d) (nI g) Q := by
  unfold wp_X3_landing
  refine t_next hn hc hd (bo_m1 (nx_ob hc hd) (fun e => ?_) (fun o e => ?_))
  · unfold land at h; rw [e] at h; exact h
  · have ho := nx_ob hc hd o e
    rw [e, oi_some]
    refine pk_eq o g (fun e1 => ?_) (fun e1 => ?_)
    · unfold land at h; rw [e] at h; dsimp only at h; rw [if_pos (Or.inl e1)] at h; exact h
    · refine t_isEmpty (o := some o) hv hB (ob_some ho) (bb' (fun e2 => ?_) (fun e2 => ?_))
      · have e3 : B o = none := Option.isNone_iff_eq_none.mp e2
        unfold land at h; rw [e] at h; dsimp only at h; rw [if_pos (Or.inr e3)] at h; exact h
      · have e3 : ¬ (o = g ∨ B o = none) := fun z => z.elim e1 (fun z => by
          have : emp B (some o) = true := by show (B o).isNone = true; rw [z]; rfl
          rw [this] at e2; cases e2)
        unfold land at h; rw [e] at h; dsimp only at h; rw [if_neg e3] at h
        refine t_next hn ho hd ?_
        cases e4 : nx o d with
        | none =>
          rw [e4] at h
          refine br_f (fun z => nI_m1 (by omega) z.symm) (t_isEmpty (o := none) hv hB ob_none (bb' (fun z => by cases z) (fun _ => h)))
        | some b =>
          rw [e4] at h
          dsimp only at h
          have hb := nx_ob ho hd b e4
          refine pk_eq b g (fun e5 => ?_) (fun e5 => ?_)
          · rw [if_pos (Or.inl e5)] at h; exact h
          · refine t_isEmpty (o := some b) hv hB (ob_some hb) (bb' (fun e6 => ?_) (fun e6 => ?_))
            · rw [if_pos (Or.inr (Option.isNone_iff_eq_none.mp e6))] at h; exact h
            · rw [if_neg (fun z => z.elim e5 (fun z => by
                have : emp B (some b) = true := by show (B b).isNone = true; rw [z]; rfl
                rw [this] at e6; cases e6))] at h
              exact h
end PRIM
