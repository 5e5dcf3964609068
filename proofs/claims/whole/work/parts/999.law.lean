/-! THE LAW'S LOOP: from any game that both sides hold alike, all answers agree -/
theorem t_thr {z1 z2 z3 z4 z5 z6 z7 z8 : Int32} {Q : Int32 → Prop} (h : Q z8) : wp_X7_thrown z1 z2 z3 z4 z5 z6 z7 z8 Q := h
theorem cmp_self (x : Int64) : lg_cmp x x = 0 := by
  unfold lg_cmp
  simp
theorem updL_0 (v : Nat → Int64) (x : Int64) : vp_updL v (0 : Int32).toNatClampNeg x (0 : Int32).toNatClampNeg = x := if_pos rfl
theorem okV {vO : Nat → Int64} {r : Int32} {A C C' : Prop} (h : A) : ((0 : Int32) = 0 → ((¬ (0 : Int32) = 0 → A) ∧ ((0 : Int32) = 0 → (vp_in (0 : Int32) 1 ∧ ((lg_cmp (vp_updL vO (0 : Int32).toNatClampNeg r.toInt64 (0 : Int32).toNatClampNeg) r.toInt64 = 0 → A) ∧ (¬ lg_cmp (vp_updL vO (0 : Int32).toNatClampNeg r.toInt64 (0 : Int32).toNatClampNeg) r.toInt64 = 0 → C)))))) ∧ (¬ (0 : Int32) = 0 → C') :=
  ⟨fun _ => ⟨fun z => absurd rfl z, fun _ => ⟨v01, fun _ => h, fun z => absurd (by rw [updL_0]; exact cmp_self _) z⟩⟩, fun z => absurd rfl z⟩
theorem okX {k : Int32} {A C D : Prop} (hk : ¬ k = 0) (h : A) : (k = k → ((¬ k = 0 → A) ∧ (k = 0 → D))) ∧ (¬ k = k → C) := ⟨fun _ => ⟨fun _ => h, fun z => absurd z hk⟩, fun z => absurd rfl z⟩
theorem okE {k : Int32} {A C : Prop} (h : A) : (k = k → A) ∧ (¬ k = k → C) := ⟨fun _ => h, fun z => absurd rfl z⟩
theorem okB {vO : Nat → Int64} {b : Bool} {A C C' : Prop} (h : A) : (((0 : Int32) = 0 → ((¬ (0 : Int32) = 0 → A) ∧ ((0 : Int32) = 0 → (vp_in (0 : Int32) 1 ∧ ((bi b = 0 → ((lg_cmp (vp_updL vO (0 : Int32).toNatClampNeg (cond b 1 0) (0 : Int32).toNatClampNeg) (0 : Int64) = 0 → A) ∧ (¬ lg_cmp (vp_updL vO (0 : Int32).toNatClampNeg (cond b 1 0) (0 : Int32).toNatClampNeg) (0 : Int64) = 0 → C))) ∧ (¬ bi b = 0 → ((lg_cmp (vp_updL vO (0 : Int32).toNatClampNeg (cond b 1 0) (0 : Int32).toNatClampNeg) (1 : Int64) = 0 → A) ∧ (¬ lg_cmp (vp_updL vO (0 : Int32).toNatClampNeg (cond b 1 0) (0 : Int32).toNatClampNeg) (1 : Int64) = 0 → C)))))))) ∧ (¬ (0 : Int32) = 0 → C')) :=
  ⟨fun _ => ⟨fun z => absurd rfl z, fun _ => ⟨v01, by
    rw [updL_0]
    cases b with
    | true => exact ⟨fun z => absurd z (by decide), fun _ => ⟨fun _ => h, fun z => absurd (cmp_self _) z⟩⟩
    | false => exact ⟨fun _ => ⟨fun _ => h, fun z => absurd (cmp_self _) z⟩, fun z => absurd rfl z⟩⟩⟩, fun z => absurd rfl z⟩
set_option maxHeartbeats 4000000 in
theorem law_pure {L : Nat} {xs vr vk vc vn rr rk vcz vnz vf vg : Nat → Int32} (hL : L ≤ 2048) (hr : ROWA vr) (hk : COLA vk) (hcv : CPA vc) (hn : NXA vn) (hrr : ROWA rr) (hrk : COLA rk) (hcz : CPA vcz) (hnz : NXA vnz) (hf : FARA vf) (hg : GCA vg) {fill pat pl out thr : Int32} {vM vZ mb pls fr to tu ou pd : Nat → Int32} {r1 r2 r3 p1 p2 p3 p4 p5 p6 l1 l2 l3 l4 l5 : Nat → Int32} {vO : Nat → Int64} {B : Nat → Option Nat} {T : Option Nat} {P N : Nat} (hI : GI B T P N pl pls fr to tu pd) (hv : BD vM B) (hz : BD vZ B) :
    wl_L_law_23 L xs vr vk vc vn rr rk vcz vnz vf vg (fun r => r = 1) fill pat vM r1 r2 r3 p1 p2 p3 p4 p5 p6 (nI P) pl out (oi T) mb pls (nI N) fr to tu ou pd pl fill pat (oi T) (nI N) out (nI P) thr vZ mb pls fr to tu ou pd l1 l2 l3 l4 l5 vO 0 := by
  intro R hR
  have key : ∀ m i, i ≤ 512 → 512 ≤ i + m → ∀ {fill pat pl out thr : Int32} {vM vZ mb pls fr to tu ou pd : Nat → Int32} {r1 r2 r3 p1 p2 p3 p4 p5 p6 l1 l2 l3 l4 l5 : Nat → Int32} {vO : Nat → Int64} {B : Nat → Option Nat} {T : Option Nat} {P N : Nat}, GI B T P N pl pls fr to tu pd → BD vM B → BD vZ B → R fill pat vM r1 r2 r3 p1 p2 p3 p4 p5 p6 (nI P) pl out (oi T) mb pls (nI N) fr to tu ou pd pl fill pat (oi T) (nI N) out (nI P) thr vZ mb pls fr to tu ou pd l1 l2 l3 l4 l5 vO (nI (4 * i)) := by
    intro m
    induction m with
    | zero =>
      intro i hi hm fill pat pl out thr vM vZ mb pls fr to tu ou pd r1 r2 r3 p1 p2 p3 p4 p5 p6 l1 l2 l3 l4 l5 vO B T P N hI hv hz
      refine hR _ _ _ _ _ _ _ _ _ _ _ _ _ _ _ _ _ _ _ _ _ _ _ _ _ _ _ _ _ _ _ _ _ _ _ _ _ _ _ _ _ _ _ _ _ _ _ ?_
      unfold wb_L_law_23
      refine ⟨fun _ => rfl, fun hc => ?_⟩
      have h4 := law_lt hL hi hc
      omega
    | succ m ih =>
      intro i hi hm fill pat pl out thr vM vZ mb pls fr to tu ou pd r1 r2 r3 p1 p2 p3 p4 p5 p6 l1 l2 l3 l4 l5 vO B T P N hI hv hz
      refine hR _ _ _ _ _ _ _ _ _ _ _ _ _ _ _ _ _ _ _ _ _ _ _ _ _ _ _ _ _ _ _ _ _ _ _ _ _ _ _ _ _ _ _ _ _ _ _ ?_
      unfold wb_L_law_23
      refine ⟨fun _ => rfl, fun hc => ?_⟩
      have h4 := law_lt hL hi hc
      have nx : ∀ {fill pat pl out thr : Int32} {vM vZ mb pls fr to tu ou pd : Nat → Int32} {r1 r2 r3 p1 p2 p3 p4 p5 p6 l1 l2 l3 l4 l5 : Nat → Int32} {vO : Nat → Int64} {B : Nat → Option Nat} {T : Option Nat} {P N : Nat}, GI B T P N pl pls fr to tu pd → BD vM B → BD vZ B → R fill pat vM r1 r2 r3 p1 p2 p3 p4 p5 p6 (nI P) pl out (oi T) mb pls (nI N) fr to tu ou pd pl fill pat (oi T) (nI N) out (nI P) thr vZ mb pls fr to tu ou pd l1 l2 l3 l4 l5 vO (nI (4 * i) + (4 : Int32)) := by
        intro fill pat pl out thr vM vZ mb pls fr to tu ou pd r1 r2 r3 p1 p2 p3 p4 p5 p6 l1 l2 l3 l4 l5 vO B T P N hI hv hz
        rw [show nI (4 * i) + (4 : Int32) = nI (4 * (i + 1)) from nI_add (4 * i) 4]
        exact ih (i + 1) (by omega) (by omega) hI hv hz
      have vp : ∀ k, k < 4 → vp_in (nI (4 * i) + nI k) L := fun k hk => by
        rw [nI_add]
        exact vp_in_nI (by omega) (by omega)
      have v0 : vp_in (nI (4 * i)) L := vp_in_nI (by omega) (by omega)
      have v1 : vp_in (nI (4 * i) + (1 : Int32)) L := vp 1 (by omega)
      have v2 : vp_in (nI (4 * i) + (2 : Int32)) L := vp 2 (by omega)
      have v3 : vp_in (nI (4 * i) + (3 : Int32)) L := vp 3 (by omega)
      have hB := hI.1
      have hT := hI.ob
      have h10 := hI.2.2.2.2.2.1
      refine ⟨v0, ?_⟩
      generalize xs (nI (4 * i)).toNatClampNeg &&& (31 : Int32) = y
      generalize xs (nI (4 * i) + (1 : Int32)).toNatClampNeg = x1
      generalize xs (nI (4 * i) + (2 : Int32)).toNatClampNeg = x2
      generalize xs (nI (4 * i) + (3 : Int32)).toNatClampNeg = x3
      refine ⟨fun _ => ⟨v1, ?_⟩, fun _ => ⟨v1, ?_⟩, fun _ => ⟨v1, ?_⟩, fun _ => ⟨v1, v2, ?_⟩, fun _ => ?_, fun _ => ?_, fun _ => ⟨v1, ?_⟩, fun _ => ⟨v1, v2, ?_⟩, fun _ => ⟨v1, ?_⟩, fun _ => ⟨v1, v2, ?_⟩, fun _ => ?_, fun _ => ?_, fun _ => ⟨v1, ?_⟩, fun _ => ⟨v1, v2, ?_⟩, fun _ => ?_, fun _ => ⟨v1, v2, v3, ?_⟩, fun _ => ⟨v1, v2, ?_⟩, fun _ => ⟨v1, ?_⟩, fun _ => ⟨v1, ?_⟩, fun _ => ⟨v1, ?_⟩, fun _ => ?_, fun _ => ?_, ?_⟩
      · exact k_begin hcv hcz v1 (fun w1 w2 U hw1 hw2 hU => t_thr (okE (nx (B := bgB x1) (T := U) (P := 0) (N := 0) ⟨bgB_BK x1, hU, by omega, ⟨fun _ => 0, fun i hi => absurd hi (Nat.not_lt_zero i), fun i j hi => absurd hi (Nat.not_lt_zero i)⟩, by omega, fun t ht hb => bgB_10 ht hb, trivial⟩ hw1 hw2))) (t_thr (okE (nx hI hv hz)))
      · exact k_setFill v1 (t_thr (okV (nx hI hv hz))) (t_thr (okX (by decide) (nx hI hv hz)))
      · exact k_setPatience v1 (t_thr (okV (nx hI hv hz))) (t_thr (okX (by decide) (nx hI hv hz)))
      · exact k_move hcv hn hv hcz hnz hf hg hz hI v1 v2 (fun r B' T' P' o' w1 w2 a1 a2 a3 b1 b2 b3 m' pls' fr' to' tu' ou' pd' hI' h1 h2 => t_thr (okV (nx hI' h1 h2))) (fun k a1 a2 a3 b1 b2 b3 hk => t_thr (okX hk (nx hI hv hz)))
      · exact k_pass hcv hn hv hcz hnz hf hg hz hI (fun T' o' a1 a2 a3 b1 b2 b3 m' fr' to' tu' ou' pd' hI' => t_thr (okE (nx hI' hv hz))) (fun a1 a2 a3 b1 b2 b3 => t_thr (okE (nx hI hv hz)))
      · exact k_undo hv hz hI (fun r B' T' P' N' o' m' w1 w2 hI' h1 h2 => t_thr (okV (nx hI' h1 h2))) (t_thr (okX (by decide) (nx hI hv hz)))
      · exact k_at hv hz v1 (fun r => t_thr (okV (nx hI hv hz))) (t_thr (okX (by decide) (nx hI hv hz)))
      · exact k_cellAt hrr hrk v1 v2 (fun r => okE (nx hI hv hz))
      · exact k_campOf hcv hcz v1 (fun r => t_thr (okV (nx hI hv hz))) (t_thr (okX (by decide) (nx hI hv hz)))
      · exact k_distance hr hk hf v1 v2 (fun r => t_thr (okV (nx hI hv hz))) (t_thr (okX (by decide) (nx hI hv hz)))
      · exact okE (nx hI hv hz)
      · exact okE (nx hI hv hz)
      · exact k_ends hcv hn hv hB hT hcz hnz hf hz v1 (fun r a1 a2 a3 b1 b2 b3 => t_thr (okV (nx hI hv hz))) (t_thr (okX (by decide) (nx hI hv hz)))
      · exact k_endAt hcv hn hv hB hT hcz hnz hf hz v1 v2 (fun r a1 a2 a3 b1 b2 b3 => t_thr (okV (nx hI hv hz))) (fun a1 a2 a3 b1 b2 b3 => t_thr (okX (by decide) (nx hI hv hz)))
      · exact k_moves hcv hn hv hB hT hcz hnz hf hz (fun r a1 a2 a3 b1 b2 b3 => okE (nx hI hv hz))
      · exact k_chainAt hcv hn hv hB hT hcz hnz hf hz v1 v2 v3 (fun r a1 a2 a3 b1 b2 b3 => t_thr (okV (nx hI hv hz))) (t_thr (okX (by decide) (nx hI hv hz)))
      · exact k_hops hcv hn hv hB hT hcz hnz hf hz v1 v2 (fun r a1 a2 a3 b1 b2 b3 => t_thr (okV (nx hI hv hz))) (t_thr (okX (by decide) (nx hI hv hz)))
      · exact k_finished v1 (fun r => t_thr (okV (nx hI hv hz))) (t_thr (okX (by decide) (nx hI hv hz))) hI.2.2.1
      · exact k_isOut v1 (fun b => t_thr (okB (nx hI hv hz))) (t_thr (okX (by decide) (nx hI hv hz)))
      · exact k_way hr hk hcv hv hB hf hg hz h10 v1 (fun r a1 a2 a3 a4 b1 b2 => t_thr (okV (nx hI hv hz))) (t_thr (okX (by decide) (nx hI hv hz)))
      · exact k_bestFrom hr hk hcv hn hv hcz hnz hf hg hz hI (fun r c1 c2 c3 c4 c5 c6 c7 c8 c9 w d1 d2 d3 d4 d5 hw => okE (nx hI hv hw))
      · exact k_bestTo hr hk hcv hn hv hcz hnz hf hg hz hI (fun r c1 c2 c3 c4 c5 c6 c7 c8 c9 w d1 d2 d3 d4 d5 hw => okE (nx hI hv hw))
      · exact nx hI hv hz
  have h := key 512 0 (by omega) (by omega) hI hv hz (fill := fill) (pat := pat) (out := out) (thr := thr) (mb := mb) (ou := ou) (r1 := r1) (r2 := r2) (r3 := r3) (p1 := p1) (p2 := p2) (p3 := p3) (p4 := p4) (p5 := p5) (p6 := p6) (l1 := l1) (l2 := l2) (l3 := l3) (l4 := l4) (l5 := l5) (vO := vO)
  exact h
