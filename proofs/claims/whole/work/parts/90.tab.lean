/-! THE BOARD'S TABLES, and what the kernel reads off them -/
def NXB : Nat := 112516177758783496697956522501900259945269720968533753301911874272956831179817498344438317092526242074868177010682154451329889573361339507434743588080303701681058850485083270106175175612294989676492474899145323324923900319420177223060227309123990019379732891405801958567206490929086669787958621012651646722604913685140361198921276241754265664011510763311962539668308757773636311774732087740222051430220326557986439692893994299118153116221237341296978097119312206316984182988808671151562065067896188159579817545988810458756013772112030937470757198303127758573352532409456813419526550762139346080914503755844085993489688929224712617706819950951325725607902541871163531074814868878883779932197336038448747435572065128073875972759911881487265955908047335904638143636158930766315163816614119858280145193245332560388010158012504071831536102930852129457841090259978978894230672550458230386103180849077712310983735305100247290480306225341975729282194003503533605324851554232569731673480742982412191607729572469132576457339794790495525685979588060653279343532477139097724499155486634338263368517083447449266091022974820103967981874509486359870355644843735396406873293708152615902437665644362070859137149901722901907528748275609005331330766822509442796046769594572829660989816882538355347136364869927991820792193885269409769567880026539461424153838926822410921747192352330094651588175138943596869053228665371658740674040249351510194087984076511805416868675845962570637903510917054292953653318762067247222274964103644540646269636029543994513204985161737847594495335625329188705366192987148358114788775728902768143376966807861409196464814882352254539624560970357590104701113809900073587312817677856872601012357938784183472608662699546025482446194137336110973695
def RWB : Nat := 156498277364632535384146400208278401266427637125322257539726396338552444620174019559979408499497821519086976510359143463325722222216121115304281495538537336541359438409725931032532868202347441002146009846225448414722788751491914371962056176940571789347837931027331321664244127315695937585408
def CWB : Nat := 117440291241981685986639929961819562743531875920221010894495760794670989288848918787167754444916358936501568589628718975078163022845417586884610864267889202473724594871045704784257989177180671189289582462911554509528402801945123422765845513744805564050625314289221816550588206670250934864652
def CPB : Nat := 29350592787275291347887825922500995826561041407161024239595007676389682763894938978443786635104539205705596000342625421932953602986359397378137327466380675220374599489871745983457756923563736945766490292230997715655379613802082259980732707534799881137810313044021183666977616670025140142080
def GCB : Nat := 562660551044115159509904071625013810353457364108528355856130728439567573310806221396366154971940088496662030149959305098844559156111546024853760
/-- the neighbour of a cell in a direction -/
def nxr (c d : Nat) : Nat := (NXB >>> (8 * (6 * c + d))) % 256
def nx (c d : Nat) : Option Nat := if nxr c d = 255 then none else some (nxr c d)
def rw_ (c : Nat) : Nat := (RWB >>> (8 * c)) % 256
def cw_ (c : Nat) : Nat := (CWB >>> (8 * c)) % 256
def cpr (c : Nat) : Nat := (CPB >>> (8 * c)) % 256
def cp (c : Nat) : Option Nat := if cpr c = 255 then none else some (cpr c)
/-- the j-th cell of a camp -/
def gc (k j : Nat) : Nat := (GCB >>> (8 * (10 * k + j))) % 256
def adf (a b : Nat) : Nat := if a ≤ b then b - a else a - b
def dst (a b : Nat) : Nat := max (adf (rw_ a) (rw_ b)) ((adf (rw_ a) (rw_ b) + adf (cw_ a) (cw_ b)) / 2)
/-- an option as an int: -1 for none -/
def oi (o : Option Nat) : Int32 := match o with
  | none => -1
  | some n => nI n
theorem oi_none : oi none = -1 := rfl
theorem oi_some (n : Nat) : oi (some n) = nI n := rfl
theorem nx_all : ((List.range 121).all fun c => (List.range 6).all fun d => decide (nxr c d = 255) || (decide (nxr c d < 121) && decide (nxr (nxr c d) ((d + 3) % 6) = c) && ((decide (rw_ (nxr c d) = rw_ c) && decide (adf (cw_ c) (cw_ (nxr c d)) = 2)) || (decide (adf (rw_ c) (rw_ (nxr c d)) = 1) && decide (adf (cw_ c) (cw_ (nxr c d)) = 1))))) = true := by decide +kernel
theorem all_lt {N : Nat} {P : Nat → Bool} (h : (List.range N).all P = true) {i : Nat} (hi : i < N) : P i = true := List.all_eq_true.mp h i (List.mem_range.mpr hi)
theorem nx_facts {c d y : Nat} (hc : c < 121) (hd : d < 6) (h : nx c d = some y) : y < 121 ∧ nx y ((d + 3) % 6) = some c ∧ ((rw_ y = rw_ c ∧ adf (cw_ c) (cw_ y) = 2) ∨ (adf (rw_ c) (rw_ y) = 1 ∧ adf (cw_ c) (cw_ y) = 1)) := by
  have h1 := all_lt (all_lt nx_all hc) hd
  unfold nx at h
  by_cases e : nxr c d = 255
  · rw [if_pos e] at h; cases h
  · rw [if_neg e] at h
    cases h
    simp only [Bool.or_eq_true, Bool.and_eq_true, decide_eq_true_eq] at h1
    rcases h1 with h1 | ⟨⟨h1, h2⟩, h3⟩
    · exact absurd h1 e
    · refine ⟨h1, ?_, h3⟩
      unfold nx
      rw [h2, if_neg (by omega)]
theorem dst_all : ((List.range 121).all fun s => (List.range 121).all fun x => decide (s = x) || (List.range 6).any fun d => decide (nxr x d < 121) && decide (dst s (nxr x d) + 1 = dst s x)) = true := by decide +kernel
theorem dst_0 : ((List.range 121).all fun s => (List.range 121).all fun x => decide (dst s x = 0) == decide (s = x)) = true := by decide +kernel
theorem dst_pred {s x : Nat} (hs : s < 121) (hx : x < 121) (h : s ≠ x) : ∃ d p, d < 6 ∧ p < 121 ∧ nx x d = some p ∧ dst s p + 1 = dst s x := by
  have h1 := all_lt (all_lt dst_all hs) hx
  simp only [Bool.or_eq_true, decide_eq_true_eq, List.any_eq_true, List.mem_range, Bool.and_eq_true] at h1
  rcases h1 with h1 | ⟨d, hd, h2, h3⟩
  · exact absurd h1 h
  · exact ⟨d, nxr x d, hd, h2, by unfold nx; rw [if_neg (by omega)], h3⟩
theorem dst_zero {s x : Nat} (hs : s < 121) (hx : x < 121) : dst s x = 0 ↔ s = x := by
  have h1 := all_lt (all_lt dst_0 hs) hx
  simp only [beq_iff_eq, decide_eq_decide] at h1
  exact h1
theorem adf_tri (a b c : Nat) : adf a c ≤ adf a b + adf b c := by
  unfold adf
  split <;> split <;> split <;> omega
theorem adf_self (a : Nat) : adf a a = 0 := by
  unfold adf
  rw [if_pos (Nat.le_refl a)]
  omega
theorem dst_step {s c d y : Nat} (hc : c < 121) (hd : d < 6) (h : nx c d = some y) : dst s y ≤ dst s c + 1 := by
  obtain ⟨-, -, h1⟩ := nx_facts hc hd h
  have h2 := adf_tri (rw_ s) (rw_ c) (rw_ y)
  have h3 := adf_tri (cw_ s) (cw_ c) (cw_ y)
  have h4 : rw_ y = rw_ c → adf (rw_ s) (rw_ y) = adf (rw_ s) (rw_ c) := fun e => by rw [e]
  unfold dst
  generalize adf (rw_ s) (rw_ c) = p at *
  generalize adf (rw_ s) (rw_ y) = p' at *
  generalize adf (cw_ s) (cw_ c) = q at *
  generalize adf (cw_ s) (cw_ y) = q' at *
  generalize adf (rw_ c) (rw_ y) = r at *
  generalize adf (cw_ c) (cw_ y) = t at *
  rcases h1 with ⟨h5, h6⟩ | ⟨h5, h6⟩
  · have h7 := h4 h5
    omega
  · omega
