/-! THE LAW: what an object holds, all together; its own calls and the others' -/
/-- the law's own cells, and arrays made later -/
abbrev Xo (h : AH) (a : Nat) : Prop := 153 ≤ a ∧ (168 ≤ a → 100 ≤ h.2.1 a)
def lG (c n : Nat) (K P B : Nat → Nat) (np : Nat) (T C : Nat → Nat) (nr : Nat) (U : Nat → Nat → Nat) (V W : Nat → Int) (h : AH) : Prop := ∃ S TA AA A, tS 0 c n K P B S h ∧ cP 0 np T C h ∧ cR 0 nr U V TA AA h ∧ cW 0 W h ∧ cK 0 1 h ∧ cPl A h
section S88
variable {c n np nr : Nat} {K P B T C : Nat → Nat} {U : Nat → Nat → Nat} {V W : Nat → Int} {h h' : AH}
theorem lG.ok (s : lG c n K P B np T C nr U V W h) : okS c n K P B := by obtain ⟨S, TA, AA, A, t, _⟩ := s; exact t.ok
theorem lG.al (s : lG c n K P B np T C nr U V W h) : 168 ≤ h.2.2.1 := by obtain ⟨S, TA, AA, A, t, _⟩ := s; exact t.al
theorem lG.rr (s : lG c n K P B np T C nr U V W h) : okR nr U V := by obtain ⟨S, TA, AA, A, t, p, r, _⟩ := s; exact r.2.1.1
theorem lG.ww (s : lG c n K P B np T C nr U V W h) : ∀ i, i < 5 → -9 ≤ W i ∧ W i ≤ 9 := by obtain ⟨S, TA, AA, A, t, p, r, w, _⟩ := s; exact fun i hi => (w i hi).2
theorem lG.p4 (s : lG c n K P B np T C nr U V W h) : np ≤ 40 := by obtain ⟨S, TA, AA, A, t, p, _⟩ := s; exact p.1
theorem lG.o {k : Nat} {X : Nat → Prop} (s : lG c n K P B np T C nr U V W h) (f : fy k X h h') (q : ∀ a, X a → Xo h a) : lG c n K P B np T C nr U V W h' := by
  obtain ⟨S, TA, AA, A, t, p, r, w, kk, pl⟩ := s
  have al := t.al
  have N : ∀ a, a < 153 → ¬ X a := fun a ha z => by have := (q a z).1; omega
  have I : ∀ {a j}, a < 153 → hI h' a j = hI h a j := fun ha => f.I (by omega) (N _ ha)
  have L : ∀ {a j}, a < 153 → hL h' a j = hL h a j := fun ha => f.L (by omega) (N _ ha)
  have R : ∀ {a j}, a < 153 → hR h' a j = hR h a j := fun ha => f.R (by omega) (N _ ha)
  have D : ∀ {a}, 168 ≤ a → h.2.1 a < 100 → ¬ X a := fun ha hc z => by have := (q _ z).2 ha; omega
  have n6 := t.n6
  have sO' : ∀ {a k p b}, sO h a k p b → sO h' a k p b := fun {a k p b} z => by
    obtain ⟨z1, z2, z3, z4, z5, z6⟩ := z
    have nX := D z1 (by omega)
    exact ⟨z1, Nat.lt_of_lt_of_le z2 f.1, (f.2.2.2.2.1 a z2).trans z3, (f.R z2 nX).trans z4, (f.I z2 nX).trans z5, (f.I z2 nX).trans z6⟩
  have tO' : ∀ {a t x y d}, tO h a t x y d → tO h' a t x y d := fun {a t x y d} z => by
    obtain ⟨z1, z2, z3, z4, z5, z6, z7⟩ := z
    have nX := D z1 (by omega)
    exact ⟨z1, Nat.lt_of_lt_of_le z2 f.1, (f.2.2.2.2.1 a z2).trans z3, (f.I z2 nX).trans z4, (f.I z2 nX).trans z5, (f.I z2 nX).trans z6, (f.R z2 nX).trans z7⟩
  have aO' : ∀ {a m x y v d}, aO h a m x y v d → aO h' a m x y v d := fun {a m x y v d} z => by
    obtain ⟨z1, z2, z3, z4, z5, z6, z7, z8⟩ := z
    have nX := D z1 (by omega)
    exact ⟨z1, Nat.lt_of_lt_of_le z2 f.1, (f.2.2.2.2.1 a z2).trans z3, (f.I z2 nX).trans z4, (f.I z2 nX).trans z5, (f.I z2 nX).trans z6, (f.I z2 nX).trans z7, (f.R z2 nX).trans z8⟩
  refine ⟨S, TA, AA, A, ?_, ?_, ?_, ?_, ?_, ?_⟩
  · exact ⟨t.ok, Nat.le_trans al f.1, (I (by decide)).trans t.cc, (I (by decide)).trans t.nn, fun i hi => ⟨(R (by decide)).trans (t.st i hi).1, sO' (t.st i hi).2⟩, fun i hi => (I (by decide)).trans (t.fan i hi), fun i hi => (I (by decide)).trans (t.beh i hi), fun i hi w hw => (I (by omega)).trans (t.bef i hi w hw), fun j hj i hi => (I (by omega)).trans (t.see j hj i hi)⟩
  · exact ⟨p.1, (I (by decide)).trans p.2.1, fun k hk => ⟨(p.2.2 k hk).1, (p.2.2 k hk).2.1, (I (by decide)).trans (p.2.2 k hk).2.2.1, (I (by decide)).trans (p.2.2 k hk).2.2.2⟩⟩
  · exact ⟨(I (by decide)).trans r.1, ⟨r.2.1.1, fun i hi => aO' (r.2.1.2 i hi)⟩, fun i hi => tO' (r.2.2.1 i hi), fun i hi => ⟨(R (by decide)).trans (r.2.2.2 i hi).1, (R (by decide)).trans (r.2.2.2 i hi).2.1, (I (by decide)).trans (r.2.2.2 i hi).2.2.1, (I (by decide)).trans (r.2.2.2 i hi).2.2.2⟩⟩
  · exact fun i hi => ⟨(I (by decide)).trans (w i hi).1, (w i hi).2⟩
  · exact ⟨(L (by decide)).trans kk.1, kk.2⟩
  · exact ⟨pl.1, (R (by decide)).trans pl.2.1, (R (by decide)).trans pl.2.2⟩
/-- a frame that leaves the game, rules, worths as they are -/
def okL (L : List (Nat × Option Nat)) : Bool := outS 66 86 L && loS L && outS 90 94 L && !inS L 65 6 && !inS L 65 7 && (L.all fun p => decide (p.1 < 153)) && !(L.any fun p => p.1 == 67)
theorem okL_67 {L : List (Nat × Option Nat)} (q : outS 66 86 L = true) (j : Nat) : inS L 67 j = false := outS_in q (by decide) (by decide) j
theorem lG.fr' (s : lG c n K P B np T C nr U V W h) {L : List (Nat × Option Nat)} (f : fr L h h') (q : okL L = true) {np' : Nat} {T' C' : Nat → Nat} (p' : cP 0 np' T' C' h') (pl : ∀ A, cPl A h → ∃ A', cPl A' h') : fy 0 Xc h h' ∧ lG c n K P B np' T' C' nr U V W h' := by
  unfold okL at q
  simp only [Bool.and_eq_true, Bool.not_eq_true'] at q
  obtain ⟨⟨⟨⟨⟨⟨q1, q2⟩, q3⟩, q4⟩, q5⟩, q6⟩, _⟩ := q
  refine ⟨f.c q6, ?_⟩
  obtain ⟨S, TA, AA, A, t, p, r, w, kk, pl0⟩ := s
  obtain ⟨A', pl'⟩ := pl A pl0
  exact ⟨S, TA, AA, A', t.fr f q1 q2, p', cR_fx r f.fx t.al (by decide) q3 q2 q4, cW_fx w f.fx t.al (by decide) (okL_67 q1), ⟨(f.L q5).trans kk.1, kk.2⟩, pl'⟩
theorem lG.fr (s : lG c n K P B np T C nr U V W h) {L : List (Nat × Option Nat)} (f : fr L h h') (q : okL L = true) (q2 : outS 87 90 L = true) (pl : ∀ A, cPl A h → ∃ A', cPl A' h') : fy 0 Xc h h' ∧ lG c n K P B np T C nr U V W h' := by
  obtain ⟨S, TA, AA, A, t, p, r, w, kk, pl0⟩ := s
  exact lG.fr' ⟨S, TA, AA, A, t, p, r, w, kk, pl0⟩ f q (cP_fr p f q2) pl
theorem lg_seen (s : lG c n K P B np T C nr U V W h) (i j : Int32) : XX true 3 8 0 [.ref 64, .int (i), .int (j)] [] (h) (some (.int (a_seen n K P i j)), h) := by obtain ⟨S, TA, AA, A, t, p, r, w, kk, pl⟩ := s; exact co_seen t i j
theorem lg_ways (s : lG c n K P B np T C nr U V W h) (j : Int32) : XX true 2 11 0 [.ref 64, .int (j)] [] (h) (some (.int (a_ways c n K B j)), h) := by obtain ⟨S, TA, AA, A, t, p, r, w, kk, pl⟩ := s; exact co_ways t j
theorem lg_count (s : lG c n K P B np T C nr U V W h) (w : Int32) : XX true 1 77 0 [.ref 64, .int (w)] [] (h) (some (.long (a_count c n np nr 1 w)), h) := by obtain ⟨S, TA, AA, A, t, p, r, w, kk, pl⟩ := s; exact co_count t p r kk _
theorem lg_happened (s : lG c n K P B np T C nr U V W h) (w i : Int32) : ∃ h', XX true 3 12 0 [.ref 64, .int (w), .int (i)] [] (h) (some (.int (a_happened c n K B w i)), h') ∧ fy 0 Xc h h' ∧ lG c n K P B np T C nr U V W h' := by
  obtain ⟨S, TA, AA, A, t, p, r, ww, kk, pl⟩ := s
  obtain ⟨h', x, f⟩ := co_happened t w i
  exact ⟨h', x, lG.fr ⟨S, TA, AA, A, t, p, r, ww, kk, pl⟩ f rfl rfl (fun A z => ⟨A, cPl_fr z f rfl rfl⟩)⟩
theorem lg_view (s : lG c n K P B np T C nr U V W h) (q w j : Int32) : ∃ h', XX true 2 16 0 [.ref 64, .int (q), .int (w), .int (j)] [] (h) (some (.int (a_view c n K P B q w j)), h') ∧ fy 0 Xc h h' ∧ lG c n K P B np T C nr U V W h' := by
  obtain ⟨S, TA, AA, A, t, p, r, ww, kk, pl⟩ := s
  obtain ⟨h', x, f⟩ := co_view t q w j
  exact ⟨h', x, lG.fr ⟨S, TA, AA, A, t, p, r, ww, kk, pl⟩ f rfl rfl (fun A z => ⟨A, cPl_fr z f rfl rfl⟩)⟩
theorem lg_worlds (s : lG c n K P B np T C nr U V W h) (q j v : Int32) : ∃ h', XX true 4 19 0 [.ref 64, .int (q), .int (j), .int (v)] [] (h) (some (.int (a_worlds c n K P B q j v)), h') ∧ fy 0 Xc h h' ∧ lG c n K P B np T C nr U V W h' := by
  obtain ⟨S, TA, AA, A, t, p, r, ww, kk, pl⟩ := s
  obtain ⟨h', x, f⟩ := co_worlds t q j v
  exact ⟨h', x, lG.fr ⟨S, TA, AA, A, t, p, r, ww, kk, pl⟩ f rfl rfl (fun A z => ⟨A, cPl_fr z f rfl rfl⟩)⟩
theorem lg_world (s : lG c n K P B np T C nr U V W h) (q j v k : Int32) : ∃ h', XX true 4 22 0 [.ref 64, .int (q), .int (j), .int (v), .int (k), ax_junk] [] (h) (some (.int (a_world c n K P B q j v k)), h') ∧ fy 0 Xc h h' ∧ lG c n K P B np T C nr U V W h' := by
  obtain ⟨S, TA, AA, A, t, p, r, ww, kk, pl⟩ := s
  obtain ⟨h', x, f⟩ := co_world t q j v k
  exact ⟨h', x, lG.fr ⟨S, TA, AA, A, t, p, r, ww, kk, pl⟩ f rfl rfl (fun A z => ⟨A, cPl_fr z f rfl rfl⟩)⟩
theorem lg_sets (s : lG c n K P B np T C nr U V W h) (q : Int32) : ∃ h', XX true 5 39 0 [.ref 64, .int (q)] [] (h) (some (.int (a_sets c n K P B q)), h') ∧ fy 0 Xc h h' ∧ lG c n K P B np T C nr U V W h' := by
  obtain ⟨S, TA, AA, A, t, p, r, ww, kk, pl⟩ := s
  obtain ⟨h', x, f⟩ := co_sets t q
  exact ⟨h', x, lG.fr ⟨S, TA, AA, A, t, p, r, ww, kk, pl⟩ f rfl rfl (fun A z => ⟨A, cPl_fr z f rfl rfl⟩)⟩
theorem lg_setOf (s : lG c n K P B np T C nr U V W h) (q t' w : Int32) : ∃ h', XX true 5 44 0 [.ref 64, .int (q), .int (t'), .int (w)] [] (h) (some (.int (a_setOf c n K P B (v_chs np T C B) q t' w)), h') ∧ fy 0 Xc h h' ∧ lG c n K P B np T C nr U V W h' := by
  obtain ⟨S, TA, AA, A, t, p, r, ww, kk, pl⟩ := s
  obtain ⟨h', x, f⟩ := co_setOf t p q t' w
  exact ⟨h', x, lG.fr ⟨S, TA, AA, A, t, p, r, ww, kk, pl⟩ f rfl rfl (fun A z => ⟨A, cPl_fr z f rfl rfl⟩)⟩
theorem lg_pay (s : lG c n K P B np T C nr U V W h) (q i : Int32) : ∃ h', XX true 5 47 0 [.ref 64, .int (q), .int (i), ax_junk, ax_junk] [] (h) (some (.long (a_pay c n K B nr U V W 1 q i)), h') ∧ fy 0 Xc h h' ∧ lG c n K P B np T C nr U V W h' := by
  obtain ⟨S, TA, AA, A, t, p, r, ww, kk, pl⟩ := s
  obtain ⟨h', x, f⟩ := co_pay t r ww kk q i
  exact ⟨h', x, lG.fr ⟨S, TA, AA, A, t, p, r, ww, kk, pl⟩ f rfl rfl (fun A z => ⟨A, cPl_fr z f rfl rfl⟩)⟩
theorem lg_odds (s : lG c n K P B np T C nr U V W h) (q j v i e part : Int32) : ∃ h', XX true 6 24 0 [.ref 64, .int (q), .int (j), .int (v), .int (i), .int (e), .int (part), ax_junk] [] (h) (some (.long (a_odds c n K P B (v_chs np T C B) q j v i e part)), h') ∧ fy 0 Xc h h' ∧ lG c n K P B np T C nr U V W h' := by
  obtain ⟨S, TA, AA, A, t, p, r, ww, kk, pl⟩ := s
  obtain ⟨h', A', x, f, z⟩ := co_odds t p pl q j v i e part
  exact ⟨h', x, lG.fr ⟨S, TA, AA, A, t, p, r, ww, kk, pl⟩ f rfl rfl (fun _ _ => ⟨A', z⟩)⟩
theorem lg_mean (s : lG c n K P B np T C nr U V W h) (q part : Int32) : ∃ h', XX true 7 57 0 [.ref 64, .int (q), .int (part), ax_junk, ax_junk, ax_junk, ax_junk, ax_junk, ax_junk, ax_junk, ax_junk, ax_junk, ax_junk] [] (h) (some (.long (a_mean c n K P B (v_chs np T C B) U V W nr 1 q part)), h') ∧ fy 0 Xc h h' ∧ lG c n K P B np T C nr U V W h' := by
  obtain ⟨S, TA, AA, A, t, p, r, ww, kk, pl⟩ := s
  obtain ⟨h', A', x, f, z⟩ := co_mean t p r ww kk pl q part
  exact ⟨h', x, lG.fr ⟨S, TA, AA, A, t, p, r, ww, kk, pl⟩ f rfl rfl (fun _ _ => ⟨A', z⟩)⟩
theorem lg_reply (s : lG c n K P B np T C nr U V W h) (q part : Int32) : ∃ h', XX true 7 63 0 [.ref 64, .int (q), .int (part)] [] (h) (some (.long (a_reply c n K P B (v_chs np T C B) U V W nr q part)), h') ∧ fy 0 Xc h h' ∧ lG c n K P B np T C nr U V W h' := by
  obtain ⟨S, TA, AA, A, t, p, r, ww, kk, pl⟩ := s
  obtain ⟨h', A', x, f, z⟩ := co_reply t p r ww pl q part
  exact ⟨h', x, lG.fr ⟨S, TA, AA, A, t, p, r, ww, kk, pl⟩ f rfl rfl (fun _ _ => ⟨A', z⟩)⟩
theorem lg_settled (s : lG c n K P B np T C nr U V W h) : ∃ h' x, XX true 7 76 0 [.ref 64, ax_junk] [] (h) (some (.int (x)), h') ∧ isSettled c n K P B (v_chs np T C B) U V W nr x ∧ fy 0 Xc h h' ∧ lG c n K P B np T C nr U V W h' := by
  obtain ⟨S, TA, AA, A, t, p, r, ww, kk, pl⟩ := s
  obtain ⟨h', A', v, x, f, z, g⟩ := co_settled t p r ww pl
  exact ⟨h', v, x, g, lG.fr ⟨S, TA, AA, A, t, p, r, ww, kk, pl⟩ f rfl rfl (fun _ _ => ⟨A', z⟩)⟩
theorem lg_better (s : lG c n K P B np T C nr U V W h) (q : Int32) : ∃ h', XX true 7 73 0 [.ref 64, .int (q), ax_junk, ax_junk, ax_junk] [] (h) (some (.int (a_better c n K P B (v_chs np T C B) U V W nr np T q)), h') ∧ fy 0 Xc h h' ∧ (isBetter c n K P B np T q → lG c n K P B (v_tla c n K P B (ix q) (v_rep c n K P B (v_chs np T C B) U V W nr (ix q)).2 (v_sM c n K P B (ix q)) (np, T, C)).1 (v_tla c n K P B (ix q) (v_rep c n K P B (v_chs np T C B) U V W nr (ix q)).2 (v_sM c n K P B (ix q)) (np, T, C)).2.1 (v_tla c n K P B (ix q) (v_rep c n K P B (v_chs np T C B) U V W nr (ix q)).2 (v_sM c n K P B (ix q)) (np, T, C)).2.2 nr U V W h') ∧ (¬ isBetter c n K P B np T q → lG c n K P B np T C nr U V W h') := by
  obtain ⟨S, TA, AA, A, t, p, r, ww, kk, pl⟩ := s
  have co := co_better t p r ww pl q
  by_cases z : isBetter c n K P B np T q
  · obtain ⟨h', A', x, f, z', g⟩ := co.1 z
    obtain ⟨y1, y2⟩ := lG.fr' ⟨S, TA, AA, A, t, p, r, ww, kk, pl⟩ f rfl g (fun _ _ => ⟨A', z'⟩)
    exact ⟨h', x, y1, fun _ => y2, fun y => absurd z y⟩
  · obtain ⟨h', A', x, f, z'⟩ := co.2 z
    obtain ⟨y1, y2⟩ := lG.fr ⟨S, TA, AA, A, t, p, r, ww, kk, pl⟩ f rfl rfl (fun _ _ => ⟨A', z'⟩)
    exact ⟨h', x, y1, fun y => absurd y z, fun _ => y2⟩
theorem lg_plan (s : lG c n K P B np T C nr U V W h) (q j v y : Int32) : ∃ h', XX true 4 45 0 [.ref 64, .int (q), .int (j), .int (v), .int (y), ax_junk] [] (h) (some (.int (a_plan c n K P B (v_chs np T C B) np T q j v y)), h') ∧ fy 0 Xc h h' ∧ (plans' c n K P B np T q j v y → lG c n K P B (v_tn np T (ix q) (ix j) (ix v)) (updN T (v_pat np T (ix q) (ix j) (ix v)) (v_key (ix q) (ix j) (ix v))) (updN C (v_pat np T (ix q) (ix j) (ix v)) (ix y)) nr U V W h') ∧ (¬ plans' c n K P B np T q j v y → lG c n K P B np T C nr U V W h') := by
  obtain ⟨S, TA, AA, A, t, p, r, ww, kk, pl⟩ := s
  have co := co_plan t p q j v y
  by_cases z : plans' c n K P B np T q j v y
  · obtain ⟨h', x, f, g⟩ := co.1 z
    obtain ⟨y1, y2⟩ := lG.fr' ⟨S, TA, AA, A, t, p, r, ww, kk, pl⟩ f rfl g (fun A z => ⟨A, cPl_fr z f rfl rfl⟩)
    exact ⟨h', x, y1, fun _ => y2, fun y => absurd z y⟩
  · obtain ⟨h', x, f⟩ := co.2 z
    obtain ⟨y1, y2⟩ := lG.fr ⟨S, TA, AA, A, t, p, r, ww, kk, pl⟩ f rfl rfl (fun A z => ⟨A, cPl_fr z f rfl rfl⟩)
    exact ⟨h', x, y1, fun y => absurd y z, fun _ => y2⟩
theorem lg_lot (s : lG c n K P B np T C nr U V W h) (z : Int32) : ∃ h', XX true 5 110 0 [.ref 64, .int (z), ax_junk, ax_junk, ax_junk, ax_junk, ax_junk] [] (h) (some (.int ((v_lot c n K P B np T C z).1)), h') ∧ fy 0 Xc h h' ∧ lG c n K P B (v_lot c n K P B np T C z).2.2.1 (v_lot c n K P B np T C z).2.2.2.1 (v_lot c n K P B np T C z).2.2.2.2 nr U V W h' := by
  obtain ⟨S, TA, AA, A, t, p, r, ww, kk, pl⟩ := s
  obtain ⟨h', x, f, g⟩ := co_lot t p z
  obtain ⟨y1, y2⟩ := lG.fr' ⟨S, TA, AA, A, t, p, r, ww, kk, pl⟩ f rfl g (fun A z => ⟨A, cPl_fr z f rfl rfl⟩)
  exact ⟨h', x, y1, y2⟩
end S88
