/-! THE LAW: its turns through ways and views -/
section S94
variable {c n np nr : Nat} {K P B T C : Nat → Nat} {U : Nat → Nat → Nat} {V W : Nat → Int} {h h1 h2 h' : AH}
/-- all stands as it should, seen from the start -/
def lS (c n : Nat) (K P B : Nat → Nat) (np : Nat) (T C : Nat → Nat) (nr : Nat) (U : Nat → Nat → Nat) (V W : Nat → Int) (k : Nat) (h h1 : AH) : Prop := fy k (fun _ => True) h h1 ∧ oS c n K P B h1 ∧ lG c n K P B np T C nr U V W h1
theorem lS.cl {k np' : Nat} {T' C' : Nat → Nat} (s : lS c n K P B np T C nr U V W k h h1) (f : fy 0 Xc h1 h2 ∧ lG c n K P B np' T' C' nr U V W h2) : lS c n K P B np' T' C' nr U V W k h h2 := ⟨s.1.trans f.1 (fun _ _ => Or.inl trivial), s.2.1.y f.1 (fun a z => by omega), f.2⟩
theorem lS.o {k k' : Nat} (s : lS c n K P B np T C nr U V W k h h1) (f : fy k' (fun _ => False) h1 h2) : lS c n K P B np T C nr U V W (k + k') h h2 := ⟨s.1.trans f (fun _ z => z.elim), s.2.1.y f (fun _ z => z.elim), s.2.2.o f (fun _ z => z.elim)⟩
theorem lS.mono {k k' : Nat} (s : lS c n K P B np T C nr U V W k h h1) (q : k ≤ k') : lS c n K P B np T C nr U V W k' h h1 := ⟨s.1.mono (fun _ z => z) q, s.2⟩
theorem lS.l {k : Nat} (s : lS c n K P B np T C nr U V W k h h1) (hL : h.2.2.2.2 < 2 ^ 31) : h1.2.2.2.2 < 2 ^ 31 := by rw [s.1.2.2.2.1]; exact hL
theorem b2i_and (p : Prop) [Decidable p] (q : Prop) [Decidable q] : b2i p &&& b2i q = b2i (p ∧ q) := by
  by_cases hp : p
  · by_cases hq : q
    · rw [b2i_t hp, b2i_t hq, b2i_t ⟨hp, hq⟩]; decide
    · rw [b2i_t hp, b2i_f hq, b2i_f (fun z => hq z.2)]; decide
  · by_cases hq : q
    · rw [b2i_f hp, b2i_t hq, b2i_f (fun z => hp z.1)]; decide
    · rw [b2i_f hp, b2i_f hq, b2i_f (fun z => hp z.1)]; decide
theorem b2i_eq {p q : Prop} [Decidable p] [Decidable q] : b2i p = b2i q ↔ (p ↔ q) := by
  by_cases hp : p
  · by_cases hq : q
    · rw [b2i_t hp, b2i_t hq]; exact ⟨fun _ => ⟨fun _ => hq, fun _ => hp⟩, fun _ => rfl⟩
    · rw [b2i_t hp, b2i_f hq]; exact ⟨fun z => absurd z (by decide), fun z => absurd (z.mp hp) hq⟩
  · by_cases hq : q
    · rw [b2i_f hp, b2i_t hq]; exact ⟨fun z => absurd z (by decide), fun z => absurd (z.mpr hq) hp⟩
    · rw [b2i_f hp, b2i_f hq]; exact ⟨fun _ => ⟨fun z => absurd z hp, fun z => absurd z hq⟩, fun _ => rfl⟩
theorem cntN_all {q : Nat → Bool} : ∀ m, cntN q m = m → ∀ i, i < m → q i = true
  | 0, _, i, hi => absurd hi (Nat.not_lt_zero _)
  | m + 1, e, i, hi => by
    have l := cntN_le q m
    have e' : cntN q m + (if q m = true then 1 else 0) = m + 1 := e
    by_cases z : q m = true
    · rw [if_pos z] at e'
      by_cases y : i = m
      · rw [y]; exact z
      · exact cntN_all m (by omega) i (by omega)
    · rw [if_neg z] at e'; omega
/-- what a player sees is alike in two ways -/
abbrev alk (c n : Nat) (K P B : Nat → Nat) (a b q j i : Nat) : Prop := ∀ e, e < i → (v_seen K P e j).testBit q = true → v_what c K B n a e = v_what c K B n b e
theorem alk_s (c n : Nat) (K P B : Nat → Nat) (a b q j i : Nat) : alk c n K P B a b q j (i + 1) ↔ alk c n K P B a b q j i ∧ ((v_seen K P i j).testBit q = true → v_what c K B n a i = v_what c K B n b i) := by
  constructor
  · intro z
    exact ⟨fun e he => z e (by omega), z i (by omega)⟩
  · intro z e he
    by_cases y : e = i
    · rw [y]; exact z.2
    · exact z.1 e (by omega)
theorem lw_see {k t a b q j : Nat} (ha : a < v_ways c K B n) (hb : b < v_ways c K B n) (hq : q < 3) (hj : j ≤ n) : ∀ m i h1, i + m = j → lS c n K P B np T C nr U V W k h h1 → ∃ h2, lS c n K P B np T C nr U V W k h h2 ∧ ∀ R, XX true 18 112 109 [.ref 48, .ref 64, .ref 153, .int (nI (v_ways c K B n)), .int (nI t), ax_junk, .int (nI a), .int (nI b), .int (nI j), .int (nI q), .int (b2i (alk c n K P B a b q j j)), .int (nI (cntN (fun e => (v_seen K P e j).testBit q) j)), .int (nI j), ax_junk, ax_junk] [] (h2) (R) → XX true 18 112 109 [.ref 48, .ref 64, .ref 153, .int (nI (v_ways c K B n)), .int (nI t), ax_junk, .int (nI a), .int (nI b), .int (nI j), .int (nI q), .int (b2i (alk c n K P B a b q j i)), .int (nI (cntN (fun e => (v_seen K P e j).testBit q) i)), .int (nI i), ax_junk, ax_junk] [] (h1) (R) := by
  intro m
  induction m with
  | zero =>
    intro i h1 hi s
    obtain rfl : i = j := hi
    exact ⟨h1, s, fun R x => x⟩
  | succ m ih =>
    intro i h1 hi s
    have n6 := s.2.1.n6
    have wn := v_ways_le s.2.1.ok (Nat.le_refl n)
    have sl : v_seen K P i j < 8 := v_seen_lt j (fun e he => (s.2.1.ok.2.2.2 e (by omega)).2.1)
    have xs := lg_seen s.2.2 (nI i) (nI j)
    unfold a_seen at xs
    rw [if_pos ⟨(isLe_nI (by omega) (by omega)).mpr hj, by rw [ix_nI (by omega)]; exact (isLt_nI (by omega) (by omega)).mpr (by omega)⟩, ix_nI (by omega), ix_nI (by omega)] at xs
    have as := alk_s c n K P B a b q j i
    by_cases z : (v_seen K P i j).testBit q = true
    · have cn : cntN (fun e => (v_seen K P e j).testBit q) (i + 1) = cntN (fun e => (v_seen K P e j).testBit q) i + 1 := cntN_yes z
      obtain ⟨h2, x2, f2⟩ := lg_happened s.2.2 (nI a) (nI i)
      have s2 := s.cl f2
      obtain ⟨h3, x3, f3⟩ := lg_happened s2.2.2 (nI b) (nI i)
      have s3 := s2.cl f3
      have ii : isLt n (nI i) := (isLt_nI (by omega) (by omega)).mpr (by omega)
      unfold a_happened at x2 x3
      rw [if_pos ⟨(isLt_nI (by omega) (by omega)).mpr ha, ii⟩, ix_nI (by omega), ix_nI (by omega)] at x2
      rw [if_pos ⟨(isLt_nI (by omega) (by omega)).mpr hb, ii⟩, ix_nI (by omega), ix_nI (by omega)] at x3
      have wa := v_what_lt s.2.1.ok (Nat.le_refl n) a (i := i) (by omega)
      have wb := v_what_lt s.2.1.ok (Nat.le_refl n) b (i := i) (by omega)
      obtain ⟨h4, s4, x4⟩ := ih (i + 1) h3 (by omega) s3
      refine ⟨h4, s4, fun R x => ?_⟩
      have go : XX true 18 112 164 [.ref 48, .ref 64, .ref 153, .int (nI (v_ways c K B n)), .int (nI t), ax_junk, .int (nI a), .int (nI b), .int (nI j), .int (nI q), ax_junk, .int (nI (cntN (fun e => (v_seen K P e j).testBit q) i + 1)), .int (nI i), ax_junk, ax_junk] [.int (b2i (v_what c K B n a i = v_what c K B n b i)), .int (b2i (alk c n K P B a b q j i))] (h3) (R) := by
        refine wb_L_law_164 ?_
        rw [b2i_and, b2i_cong (show (alk c n K P B a b q j i ∧ v_what c K B n a i = v_what c K B n b i) ↔ alk c n K P B a b q j (i + 1) from ⟨fun y => as.mpr ⟨y.1, fun _ => y.2⟩, fun y => ⟨(as.mp y).1, (as.mp y).2 z⟩⟩), ← cn]
        refine wb_L_law_167 ?_
        rw [nI_s]
        exact x4 R x
      refine wb_L_law_109 ?_
      rw [if_pos (nI_lt (by omega) (by omega))]
      refine cl_L_law_121 rfl (by decide) (xs) ?_
      refine wb_L_law_124 ?_
      refine cl_L_law_126 rfl (by decide) (so_has sl hq h1) ?_
      refine wb_L_law_129 ?_
      rw [b2i_t z, if_neg (by decide), nI_s]
      refine cl_L_law_145 rfl (by decide) (x2) ?_
      refine wb_L_law_148 ?_
      refine cl_L_law_153 rfl (by decide) (x3) ?_
      refine wb_L_law_156 ?_
      by_cases e : v_what c K B n a i = v_what c K B n b i
      · rw [if_pos (by rw [e])]
        rw [b2i_t e] at go
        exact go
      · rw [if_neg (fun y => e ((nI_eq (by omega) (by omega)).mp y))]
        rw [b2i_f e] at go
        exact go
    · have cn : cntN (fun e => (v_seen K P e j).testBit q) (i + 1) = cntN (fun e => (v_seen K P e j).testBit q) i := cntN_not z
      obtain ⟨h4, s4, x4⟩ := ih (i + 1) h1 (by omega) s
      refine ⟨h4, s4, fun R x => ?_⟩
      have x5 := x4 R x
      rw [cn, b2i_cong (show alk c n K P B a b q j (i + 1) ↔ alk c n K P B a b q j i from ⟨fun y => (as.mp y).1, fun y => as.mpr ⟨y, fun e => absurd e z⟩⟩)] at x5
      refine wb_L_law_109 ?_
      rw [if_pos (nI_lt (by omega) (by omega))]
      refine cl_L_law_121 rfl (by decide) (xs) ?_
      refine wb_L_law_124 ?_
      refine cl_L_law_126 rfl (by decide) (so_has sl hq h1) ?_
      refine wb_L_law_129 ?_
      rw [b2i_f z, if_pos rfl]
      refine wb_L_law_167 ?_
      rw [nI_s]
      exact x5
theorem a_pay_1 (g : lG c n K P B np T C nr U V W h) {p a : Nat} (hp : p < 3) (ha : a < v_ways c K B n) : a_pay c n K B nr U V W 1 (nI p) (nI a) = lI (v_pay U V W c n (v_what c K B n a) p nr) := by
  have ok := g.ok
  have wn := v_ways_le ok (Nat.le_refl n)
  have r := g.rr
  have b := v_pay_le (n := n) (c := c) (e := v_what c K B n a) r g.ww (fun i hi => v_what_lt ok (Nat.le_refl n) a hi) ok.2.1 p nr (Nat.le_refl _)
  have n8 := r.1
  unfold a_pay
  rw [if_pos ⟨⟨nI_le (Nat.zero_le _) (by omega), nI_le (by omega) (by decide)⟩, (isLt_nI (by omega) (by omega)).mpr ha⟩, ix_nI (by omega), ix_nI (by omega)]
  generalize v_pay U V W c n (v_what c K B n a) p nr = x at *
  have t := lI_toInt (z := x) (by omega) (by omega)
  have fi : v_fit (lI x) 1 := by
    unfold v_fit
    rw [t]
    omega
  rw [if_pos fi, lN_lI, ← Int64.ofInt_mul]
  congr 1
  omega
theorem lw_pay {k t a p : Nat} (s : lS c n K P B np T C nr U V W k h h1) (hp : p < 3) (ha : a < v_ways c K B n) : ∃ h2, lS c n K P B np T C nr U V W k h h2 ∧ ∀ z R, XX true 18 112 290 [.ref 48, .ref 64, .ref 153, .int (nI (v_ways c K B n)), .int (nI t), ax_junk, .int (nI a), ax_junk, ax_junk, ax_junk, ax_junk, ax_junk, .long (lI (z + v_pay U V W c n (v_what c K B n a) p nr)), ax_junk, .int (nI (p + 1))] [] (h2) (R) → XX true 18 112 290 [.ref 48, .ref 64, .ref 153, .int (nI (v_ways c K B n)), .int (nI t), ax_junk, .int (nI a), ax_junk, ax_junk, ax_junk, ax_junk, ax_junk, .long (lI z), ax_junk, .int (nI p)] [] (h1) (R) := by
  obtain ⟨h2, x2, f2⟩ := lg_pay s.2.2 (nI p) (nI a)
  rw [a_pay_1 s.2.2 hp ha] at x2
  refine ⟨h2, s.cl f2, fun z R x => ?_⟩
  refine wb_L_law_290 ?_
  rw [if_pos (nI_lt hp (by decide))]
  refine cl_L_law_303 rfl (by decide) (x2) ?_
  refine wb_L_law_306 ?_
  rw [nI_s, ← Int64.ofInt_add]
  exact x
theorem lw_win {k t a : Nat} (s : lS c n K P B np T C nr U V W k h h1) (ha : a < v_ways c K B n) : ∃ h2, lS c n K P B np T C nr U V W k h h2 ∧ ∀ R, XX true 18 112 47 [.ref 48, .ref 64, .ref 153, .int (nI (v_ways c K B n)), .int (nI (t + 1)), ax_junk, ax_junk, ax_junk, ax_junk, ax_junk, ax_junk, ax_junk, ax_junk, ax_junk, ax_junk] [] (h2) (R) → XX true 18 112 284 [.ref 48, .ref 64, .ref 153, .int (nI (v_ways c K B n)), .int (nI t), ax_junk, .int (nI a), ax_junk, ax_junk, ax_junk, ax_junk, ax_junk, ax_junk, ax_junk, ax_junk] [] (h1) (R) := by
  obtain ⟨h2, s2, x2⟩ := lw_pay (t := t) (p := 0) s (by decide) ha
  obtain ⟨h3, s3, x3⟩ := lw_pay (t := t) (p := 1) s2 (by decide) ha
  obtain ⟨h4, s4, x4⟩ := lw_pay (t := t) (p := 2) s3 (by decide) ha
  refine ⟨h4, s4, fun R x => ?_⟩
  have pz := pay_zero (c := c) (n := n) (U := U) (V := V) (W := W) s.2.2.rr (v_what c K B n a) nr (Nat.le_refl _)
  refine wb_L_law_284 ?_
  rw [show lN 0 = lI 0 from rfl]
  refine x2 0 R (x3 _ R (x4 _ R ?_))
  refine wb_L_law_290 ?_
  rw [if_neg (by decide), if_pos ((lg_eq0 _ _).mpr (by rw [Int.zero_add, pz]; rfl)), nI_s]
  exact x
theorem lw_view (s : lG c n K P B np T C nr U V W h1) {q a j : Nat} (hq : q < 3) (ha : a < v_ways c K B n) (hj : j ≤ n) : ∃ h2, XX true 2 16 0 [.ref 64, .int (nI q), .int (nI a), .int (nI j)] [] (h1) (some (.int (nI (v_pv c K P B q n a j))), h2) ∧ fy 0 Xc h1 h2 ∧ lG c n K P B np T C nr U V W h2 := by
  have wn := v_ways_le s.ok (Nat.le_refl n)
  have n6 := s.ok.2.2.1
  obtain ⟨h2, x2, f2⟩ := lg_view s (nI q) (nI a) (nI j)
  unfold a_view at x2
  rw [if_pos ⟨⟨nI_le (Nat.zero_le _) (by omega), nI_le (by omega) (by decide)⟩, (isLt_nI (by omega) (by omega)).mpr ha, (isLe_nI (by omega) (by omega)).mpr hj⟩, ix_nI (by omega), ix_nI (by omega), ix_nI (by omega)] at x2
  exact ⟨h2, x2, f2⟩
/-- how many ways look so to a player -/
abbrev v_lk2 (c : Nat) (K P B : Nat → Nat) (q j v : Nat) : Nat := cntN (fun w => decide (v_vw c K P B q j w = v)) (v_ways c K B j)
theorem cntN_cg {f g : Nat → Bool} : ∀ m, (∀ i, i < m → f i = g i) → cntN f m = cntN g m
  | 0, _ => rfl
  | m + 1, e => by
    show cntN f m + (if f m = true then 1 else 0) = cntN g m + (if g m = true then 1 else 0)
    rw [cntN_cg m (fun i hi => e i (by omega)), e m (by omega)]
theorem lw_worlds (s : lG c n K P B np T C nr U V W h1) {q j v : Nat} (hq : q < 3) (hj : j ≤ n) (hv : v < 524288) : ∃ h2, XX true 4 19 0 [.ref 64, .int (nI q), .int (nI j), .int (nI v)] [] (h1) (some (.int (nI (v_lk2 c K P B q j v))), h2) ∧ fy 0 Xc h1 h2 ∧ lG c n K P B np T C nr U V W h2 := by
  have n6 := s.ok.2.2.1
  obtain ⟨h2, x2, f2⟩ := lg_worlds s (nI q) (nI j) (nI v)
  unfold a_worlds at x2
  rw [if_pos ⟨⟨nI_le (Nat.zero_le _) (by omega), nI_le (by omega) (by decide)⟩, (isLe_nI (by omega) (by omega)).mpr hj⟩, ix_nI (by omega), ix_nI (by omega)] at x2
  rw [cntN_cg (g := fun w => decide (v_vw c K P B q j w = v)) _ (fun w hw => by
    have l := (v_vw_lt s.ok hj q w).2
    exact decide_eq_decide.mpr ⟨fun z => (nI_eq (by omega) (by omega)).mp (toI64_inj z), fun z => by rw [z]⟩)] at x2
  exact ⟨h2, x2, f2⟩
theorem lw_turn {k t : Nat} (hL : h.2.2.2.2 < 2 ^ 31) (s : lS c n K P B np T C nr U V W k h h1) (ht : t < 16) : ∃ h2, lS c n K P B np T C nr U V W k h h2 ∧ ∀ R, XX true 18 112 47 [.ref 48, .ref 64, .ref 153, .int (nI (v_ways c K B n)), .int (nI (t + 1)), ax_junk, ax_junk, ax_junk, ax_junk, ax_junk, ax_junk, ax_junk, ax_junk, ax_junk, ax_junk] [] (h2) (R) → XX true 18 112 47 [.ref 48, .ref 64, .ref 153, .int (nI (v_ways c K B n)), .int (nI t), ax_junk, ax_junk, ax_junk, ax_junk, ax_junk, ax_junk, ax_junk, ax_junk, ax_junk, ax_junk] [] (h1) (R) := by
  have ok := s.2.1.ok
  have n6 := s.2.1.n6
  have wn := v_ways_le ok (Nat.le_refl n)
  have wp := v_chn_le ok n (Nat.le_refl n)
  obtain ⟨v, hv, xv⟩ := ll_cell (h := h1) (s.l hL) (k := 20 + t) (by omega)
  have lt : ∀ k, v / 2 ^ k < 2 ^ 31 := fun k => Nat.lt_of_le_of_lt (Nat.div_le_self _ _) hv
  have ha := Nat.mod_lt v (show 0 < v_ways c K B n by omega)
  have hb := Nat.mod_lt (v / 2 ^ 9) (show 0 < v_ways c K B n by omega)
  have hj := Nat.mod_lt (v / 2 ^ 18) (show 0 < n + 1 by omega)
  have hq := Nat.mod_lt t (show 0 < 3 by decide)
  have x63 : ∀ R, XX true 18 112 109 [.ref 48, .ref 64, .ref 153, .int (nI (v_ways c K B n)), .int (nI t), ax_junk, .int (nI (v % v_ways c K B n)), .int (nI (v / 2 ^ 9 % v_ways c K B n)), .int (nI (v / 2 ^ 18 % (n + 1))), .int (nI (t % 3)), .int (nI 1), .int (nI 0), .int (nI 0), ax_junk, ax_junk] [] (h1) (R) → XX true 18 112 47 [.ref 48, .ref 64, .ref 153, .int (nI (v_ways c K B n)), .int (nI t), ax_junk, ax_junk, ax_junk, ax_junk, ax_junk, ax_junk, ax_junk, ax_junk, ax_junk, ax_junk] [] (h1) (R) := by
    intro R x
    refine wb_L_law_47 ?_
    rw [if_pos (nI_lt ht (by decide)), nI_add]
    refine cl_L_law_60 rfl (by decide) (xv) ?_
    refine wb_L_law_63 ?_
    rw [s.2.1.nn, nI_s, nI_rem hv (by omega), nI_shr hv 9 (by decide), nI_rem (lt 9) (by omega), nI_shr hv 18 (by decide), nI_rem (lt 18) (by omega), nI_rem (by omega) (by decide)]
    exact ⟨nI_nz (by omega) (by omega), nI_nz (by omega) (by omega), nI_nz (by omega) (by omega), by decide, x⟩
  generalize v % v_ways c K B n = a at *
  generalize v / 2 ^ 9 % v_ways c K B n = b at *
  generalize v / 2 ^ 18 % (n + 1) = j at *
  generalize t % 3 = q at *
  have jn : j ≤ n := by omega
  obtain ⟨h2, s2, x2⟩ := lw_see (t := t) (a := a) (b := b) (q := q) ha hb hq jn j 0 h1 (Nat.zero_add _) s
  have z0 : b2i (alk c n K P B a b q j 0) = nI 1 := b2i_t (fun e he => absurd he (Nat.not_lt_zero _))
  rw [z0] at x2
  obtain ⟨h3, r3, f3⟩ := lw_view s2.2.2 hq ha jn
  have s3 := s2.cl f3
  obtain ⟨h4, r4, f4⟩ := lw_view s3.2.2 hq hb jn
  have s4 := s3.cl f4
  obtain ⟨h5, r5, f5⟩ := lw_view s4.2.2 hq ha jn
  have s5 := s4.cl f5
  have wa := v_pre_lt ok (Nat.le_refl n) ha (n - j) j (by omega)
  have eva := v_pv_vw c K P B q n a jn
  have evb := v_pv_vw c K P B q n b jn
  have la := (v_vw_lt ok jn q (v_pre c K B n a j)).2
  have lb := (v_vw_lt ok jn q (v_pre c K B n b j)).2
  rw [← eva] at la
  rw [← evb] at lb
  obtain ⟨h6, r6, f6⟩ := lw_worlds s5.2.2 hq jn la
  have s6 := s5.cl f6
  obtain ⟨h7, r7, f7⟩ := lw_view s6.2.2 hq ha jn
  have s7 := s6.cl f7
  obtain ⟨h8, r8, f8⟩ := lw_worlds s7.2.2 hq jn la
  have s8 := s7.cl f8
  have c1 : 1 ≤ v_lk2 c K P B q j (v_pv c K P B q n a j) := by
    have := cntN_pos (q := fun w => decide (v_vw c K P B q j w = v_pv c K P B q n a j)) wa (decide_eq_true eva.symm)
    show 1 ≤ cntN _ _
    omega
  have c2 : v_lk2 c K P B q j (v_pv c K P B q n a j) ≤ v_ways c K B j := cntN_le _ _
  have wj := v_ways_le ok jn
  have vq := view_eq (K := K) (P := P) (p := q) (j := j) (e := v_what c K B n a) (e' := v_what c K B n b) j (fun e he => v_what_lt ok (Nat.le_refl n) a (by omega)) (fun e he => v_what_lt ok (Nat.le_refl n) b (by omega))
  have sn := cntN_le (fun e => (v_seen K P e j).testBit q) j
  -- both ends behind the views
  have wb : ∀ {hh : AH}, lS c n K P B np T C nr U V W k h hh → ∃ h9, lS c n K P B np T C nr U V W k h h9 ∧ ∀ R, XX true 18 112 47 [.ref 48, .ref 64, .ref 153, .int (nI (v_ways c K B n)), .int (nI (t + 1)), ax_junk, ax_junk, ax_junk, ax_junk, ax_junk, ax_junk, ax_junk, ax_junk, ax_junk, ax_junk] [] (h9) (R) → XX true 18 112 259 [.ref 48, .ref 64, .ref 153, .int (nI (v_ways c K B n)), .int (nI t), ax_junk, .int (nI a), ax_junk, .int (nI j), ax_junk, ax_junk, ax_junk, ax_junk, ax_junk, ax_junk] [] (hh) (R) := by
    intro hh sh
    obtain ⟨h9, s9, x9⟩ := lw_win (t := t) sh ha
    refine ⟨h9, s9, fun R x => ?_⟩
    refine wb_L_law_259 ?_
    by_cases z : j = 0
    · rw [z, if_pos (Int32.le_refl _)]
      exact x9 R x
    · have y1 := lg_ways sh.2.2 (nI j)
      have y2 := lg_ways sh.2.2 (nI (j - 1))
      unfold a_ways at y1 y2
      rw [if_pos ((isLe_nI (by omega) (by omega)).mpr jn), ix_nI (by omega)] at y1
      rw [if_pos ((isLe_nI (by omega) (by omega)).mpr (by omega)), ix_nI (by omega)] at y2
      have o1 := v_chn_le ok (j - 1) (by omega)
      have o2 := v_ways_le ok (j := j - 1) (by omega)
      have md : v_ways c K B j % v_ways c K B (j - 1) = 0 := by
        have : v_ways c K B j = v_ways c K B (j - 1) * v_opt c K B (j - 1) := by
          obtain ⟨i, rfl⟩ : ∃ i, j = i + 1 := ⟨j - 1, by omega⟩
          rfl
        rw [this, Nat.mul_mod_right]
      rw [if_neg (nI_p (by omega) (by omega))]
      refine cl_L_law_267 rfl (by decide) (y1) ?_
      refine wb_L_law_270 ?_
      rw [show nI j - nI 1 = nI (j - 1) from nI_subI (by omega)]
      refine cl_L_law_275 rfl (by decide) (y2) ?_
      refine wb_L_law_278 ?_
      rw [nI_rem (by omega) (by omega), md, if_pos rfl]
      exact ⟨nI_nz (by omega) (by omega), x9 R x⟩
  have go : ∀ R, XX true 18 112 224 [.ref 48, .ref 64, .ref 153, .int (nI (v_ways c K B n)), .int (nI t), ax_junk, .int (nI a), ax_junk, .int (nI j), .int (nI q), ax_junk, .int (nI (cntN (fun e => (v_seen K P e j).testBit q) j)), ax_junk, ax_junk, ax_junk] [.int (nI (v_lk2 c K P B q j (v_pv c K P B q n a j)))] (h6) (R) → XX true 18 112 47 [.ref 48, .ref 64, .ref 153, .int (nI (v_ways c K B n)), .int (nI t), ax_junk, ax_junk, ax_junk, ax_junk, ax_junk, ax_junk, ax_junk, ax_junk, ax_junk, ax_junk] [] (h1) (R) := by
    intro R x
    refine x63 R (x2 R ?_)
    refine wb_L_law_109 ?_
    rw [if_neg (nI_nlt (Nat.le_refl _) (by omega))]
    refine cl_L_law_180 rfl (by decide) (r3) ?_
    refine wb_L_law_183 ?_
    refine cl_L_law_190 rfl (by decide) (r4) ?_
    refine wb_L_law_193 ?_
    have x201 : XX true 18 112 201 [.ref 48, .ref 64, .ref 153, .int (nI (v_ways c K B n)), .int (nI t), ax_junk, .int (nI a), ax_junk, .int (nI j), .int (nI q), .int (b2i (alk c n K P B a b q j j)), .int (nI (cntN (fun e => (v_seen K P e j).testBit q) j)), ax_junk, ax_junk, ax_junk] [.int (b2i (v_pv c K P B q n a j = v_pv c K P B q n b j))] (h4) (R) := by
      refine wb_L_law_201 ?_
      rw [if_pos (b2i_cong vq)]
      refine cl_L_law_218 rfl (by decide) (r5) ?_
      refine cl_L_law_221 rfl (by decide) (r6) ?_
      exact wkj x
    by_cases z : v_pv c K P B q n a j = v_pv c K P B q n b j
    · rw [if_pos (by rw [z])]
      rw [b2i_t z] at x201
      exact x201
    · rw [if_neg (fun y => z ((nI_eq (by omega) (by omega)).mp y))]
      rw [b2i_f z] at x201
      exact x201
  by_cases z : cntN (fun e => (v_seen K P e j).testBit q) j = j
  · obtain ⟨h9, s9, x9⟩ := wb s8
    refine ⟨h9, s9, fun R x => go R ?_⟩
    have one : v_lk2 c K P B q j (v_pv c K P B q n a j) = 1 := by
      refine cntN_one wa (fun w hw => ?_)
      rw [decide_eq_true_eq]
      constructor
      · intro e
        refine what_inj ok j jn w _ hw wa (fun i hi => ?_)
        have al := cntN_all j z i hi
        have vq2 := view_eq (K := K) (P := P) (p := q) (j := j) (e := v_what c K B j w) (e' := v_what c K B j (v_pre c K B n a j)) j (fun e he => v_what_lt ok jn w he) (fun e he => v_what_lt ok jn _ he)
        exact vq2.mp (e.trans eva) i hi al
      · intro e
        rw [e, eva]
    refine wb_L_law_224 ?_
    rw [if_neg (nI_nlt (by omega) (by omega)), if_pos (by rw [z])]
    refine cl_L_law_247 rfl (by decide) (r7) ?_
    refine cl_L_law_250 rfl (by decide) (r8) ?_
    refine wb_L_law_253 ?_
    rw [if_pos (by rw [one])]
    exact x9 R x
  · obtain ⟨h9, s9, x9⟩ := wb s6
    refine ⟨h9, s9, fun R x => go R ?_⟩
    refine wb_L_law_224 ?_
    rw [if_neg (nI_nlt (by omega) (by omega)), if_neg (fun y => z ((nI_eq (by omega) (by omega)).mp y))]
    exact x9 R x
theorem lw_turns {k : Nat} (hL : h.2.2.2.2 < 2 ^ 31) : ∀ m t h1, t + m = 16 → lS c n K P B np T C nr U V W k h h1 → ∃ h2, lS c n K P B np T C nr U V W k h h2 ∧ ∀ R, XX true 18 112 333 [.ref 48, .ref 64, .ref 153, .int (nI (v_ways c K B n)), .int (nI 0), ax_junk, ax_junk, ax_junk, ax_junk, ax_junk, ax_junk, ax_junk, ax_junk, ax_junk, ax_junk] [] (h2) (R) → XX true 18 112 47 [.ref 48, .ref 64, .ref 153, .int (nI (v_ways c K B n)), .int (nI t), ax_junk, ax_junk, ax_junk, ax_junk, ax_junk, ax_junk, ax_junk, ax_junk, ax_junk, ax_junk] [] (h1) (R) := by
  intro m
  induction m with
  | zero =>
    intro t h1 ht s
    obtain rfl : t = 16 := ht
    refine ⟨h1, s, fun R x => ?_⟩
    refine wb_L_law_47 ?_
    rw [if_neg (by decide)]
    exact x
  | succ m ih =>
    intro t h1 ht s
    obtain ⟨h2, s2, x2⟩ := lw_turn hL s (t := t) (by omega)
    obtain ⟨h3, s3, x3⟩ := ih (t + 1) h2 (by omega) s2
    exact ⟨h3, s3, fun R x => x2 R (x3 R x)⟩
end S94
