/-! THE CLASS: the ways that are followed -/
theorem enumS.snoc {Q : Nat → Prop} {m : Nat} {f : Nat → Nat} (e : enumS Q m f) {v : Nat} (h : ∀ x, Q x → x < v) : enumS (fun x => Q x ∨ x = v) (m + 1) (insF f v m) := by
  refine e.ins ⟨Nat.le_refl _, fun t ht ht2 => absurd ht (by omega), ?_⟩ ?_
  · by_cases z : m = 0
    · exact Or.inl z
    · exact Or.inr (Nat.le_of_lt (h _ (e.2.1 (m - 1) (by omega))))
  · by_cases z : m = 0
    · exact Or.inl z
    · exact Or.inr (Nat.ne_of_lt (h _ (e.2.1 (m - 1) (by omega))))
theorem enumS.ge {Q : Nat → Prop} {m : Nat} {f : Nat → Nat} (e : enumS Q m f) : ∀ t, t < m → t ≤ f t
  | 0, _ => Nat.zero_le _
  | t + 1, h => by
    have a := enumS.ge e t (by omega)
    have b := e.1 t (t + 1) (by omega) h
    omega
theorem enumS.split {pl : Nat → Bool} {W m : Nat} {f : Nat → Nat} (e : enumS (fun x => x < W + 1 ∧ pl x = true) m f) : (pl W = true → ∃ m', m = m' + 1 ∧ f m' = W ∧ enumS (fun x => x < W ∧ pl x = true) m' f) ∧ (¬ pl W = true → enumS (fun x => x < W ∧ pl x = true) m f) := by
  constructor
  · intro q
    obtain ⟨t, ht, et⟩ := e.2.2 W ⟨by omega, q⟩
    have tm : t = m - 1 := by
      apply Classical.byContradiction
      intro z
      have a := e.1 t (m - 1) (by omega) (by omega)
      have b := (e.2.1 (m - 1) (by omega)).1
      omega
    refine ⟨m - 1, by omega, by rw [← tm]; exact et, fun s t' h1 h2 => e.1 s t' h1 (by omega), fun s hs => ?_, fun x hx => ?_⟩
    · have a := e.1 s (m - 1) hs (by omega)
      rw [← tm, et] at a
      exact ⟨a, (e.2.1 s (by omega)).2⟩
    · obtain ⟨s, hs, es⟩ := e.2.2 x ⟨by omega, hx.2⟩
      refine ⟨s, ?_, es⟩
      have : s ≠ m - 1 := by
        rintro rfl
        rw [← tm, et] at es
        omega
      omega
  · intro q
    exact e.congr (fun x => ⟨fun h => ⟨by
      by_cases z : x = W
      · rw [z] at h; exact absurd h.2 q
      · omega, h.2⟩, fun h => ⟨by omega, h.2⟩⟩)
theorem enumS.cnt {pl : Nat → Bool} (a : Nat → Bool) : ∀ {W m : Nat} {f : Nat → Nat}, enumS (fun x => x < W ∧ pl x = true) m f → cntN (fun t => a (f t)) m = cntN (fun w => a w && pl w) W := by
  intro W
  induction W with
  | zero =>
    intro m f e
    have : m = 0 := by
      apply Classical.byContradiction
      intro z
      exact Nat.not_lt_zero _ (e.2.1 0 (by omega)).1
    subst this
    rfl
  | succ W ih =>
    intro m f e
    by_cases q : pl W = true
    · obtain ⟨m', rfl, ef, e'⟩ := e.split.1 q
      show cntN (fun t => a (f t)) m' + (if a (f m') = true then 1 else 0) = cntN (fun w => a w && pl w) W + (if (a W && pl W) = true then 1 else 0)
      rw [ih e', ef, q, Bool.and_true]
    · have e' := e.split.2 q
      show _ = cntN (fun w => a w && pl w) W + (if (a W && pl W) = true then 1 else 0)
      rw [ih e', Bool.eq_false_iff.mpr q, Bool.and_false, if_neg (by decide), Nat.add_zero]
theorem enumS.sum {pl : Nat → Bool} (a : Nat → Int) : ∀ {W m : Nat} {f : Nat → Nat}, enumS (fun x => x < W ∧ pl x = true) m f → sumZ (fun t => a (f t)) m = sumZ (fun w => if pl w = true then a w else 0) W := by
  intro W
  induction W with
  | zero =>
    intro m f e
    have : m = 0 := by
      apply Classical.byContradiction
      intro z
      exact Nat.not_lt_zero _ (e.2.1 0 (by omega)).1
    subst this
    rfl
  | succ W ih =>
    intro m f e
    by_cases q : pl W = true
    · obtain ⟨m', rfl, ef, e'⟩ := e.split.1 q
      show sumZ (fun t => a (f t)) m' + a (f m') = sumZ (fun w => if pl w = true then a w else 0) W + (if pl W = true then a W else 0)
      rw [ih e', ef, if_pos q]
    · have e' := e.split.2 q
      show _ = sumZ (fun w => if pl w = true then a w else 0) W + (if pl W = true then a W else 0)
      rw [ih e', if_neg q, Int.add_zero]
theorem v_pl_congr {K P : Nat → Nat} {ch : Nat → Nat → Nat → Nat} {but : Nat} {e e' : Nat → Nat} : ∀ i, (∀ a, a < i → e a = e' a) → v_pl K P ch but e i = v_pl K P ch but e' i
  | 0, _ => rfl
  | i + 1, h => by
    show (v_pl K P ch but e i && _) = (v_pl K P ch but e' i && _)
    rw [v_pl_congr i (fun a ha => h a (by omega)), h i (by omega), v_view_congr K P (P i) i i (fun a ha => h a (by omega))]
/-- a way that is followed -/
def flQ (c : Nat) (K P B : Nat → Nat) (ch : Nat → Nat → Nat → Nat) (but j : Nat) (w : Nat) : Prop := w < v_ways c K B j ∧ v_pl K P ch but (v_what c K B j w) j = true
theorem flQ_step {c n : Nat} {K P B : Nat → Nat} (s : okS c n K P B) (ch : Nat → Nat → Nat → Nat) (but : Nat) {i : Nat} (hi : i < n) (w x : Nat) (hx : x < v_opt c K B i) : flQ c K P B ch but (i + 1) (w * v_opt c K B i + x) ↔ flQ c K P B ch but i w ∧ (isChc (K i) ∧ P i ≠ but → x = ch (P i) i (v_vw c K P B (P i) i w)) := by
  have op := v_opt_pos s hi
  have d1 : (w * v_opt c K B i + x) / v_opt c K B i = w := by rw [Nat.mul_comm, Nat.mul_add_div (by omega), Nat.div_eq_of_lt hx, Nat.add_zero]
  have d2 : (w * v_opt c K B i + x) % v_opt c K B i = x := by rw [Nat.mul_comm, Nat.mul_add_mod, Nat.mod_eq_of_lt hx]
  have ew : ∀ a, a < i → v_what c K B (i + 1) (w * v_opt c K B i + x) a = v_what c K B i w a := by
    intro a ha
    show (if a = i then _ else v_what c K B i ((w * v_opt c K B i + x) / v_opt c K B i) a) = _
    rw [if_neg (by omega), d1]
  have ei : v_what c K B (i + 1) (w * v_opt c K B i + x) i = v_evt c K B i (w * v_opt c K B i + x) := if_pos rfl
  have e1 : (w * v_opt c K B i + x < v_ways c K B (i + 1)) ↔ w < v_ways c K B i := by
    show _ < v_ways c K B i * v_opt c K B i ↔ _
    constructor
    · intro h
      apply Classical.byContradiction
      intro z
      have : v_ways c K B i * v_opt c K B i ≤ w * v_opt c K B i := Nat.mul_le_mul_right _ (by omega)
      omega
    · intro h
      have : (w + 1) * v_opt c K B i ≤ v_ways c K B i * v_opt c K B i := Nat.mul_le_mul_right _ h
      rw [Nat.succ_mul] at this
      omega
  have e2 : v_pl K P ch but (v_what c K B (i + 1) (w * v_opt c K B i + x)) (i + 1) = true ↔ v_pl K P ch but (v_what c K B i w) i = true ∧ (isChc (K i) ∧ P i ≠ but → x = ch (P i) i (v_vw c K P B (P i) i w)) := by
    show (v_pl K P ch but (v_what c K B (i + 1) (w * v_opt c K B i + x)) i && (decide (¬ isChc (K i)) || decide (P i = but) || decide (v_what c K B (i + 1) (w * v_opt c K B i + x) i = ch (P i) i (v_view K P (P i) i (v_what c K B (i + 1) (w * v_opt c K B i + x)) i)))) = true ↔ _
    rw [v_pl_congr i ew, v_view_congr K P (P i) i i ew, ei, Bool.and_eq_true]
    refine and_congr Iff.rfl ?_
    by_cases q : isChc (K i)
    · have ev : v_evt c K B i (w * v_opt c K B i + x) = x := by
        unfold v_evt
        rw [if_neg (fun z => by rcases q with q | q <;> rcases z with z | z <;> omega), d2]
      rw [ev]
      by_cases p : P i = but
      · simp [p]
      · simp [q, p]
    · simp [q]
  unfold flQ
  rw [e1, e2]
  exact ⟨fun z => ⟨⟨z.1, z.2.1⟩, z.2.2⟩, fun z => ⟨z.1.1, z.1.2, z.2⟩⟩
/-- the two rows of ways -/
theorem plR : ∀ A, A = 130 ∨ A = 131 → ∀ h : AH, dA h A 1620 ∧ (∀ x, gI h A x = hI h A x) ∧ ∀ x, ax_wok true A x = true := by
  rintro A (rfl | rfl) h
  · exact ⟨⟨by decide, rfl, rfl⟩, fun _ => rfl, fun _ => rfl⟩
  · exact ⟨⟨by decide, rfl, rfl⟩, fun _ => rfl, fun _ => rfl⟩
/-- the play's rows: A the one that is followed -/
def cPl (A : Nat) (h : AH) : Prop := (A = 130 ∨ A = 131) ∧ hR h 129 0 = rf A ∧ hR h 129 1 = rf (261 - A)
def cFo (A m : Nat) (f : Nat → Nat) (h : AH) : Prop := cPl A h ∧ hI h 129 2 = nI m ∧ ∀ t, t < m → hI h A t = nI (f t)
theorem cPl_fr {A : Nat} {h h' : AH} (s : cPl A h) {L : List (Nat × Option Nat)} (f : fr L h h') (q0 : inS L 129 0 = false) (q1 : inS L 129 1 = false) : cPl A h' := ⟨s.1, (f.R q0).trans s.2.1, (f.R q1).trans s.2.2⟩
theorem cFo_fr {A m : Nat} {f : Nat → Nat} {h h' : AH} (s : cFo A m f h) {L : List (Nat × Option Nat)} (r : fr L h h') (q : outS 129 132 L = true) : cFo A m f h' := by
  have := s.1.1
  exact ⟨cPl_fr s.1 r (outS_in q (by omega) (by omega) _) (outS_in q (by omega) (by omega) _), (r.I (outS_in q (by omega) (by omega) _)).trans s.2.1, fun t ht => (r.I (outS_in q (by omega) (by omega) _)).trans (s.2.2 t ht)⟩
abbrev cfF : List (Nat × Option Nat) := [(86, none), (130, none), (131, none), (129, some 0), (129, some 1), (129, some 2)]
section S67
variable {c n np nr : Nat} {K P B S T C : Nat → Nat} {h h' : AH}
/-- inside a step: the new row's content -/
def stI (c : Nat) (K P B : Nat → Nat) (ch : Nat → Nat → Nat → Nat) (but i A m : Nat) (f : Nat → Nat) (b z : Nat) (g : Nat → Nat) (h h1 : AH) : Prop := fr [(86, none), (261 - A, none)] h h1 ∧ cFo A m f h1 ∧ enumS (fun x => flQ c K P B ch but (i + 1) x ∧ x < b) z g ∧ ∀ t, t < z → hI h1 (261 - A) t = nI (g t)
theorem sp_step_in (s : tS 0 c n K P B S h) {ch : Nat → Nat → Nat → Nat} {but i A m : Nat} {f : Nat → Nat} (hi : i < n) {w t : Nat} (hw : f t = w) (ht : t < m) (hm : m ≤ 1620) (wl : w < v_ways c K B i) (fq : flQ c K P B ch but i w) {pv cv : Int32} (hc : ∀ x, x < v_opt c K B i → ((cv = -nI 1 ∨ cv = nI x) ↔ (isChc (K i) ∧ P i ≠ but → x = ch (P i) i (v_vw c K P B (P i) i w)))) : ∀ k x, x + k = v_opt c K B i → ∀ z g h1, stI c K P B ch but i A m f (w * v_opt c K B i + x) z g h h1 → ∃ z' g' h2, stI c K P B ch but i A m f ((w + 1) * v_opt c K B i) z' g' h h2 ∧ ∀ R, XX true 4 27 60 [.ref 129, .ref 65, .int (nI i), ax_junk, rf (S i), .int (nI (v_opt c K B i)), .int (pv), .int (nI z'), .int (nI (t + 1)), ax_junk, ax_junk] [] (h2) (R) → XX true 4 27 113 [.ref 129, .ref 65, .int (nI i), ax_junk, rf (S i), .int (nI (v_opt c K B i)), .int (pv), .int (nI z), .int (nI t), .int (cv), .int (nI x)] [] (h1) (R) := by
  have h6 := s.n6
  have op := v_opt_pos s.ok hi
  have wl2 := v_ways_le s.ok (j := i + 1) (by omega)
  intro k
  induction k with
  | zero =>
    intro x hx z g h1 I
    obtain rfl : x = v_opt c K B i := hx
    rw [Nat.succ_mul]
    refine ⟨z, g, h1, I, fun R u => ?_⟩
    refine wb_X4_step_113 ?_
    rw [if_neg (nI_nlt (Nat.le_refl _) (by omega)), nI_s]
    exact u
  | succ k ih =>
    intro x hx z g h1 I
    obtain ⟨I1, I2, I3, I4⟩ := I
    have A2 := I2.1.1
    have st := flQ_step s.ok ch but hi w x (by omega)
    have vlt : w * v_opt c K B i + x < v_ways c K B (i + 1) := by
      show _ < v_ways c K B i * v_opt c K B i
      have : (w + 1) * v_opt c K B i ≤ v_ways c K B i * v_opt c K B i := Nat.mul_le_mul_right _ wl
      rw [Nat.succ_mul] at this
      omega
    have nb : w * v_opt c K B i + x + 1 = w * v_opt c K B i + (x + 1) := by omega
    by_cases q : cv = -nI 1 ∨ cv = nI x
    · have fx : flQ c K P B ch but (i + 1) (w * v_opt c K B i + x) := st.mpr ⟨fq, (hc x (by omega)).mp q⟩
      have zl : z ≤ w * v_opt c K B i + x := by
        by_cases z0 : z = 0
        · omega
        · have a := I3.ge (z - 1) (by omega)
          have b := (I3.2.1 (z - 1) (by omega)).2
          omega
      have en := (I3.snoc (v := w * v_opt c K B i + x) (fun y hy => hy.2)).congr (fun y => (show ((flQ c K P B ch but (i + 1) y ∧ y < w * v_opt c K B i + x) ∨ y = w * v_opt c K B i + x) ↔ (flQ c K P B ch but (i + 1) y ∧ y < w * v_opt c K B i + (x + 1)) from ⟨fun h => h.elim (fun h => ⟨h.1, by omega⟩) (fun h => ⟨by rw [h]; exact fx, by omega⟩), fun h => by
        by_cases e : y = w * v_opt c K B i + x
        · exact Or.inr e
        · exact Or.inl ⟨h.1, by omega⟩⟩))
      have f1 : fr [(261 - A, none)] h1 (ax_wr h1 (261 - A) z (.int (nI (w * v_opt c K B i + x)))) := fr.wr (by simp [inS])
      obtain ⟨z', g', h2, J, u2⟩ := ih (x + 1) (by omega) (z + 1) _ (ax_wr h1 (261 - A) z (.int (nI (w * v_opt c K B i + x)))) ⟨I1.trans (f1.mono (by simp [subS])), ⟨cPl_fr I2.1 f1 (by simp [inS]; omega) (by simp [inS]; omega), (f1.I (by simp [inS]; omega)).trans I2.2.1, fun a ha => (f1.I (by simp [inS]; omega)).trans (I2.2.2 a ha)⟩, en, fun a ha => by
        by_cases e : a = z
        · rw [e, wr_I]
          unfold insF
          rw [if_neg (Nat.lt_irrefl _), if_pos rfl]
        · rw [wr_Ij e]
          unfold insF
          rw [if_pos (show a < z by omega)]
          exact I4 a (by omega)⟩
      refine ⟨z', g', h2, J, fun R u => ?_⟩
      have r1 := plR A A2 h1
      have r2 := plR (261 - A) (by omega) h1
      have g133 : XX true 4 27 133 [.ref 129, .ref 65, .int (nI i), ax_junk, rf (S i), .int (nI (v_opt c K B i)), .int (pv), .int (nI z), .int (nI t), .int (cv), .int (nI x)] [] (h1) (R) := by
        refine wb_X4_step_133 ?_
        rw [if_pos (nI_lt (by omega) (by omega))]
        refine ⟨_, I2.1.2.2, _, I2.1.2.1, 1620, r1.1, in_nI (by omega) (by decide), 1620, r2.1, in_nI (by omega) (by decide), r2.2.2 _, ?_⟩
        rw [r1.2.1, ix_nI (by omega), ix_nI (by omega), I2.2.2 t ht, hw, nI_mulI, nI_s, nI_add]
        refine wb_X4_step_164 ?_
        rw [nI_s]
        exact u2 R u
      refine wb_X4_step_113 ?_
      rw [if_pos (nI_lt (by omega) (by omega))]
      by_cases q1 : cv = -nI 1
      · rw [if_pos q1]
        exact g133
      · rw [if_neg q1, if_pos (q.resolve_left q1)]
        exact g133
    · have nf : ¬ flQ c K P B ch but (i + 1) (w * v_opt c K B i + x) := fun y => q ((hc x (by omega)).mpr (st.mp y).2)
      have en := I3.congr (fun y => (show (flQ c K P B ch but (i + 1) y ∧ y < w * v_opt c K B i + x) ↔ (flQ c K P B ch but (i + 1) y ∧ y < w * v_opt c K B i + (x + 1)) from ⟨fun h => ⟨h.1, by omega⟩, fun h => ⟨h.1, by
        by_cases e : y = w * v_opt c K B i + x
        · rw [e] at h; exact absurd h.1 nf
        · omega⟩⟩))
      obtain ⟨z', g', h2, J, u2⟩ := ih (x + 1) (by omega) z g h1 ⟨I1, I2, en, I4⟩
      refine ⟨z', g', h2, J, fun R u => ?_⟩
      refine wb_X4_step_113 ?_
      rw [if_pos (nI_lt (by omega) (by omega)), if_neg (fun y => q (Or.inl y)), if_neg (fun y => q (Or.inr y))]
      refine wb_X4_step_164 ?_
      rw [nI_s]
      exact u2 R u
theorem sp_step (s : tS 0 c n K P B S h) (tt : cP 0 np T C h) {but i A m : Nat} {f : Nat → Nat} (hi : i < n) {b : Int32} (hb : ∀ x, x < 3 → (nI x = b ↔ x = but)) (fo : cFo A m f h) (en : enumS (flQ c K P B (v_chs np T C B) but i) m f) : ∃ h' g' z', XX true 4 27 0 [.ref 129, .ref 65, .int (nI i), .int (b), ax_junk, ax_junk, ax_junk, ax_junk, ax_junk, ax_junk, ax_junk] [] (h) (none, h') ∧ fr cfF h h' ∧ cFo (261 - A) z' g' h' ∧ enumS (flQ c K P B (v_chs np T C B) but (i + 1)) z' g' := by
  have h6 := s.n6
  have op := v_opt_pos s.ok hi
  have wl := v_ways_le s.ok (j := i) (by omega)
  have wl2 := v_ways_le s.ok (j := i + 1) (by omega)
  have st := (s.st i hi).2
  have kk := s.kk hi
  have A2 := fo.1.1
  have ml : m ≤ 1620 := by
    by_cases z : m = 0
    · omega
    · have a := en.ge (m - 1) (by omega)
      have b := (en.2.1 (m - 1) (by omega)).1
      omega
  have fm : ∀ a a', a < a' → a' < m → f a + 1 ≤ f a' := fun a a' h1 h2 => en.1 a a' h1 h2
  have ws : ∀ w, w < v_ways c K B i → (w + 1) * v_opt c K B i ≤ v_ways c K B (i + 1) := fun w hw => Nat.mul_le_mul_right _ hw
  -- the loop over the ways
  have lp : ∀ k t, t + k = m → ∀ z g h1 bb, stI c K P B (v_chs np T C B) but i A m f bb z g h h1 → (∀ x, flQ c K P B (v_chs np T C B) but (i + 1) x → bb ≤ x → ∃ a, t ≤ a ∧ a < m ∧ x / v_opt c K B i = f a) → (∀ a, t ≤ a → a < m → bb ≤ f a * v_opt c K B i) → ∃ h' g' z', XX true 4 27 60 [.ref 129, .ref 65, .int (nI i), ax_junk, rf (S i), .int (nI (v_opt c K B i)), .int (b2i (isChc (K i) ∧ P i ≠ but)), .int (nI z), .int (nI t), ax_junk, ax_junk] [] (h1) ((none, h')) ∧ fr cfF h h' ∧ cFo (261 - A) z' g' h' ∧ enumS (flQ c K P B (v_chs np T C B) but (i + 1)) z' g' := by
    intro k
    induction k with
    | zero =>
      intro t ht z g h1 bb I no _
      obtain rfl : t = m := ht
      obtain ⟨I1, I2, I3, I4⟩ := I
      have e2 := I3.congr (fun x => (show (flQ c K P B (v_chs np T C B) but (i + 1) x ∧ x < bb) ↔ flQ c K P B (v_chs np T C B) but (i + 1) x from ⟨fun q => q.1, fun q => ⟨q, by
        apply Classical.byContradiction
        intro y
        obtain ⟨a, a1, a2, _⟩ := no x q (by omega)
        omega⟩⟩))
      refine ⟨ax_wr (ax_wr (ax_wr h1 129 0 (rf (261 - A))) 129 1 (rf A)) 129 2 (.int (nI z)), g, z, ?_, ?_, ⟨⟨by omega, ?_, ?_⟩, wr_I _ _ _ _, fun a ha => ?_⟩, e2⟩
      · refine wb_X4_step_60 ?_
        rw [I2.2.1, if_neg (nI_nlt (Nat.le_refl _) (by omega))]
        exact ⟨A, I2.1.2.1, 261 - A, I2.1.2.2, rfl⟩
      · have sb : subS [(86, none), (261 - A, none)] cfF = true := by
          rcases A2 with rfl | rfl <;> rfl
        exact (((I1.mono sb).wr' rfl).wr' rfl).wr' rfl
      · rw [wr_Rj (by decide), wr_Rj (by decide), wr_R, toR_rf]
      · rw [wr_Rj (by decide), wr_R, toR_rf, show 261 - (261 - A) = A by omega]
      · rw [wr_Ia (by omega), wr_Ia (by omega), wr_Ia (by omega)]
        exact I4 a ha
    | succ k ih =>
      intro t ht z g h1 bb I no up
      obtain ⟨I1, I2, I3, I4⟩ := I
      have fq := en.2.1 t (by omega)
      have I3' := I3.congr (fun x => (show (flQ c K P B (v_chs np T C B) but (i + 1) x ∧ x < bb) ↔ (flQ c K P B (v_chs np T C B) but (i + 1) x ∧ x < f t * v_opt c K B i + 0) from ⟨fun q => ⟨q.1, by have := up t (Nat.le_refl _) (by omega); omega⟩, fun q => ⟨q.1, by
        apply Classical.byContradiction
        intro y
        obtain ⟨a, a1, a2, a3⟩ := no x q.1 (by omega)
        have : f t ≤ f a := by
          by_cases e : a = t
          · rw [e]; exact Nat.le_refl _
          · have := fm t a (by omega) a2; omega
        have m1 : f t * v_opt c K B i ≤ f a * v_opt c K B i := Nat.mul_le_mul_right _ this
        have m2 := Nat.div_mul_le_self x (v_opt c K B i)
        rw [a3] at m2
        omega⟩⟩))
      -- once it is known what is chosen
      have go : ∀ h2, fr [(86, none)] h1 h2 → ∀ cv : Int32, (∀ x, x < v_opt c K B i → ((cv = -nI 1 ∨ cv = nI x) ↔ (isChc (K i) ∧ P i ≠ but → x = v_chs np T C B (P i) i (v_vw c K P B (P i) i (f t))))) → ∃ h' g' z', XX true 4 27 108 [.ref 129, .ref 65, .int (nI i), ax_junk, rf (S i), .int (nI (v_opt c K B i)), .int (b2i (isChc (K i) ∧ P i ≠ but)), .int (nI z), .int (nI t), ax_junk, ax_junk] [.int (cv)] (h2) ((none, h')) ∧ fr cfF h h' ∧ cFo (261 - A) z' g' h' ∧ enumS (flQ c K P B (v_chs np T C B) but (i + 1)) z' g' := by
        intro h2 f2 cv hc
        have J : stI c K P B (v_chs np T C B) but i A m f (f t * v_opt c K B i + 0) z g h h2 := ⟨I1.trans (f2.mono (by simp [subS])), cFo_fr I2 f2 rfl, I3', fun a ha => (f2.I (by simp [inS]; omega)).trans (I4 a ha)⟩
        obtain ⟨z2, g2, h3, J2, u2⟩ := sp_step_in s hi (w := f t) rfl (t := t) (by omega) ml fq.1 fq (pv := b2i (isChc (K i) ∧ P i ≠ but)) hc (v_opt c K B i) 0 (by omega) z g h2 J
        obtain ⟨h', g', z', x, y⟩ := ih (t + 1) (by omega) z2 g2 h3 ((f t + 1) * v_opt c K B i) J2 (fun x qx lx => by
          have m1 := ws (f t) fq.1
          rw [Nat.succ_mul] at lx
          obtain ⟨a, a1, a2, a3⟩ := no x qx (by have := up t (Nat.le_refl _) (by omega); omega)
          refine ⟨a, ?_, a2, a3⟩
          by_cases e : a = t
          · rw [e] at a3
            have := Nat.div_add_mod x (v_opt c K B i)
            have ml := Nat.mod_lt x (show 0 < v_opt c K B i by omega)
            rw [a3, Nat.mul_comm] at this
            omega
          · omega) (fun a a1 a2 => Nat.mul_le_mul_right _ (fm t a (by omega) a2))
        refine ⟨h', g', z', ?_, y⟩
        refine wb_X4_step_108 ?_
        exact u2 _ x
      by_cases pl : isChc (K i) ∧ P i ≠ but
      · have s1 : tS 0 c n K P B S h1 := s.fr I1 (by rcases A2 with rfl | rfl <;> rfl) (by rcases A2 with rfl | rfl <;> rfl)
        have st1 := (s1.st i hi).2
        obtain ⟨h2, r2, f2, _⟩ := sp_sightOf s1 kk.2.1 (j := i) (by omega) (w := f t) fq.1
        have s2 : tS 0 c n K P B S h2 := s1.fr f2 rfl rfl
        have t2 : cP 0 np T C h2 := cP_fr (cP_fr tt I1 (by rcases A2 with rfl | rfl <;> rfl)) f2 rfl
        have vl := (v_vw_lt s.ok (j := i) (by omega) (P i) (f t)).2
        have oc := chc_opt s.ok hi pl.1
        have cl := v_chs_lt (np := np) (T := T) (C := C) (p := P i) (j := i) (v := v_vw c K P B (P i) i (f t)) (show 1 ≤ B i by omega)
        obtain ⟨h', g', z', x, y⟩ := go h2 f2 (nI (v_chs np T C B (P i) i (v_vw c K P B (P i) i (f t)))) (fun x hx => ⟨fun q _ => ((nI_eq (by omega) (by omega)).mp (q.resolve_left (nI_ne1 (by omega)))).symm, fun q => Or.inr (congrArg nI (q pl).symm)⟩)
        refine ⟨h', g', z', ?_, y⟩
        have rA := plR A A2 h1
        refine wb_X4_step_60 ?_
        rw [I2.2.1, if_pos (nI_lt (by omega) (by omega)), b2i_t pl, if_neg (by decide)]
        refine ⟨st1.o, st1.o, A, I2.1.2.1, 1620, rA.1, in_nI (by omega) (by decide), ?_⟩
        rw [rA.2.1, ix_nI (by omega), I2.2.2 t (by omega), st1.p]
        refine cl_X4_step_98 rfl (by decide) (r2) ?_
        refine cl_X4_step_101 rfl (by decide) (sp_choice s2 t2 (by omega) hi vl) ?_
        refine wb_X4_step_104 ?_
        rw [b2i_t pl] at x
        exact x
      · obtain ⟨h', g', z', x, y⟩ := go h1 fr.rfl' (-nI 1) (fun x hx => ⟨fun _ q => absurd q pl, fun _ => Or.inl rfl⟩)
        refine ⟨h', g', z', ?_, y⟩
        refine wb_X4_step_60 ?_
        rw [I2.2.1, if_pos (nI_lt (by omega) (by omega)), b2i_f pl, if_pos rfl]
        rw [b2i_f pl] at x
        exact x
  obtain ⟨h', g, z, x, y⟩ := lp m 0 (by omega) 0 id h 0 ⟨fr.rfl', fo, enumS.nil _ (fun x q => Nat.not_lt_zero _ q.2), fun a ha => absurd ha (Nat.not_lt_zero _)⟩ (fun x q _ => by
    have d := Nat.div_add_mod x (v_opt c K B i)
    have ml := Nat.mod_lt x (show 0 < v_opt c K B i by omega)
    have fq := (flQ_step s.ok (v_chs np T C B) but hi (x / v_opt c K B i) (x % v_opt c K B i) ml).mp (by
      rw [Nat.mul_comm, d]
      exact q)
    obtain ⟨a, a1, a2⟩ := en.2.2 _ fq.1
    exact ⟨a, Nat.zero_le _, a1, a2.symm⟩) (fun a _ _ => Nat.zero_le _)
  refine ⟨h', g, z, ?_, y⟩
  have g52 : XX true 4 27 52 [.ref 129, .ref 65, .int (nI i), ax_junk, rf (S i), .int (nI (v_opt c K B i)), ax_junk, ax_junk, ax_junk, ax_junk, ax_junk] [.int (b2i (isChc (K i) ∧ P i ≠ but))] (h) ((none, h')) := by
    refine wb_X4_step_52 ?_
    exact x
  refine wb_X4_step_0 ?_
  refine cl_X4_step_5 rfl (by decide) (sp_t_atN s hi) ?_
  refine wb_X4_step_8 ?_
  rw [if_neg st.n9, ix_nI (by omega), s.fan i hi]
  refine ⟨in_nI (by omega) (by decide), st.o, K i, st.k, ?_⟩
  refine cl_X4_step_32 rfl (by decide) (sp_kChoice kk.1 h) ?_
  refine ⟨kO _ kk.1 h, ?_⟩
  refine wb_X4_step_35 ?_
  by_cases q : isChc (K i)
  · rw [b2i_t q, if_neg (by decide)]
    refine ⟨st.o, ?_⟩
    rw [st.p]
    by_cases p : P i = but
    · rw [if_pos ((hb _ kk.2.1).mpr p)]
      rw [b2i_f (fun z => z.2 p)] at g52
      refine wb_X4_step_51 ?_
      exact g52
    · rw [if_neg (fun z => p ((hb _ kk.2.1).mp z))]
      rw [b2i_t ⟨q, p⟩] at g52
      exact g52
  · rw [b2i_f q, if_pos rfl]
    rw [b2i_f (fun z => q z.1)] at g52
    refine wb_X4_step_51 ?_
    exact g52
theorem sp_follow (s : tS 0 c n K P B S h) (tt : cP 0 np T C h) {but j A : Nat} (hj : j ≤ n) {b : Int32} (hb : ∀ x, x < 3 → (nI x = b ↔ x = but)) (fo : cPl A h) : ∃ h' A' m f, XX true 5 26 0 [.ref 129, .ref 65, .int (nI j), .int (b), ax_junk] [] (h) (none, h') ∧ fr cfF h h' ∧ cFo A' m f h' ∧ enumS (flQ c K P B (v_chs np T C B) but j) m f := by
  have h6 := s.n6
  have lp : ∀ k i, i + k = j → ∀ h1 A m f, fr cfF h h1 → cFo A m f h1 → enumS (flQ c K P B (v_chs np T C B) but i) m f → ∃ h' A' m f, XX true 5 26 15 [.ref 129, .ref 65, .int (nI j), .int (b), .int (nI i)] [] (h1) ((none, h')) ∧ fr cfF h h' ∧ cFo A' m f h' ∧ enumS (flQ c K P B (v_chs np T C B) but j) m f := by
    intro k
    induction k with
    | zero =>
      intro i hi h1 A m f r c1 e
      obtain rfl : i = j := hi
      refine ⟨h1, A, m, f, ?_, r, c1, e⟩
      refine wb_X4_follow_15 ?_
      rw [if_neg (nI_nlt (Nat.le_refl _) (by omega))]
    | succ k ih =>
      intro i hi h1 A m f r c1 e
      have s1 : tS 0 c n K P B S h1 := s.fr r rfl rfl
      obtain ⟨h2, g, z, r2, f2, c2, e2⟩ := sp_step s1 (cP_fr tt r rfl) (i := i) (by omega) hb c1 e
      obtain ⟨h', A', m', f', x, y⟩ := ih (i + 1) (by omega) h2 (261 - A) z g (r.trans f2) c2 e2
      refine ⟨h', A', m', f', ?_, y⟩
      refine wb_X4_follow_15 ?_
      rw [if_pos (nI_lt (by omega) (by omega))]
      refine cl_X4_follow_26 rfl (by decide) (r2) ?_
      refine wb_X4_follow_29 ?_
      rw [nI_s]
      exact x
  have A2 := fo.1
  have rA := plR A A2 h
  have f0 : fr [(A, none), (129, some 2)] h (ax_wr (ax_wr h A 0 (.int (nI 0))) 129 2 (.int (nI 1))) := (fr.wr (by simp [inS])).wr' (by simp [inS])
  have c0 : cFo A 1 (fun _ => 0) (ax_wr (ax_wr h A 0 (.int (nI 0))) 129 2 (.int (nI 1))) := ⟨cPl_fr fo f0 (by simp [inS]; omega) (by simp [inS]; omega), wr_I _ _ _ _, fun t ht => by
    obtain rfl : t = 0 := by omega
    rw [wr_Ia (by omega), wr_I]⟩
  have e0 : enumS (flQ c K P B (v_chs np T C B) but 0) 1 (fun _ => 0) := ⟨fun s t h1 h2 => absurd h1 (by omega), fun t _ => ⟨Nat.zero_lt_one, rfl⟩, fun x q => ⟨0, by decide, by
    have := q.1
    have e : v_ways c K B 0 = 1 := rfl
    rw [e] at this
    show 0 = x
    omega⟩⟩
  obtain ⟨h', A', m', f', x, y⟩ := lp j 0 (by omega) _ A 1 _ (f0.mono (by rcases A2 with rfl | rfl <;> rfl)) c0 e0
  refine ⟨h', A', m', f', ?_, y⟩
  refine wb_X4_follow_0 ?_
  refine ⟨A, fo.2.1, 1620, rA.1, by decide, rA.2.2 _, ?_⟩
  exact x
theorem fl_len {but j m : Nat} {ch : Nat → Nat → Nat → Nat} {f : Nat → Nat} (s : okS c n K P B) (hj : j ≤ n) (en : enumS (flQ c K P B ch but j) m f) : m ≤ 1620 := by
  have wl := v_ways_le s hj
  by_cases z : m = 0
  · omega
  · have a := en.ge (m - 1) (by omega)
    have b := (en.2.1 (m - 1) (by omega)).1
    omega
theorem sp_plAlike (s : tS 0 c n K P B S h) {but j A p m : Nat} {f : Nat → Nat} {ch : Nat → Nat → Nat → Nat} (hj : j ≤ n) (hp : p < 3) (fo : cFo A m f h) (en : enumS (flQ c K P B ch but j) m f) (v : Int32) : ∃ h', XX true 3 33 0 [.ref 129, .ref 66, .int (nI p), .int (nI j), .int (v), ax_junk, ax_junk] [] (h) (some (.int (nI (cntN (fun t => v_al c K P B p j v (f t)) m))), h') ∧ fr [(86, none)] h h' := by
  have h6 := s.n6
  have ml := fl_len s.ok hj en
  have lp : ∀ k t, t + k = m → ∀ h1, fr [(86, none)] h h1 → ∃ h', XX true 3 33 6 [.ref 129, .ref 66, .int (nI p), .int (nI j), .int (v), .int (nI (cntN (fun t => v_al c K P B p j v (f t)) t)), .int (nI t)] [] (h1) ((some (.int (nI (cntN (fun t => v_al c K P B p j v (f t)) m))), h')) ∧ fr [(86, none)] h h' := by
    intro k
    induction k with
    | zero =>
      intro t ht h1 r
      obtain rfl : t = m := ht
      have c1 := cFo_fr fo r rfl
      refine ⟨h1, ?_, r⟩
      refine wb_X4_alike_6 ?_
      rw [c1.2.1, if_neg (nI_nlt (Nat.le_refl _) (by omega))]
    | succ k ih =>
      intro t ht h1 r
      have c1 := cFo_fr fo r rfl
      have s1 : tS 0 c n K P B S h1 := s.fr r rfl rfl
      have fq := en.2.1 t (by omega)
      have rA := plR A c1.1.1 h1
      obtain ⟨h2, r2, f2, _⟩ := sp_sightOf s1 hp hj (w := f t) fq.1
      obtain ⟨h', x, y⟩ := ih (t + 1) (by omega) h2 (r.trans f2)
      refine ⟨h', ?_, y⟩
      refine wb_X4_alike_6 ?_
      rw [c1.2.1, if_pos (nI_lt (by omega) (by omega))]
      refine ⟨A, c1.1.2.1, 1620, rA.1, in_nI (by omega) (by decide), ?_⟩
      rw [rA.2.1, ix_nI (by omega), c1.2.2 t (by omega)]
      refine cl_X4_alike_25 rfl (by decide) (r2) ?_
      refine wb_X4_alike_28 ?_
      by_cases q : nI (v_vw c K P B p j (f t)) = v
      · rw [cntN_yes (decide_eq_true q)] at x
        rw [if_pos q]
        refine wb_X4_alike_36 ?_
        rw [nI_s, nI_s]
        exact x
      · rw [cntN_not (by simp [q])] at x
        rw [if_neg q]
        refine wb_X4_alike_36 ?_
        rw [nI_s]
        exact x
  obtain ⟨h', x, y⟩ := lp m 0 (by omega) h fr.rfl'
  refine ⟨h', ?_, y⟩
  refine wb_X4_alike_0 ?_
  exact x
theorem sp_plAlikeW (s : tS 0 c n K P B S h) {but j A p m i : Nat} {f : Nat → Nat} {ch : Nat → Nat → Nat → Nat} (hj : j ≤ n) (hi : i < j) (hp : p < 3) (fo : cFo A m f h) (en : enumS (flQ c K P B ch but j) m f) (v e : Int32) : ∃ h', XX true 3 34 0 [.ref 129, .ref 66, .int (nI p), .int (nI j), .int (v), .int (nI i), .int (e), ax_junk, ax_junk] [] (h) (some (.int (nI (cntN (fun t => v_al c K P B p j v (f t) && decide (nI (v_what c K B j (f t) i) = e)) m))), h') ∧ fr [(86, none)] h h' := by
  have h6 := s.n6
  have ml := fl_len s.ok hj en
  have lp : ∀ k t, t + k = m → ∀ h1, fr [(86, none)] h h1 → ∃ h', XX true 3 34 6 [.ref 129, .ref 66, .int (nI p), .int (nI j), .int (v), .int (nI i), .int (e), .int (nI (cntN (fun t => v_al c K P B p j v (f t) && decide (nI (v_what c K B j (f t) i) = e)) t)), .int (nI t)] [] (h1) ((some (.int (nI (cntN (fun t => v_al c K P B p j v (f t) && decide (nI (v_what c K B j (f t) i) = e)) m))), h')) ∧ fr [(86, none)] h h' := by
    intro k
    induction k with
    | zero =>
      intro t ht h1 r
      obtain rfl : t = m := ht
      have c1 := cFo_fr fo r rfl
      refine ⟨h1, ?_, r⟩
      refine wb_X4_alikeWith_6 ?_
      rw [c1.2.1, if_neg (nI_nlt (Nat.le_refl _) (by omega))]
    | succ k ih =>
      intro t ht h1 r
      have c1 := cFo_fr fo r rfl
      have s1 : tS 0 c n K P B S h1 := s.fr r rfl rfl
      have fq := en.2.1 t (by omega)
      have rA := plR A c1.1.1 h1
      obtain ⟨h2, r2, f2, x2⟩ := sp_sightOf s1 hp hj (w := f t) fq.1
      obtain ⟨h', x, y⟩ := ih (t + 1) (by omega) h2 (r.trans f2)
      refine ⟨h', ?_, y⟩
      refine wb_X4_alikeWith_6 ?_
      rw [c1.2.1, if_pos (nI_lt (by omega) (by omega))]
      refine ⟨A, c1.1.2.1, 1620, rA.1, in_nI (by omega) (by decide), ?_⟩
      rw [rA.2.1, ix_nI (by omega), c1.2.2 t (by omega)]
      refine cl_X4_alikeWith_25 rfl (by decide) (r2) ?_
      refine wb_X4_alikeWith_28 ?_
      by_cases q : nI (v_vw c K P B p j (f t)) = v
      · rw [if_pos q, ix_nI (by omega), x2 i hi]
        refine ⟨in_nI (by omega) (by decide), ?_⟩
        by_cases q2 : nI (v_what c K B j (f t) i) = e
        · rw [cntN_yes (by simp [v_al, q, q2])] at x
          rw [if_pos q2]
          refine wb_X4_alikeWith_48 ?_
          rw [nI_s, nI_s]
          exact x
        · rw [cntN_not (by simp [q2])] at x
          rw [if_neg q2]
          refine wb_X4_alikeWith_48 ?_
          rw [nI_s]
          exact x
      · rw [cntN_not (by simp [v_al, q])] at x
        rw [if_neg q]
        refine wb_X4_alikeWith_48 ?_
        rw [nI_s]
        exact x
  obtain ⟨h', x, y⟩ := lp m 0 (by omega) h fr.rfl'
  refine ⟨h', ?_, y⟩
  refine wb_X4_alikeWith_0 ?_
  exact x
end S67
