/-! THE CLASS: tests and amounts, pay -/
/-- a test, an amount -/
def tO (h : AH) (a t x y d : Nat) : Prop := 168 ≤ a ∧ a < h.2.2.1 ∧ h.2.1 a = 9 ∧ hI h a 0 = nI t ∧ hI h a 1 = nI x ∧ hI h a 2 = nI y ∧ hR h a 3 = rf d
def aO (h : AH) (a m x y : Nat) (v : Int) (d : Nat) : Prop := 168 ≤ a ∧ a < h.2.2.1 ∧ h.2.1 a = 0 ∧ hI h a 0 = nI m ∧ hI h a 1 = nI x ∧ hI h a 2 = nI y ∧ hI h a 3 = iI v ∧ hR h a 4 = rf d
theorem dyn_dO {h : AH} {a c : Nat} (h1 : 168 ≤ a) (h2 : a < h.2.2.1) (h3 : h.2.1 a = c) (hc : c < 100 := by decide) : dO h a c := ⟨by omega, by rw [ty_dyn h h1, h3]; unfold ax_dty; rw [if_pos hc], by unfold ax_ok; simp [h2]⟩
theorem gI_dyn {h : AH} {a : Nat} (h1 : 168 ≤ a) (j : Nat) : gI h a j = hI h a j := by unfold gI; rw [rd_dyn h h1]; rfl
theorem gR_dyn {h : AH} {a : Nat} (h1 : 168 ≤ a) (j : Nat) : gR h a j = hR h a j := by unfold gR; rw [rd_dyn h h1]; rfl
theorem tO_fx {k0 : Nat} {h h' : AH} {a t x y d : Nat} (s : tO h a t x y d) {L : List (Nat × Option Nat)} (f : fx k0 L h h') (q : loS L = true) : tO h' a t x y d := ⟨s.1, Nat.lt_of_lt_of_le s.2.1 f.1, (f.2.2.2.2.1 a s.2.1).trans s.2.2.1, (f.I s.2.1 (loS_in q s.1 0)).trans s.2.2.2.1, (f.I s.2.1 (loS_in q s.1 1)).trans s.2.2.2.2.1, (f.I s.2.1 (loS_in q s.1 2)).trans s.2.2.2.2.2.1, (f.R s.2.1 (loS_in q s.1 3)).trans s.2.2.2.2.2.2⟩
theorem aO_fx {k0 : Nat} {h h' : AH} {a m x y : Nat} {v : Int} {d : Nat} (s : aO h a m x y v d) {L : List (Nat × Option Nat)} (f : fx k0 L h h') (q : loS L = true) : aO h' a m x y v d := ⟨s.1, Nat.lt_of_lt_of_le s.2.1 f.1, (f.2.2.2.2.1 a s.2.1).trans s.2.2.1, (f.I s.2.1 (loS_in q s.1 0)).trans s.2.2.2.1, (f.I s.2.1 (loS_in q s.1 1)).trans s.2.2.2.2.1, (f.I s.2.1 (loS_in q s.1 2)).trans s.2.2.2.2.2.1, (f.I s.2.1 (loS_in q s.1 3)).trans s.2.2.2.2.2.2.1, (f.R s.2.1 (loS_in q s.1 4)).trans s.2.2.2.2.2.2.2⟩
/-- the amounts of rules hang together -/
def cAm (h : AH) (m : Nat) (U : Nat → Nat → Nat) (V : Nat → Int) (AA : Nat → Nat) : Prop := okR m U V ∧ ∀ i, i < m → aO h (AA i) (U i 5) (U i 1) (U i 2) (V i) (if U i 1 < i then AA (U i 1) else 9)
theorem cAm_fx {k0 : Nat} {h h' : AH} {m : Nat} {U : Nat → Nat → Nat} {V : Nat → Int} {AA : Nat → Nat} (s : cAm h m U V AA) {L : List (Nat × Option Nat)} (f : fx k0 L h h') (q : loS L = true) : cAm h' m U V AA := ⟨s.1, fun i hi => aO_fx (s.2 i hi) f q⟩
def cTe (h : AH) (m : Nat) (U : Nat → Nat → Nat) (TA : Nat → Nat) : Prop := ∀ i, i < m → tO h (TA i) (U i 0) (U i 1) (U i 2) (if U i 1 < i then TA (U i 1) else 9)
theorem cTe_fx {k0 : Nat} {h h' : AH} {m : Nat} {U : Nat → Nat → Nat} {TA : Nat → Nat} (s : cTe h m U TA) {L : List (Nat × Option Nat)} (f : fx k0 L h h') (q : loS L = true) : cTe h' m U TA := fun i hi => tO_fx (s i hi) f q
/-- the rules of a game -/
def cR (o nr : Nat) (U : Nat → Nat → Nat) (V : Nat → Int) (TA AA : Nat → Nat) (h : AH) : Prop := hI h (65 + o) 6 = nI nr ∧ cAm h nr U V AA ∧ cTe h nr U TA ∧ ∀ i, i < nr → hR h (90 + o) i = rf (TA i) ∧ hR h (91 + o) i = rf (AA i) ∧ hI h (92 + o) i = nI (U i 3) ∧ hI h (93 + o) i = nI (U i 4)
theorem cR_fx {k0 o nr : Nat} {U : Nat → Nat → Nat} {V : Nat → Int} {TA AA : Nat → Nat} {h h' : AH} (s : cR o nr U V TA AA h) {L : List (Nat × Option Nat)} (f : fx k0 L h h') (al : 168 ≤ h.2.2.1) (ho : o < 30) (q1 : outS (90 + o) (94 + o) L = true) (q2 : loS L = true) (q3 : inS L (65 + o) 6 = false) : cR o nr U V TA AA h' := ⟨(f.I (by omega) q3).trans s.1, cAm_fx s.2.1 f q2, cTe_fx s.2.2.1 f q2, fun i hi => ⟨(f.R (by omega) (outS_in q1 (by omega) (by omega) _)).trans (s.2.2.2 i hi).1, (f.R (by omega) (outS_in q1 (by omega) (by omega) _)).trans (s.2.2.2 i hi).2.1, (f.I (by omega) (outS_in q1 (by omega) (by omega) _)).trans (s.2.2.2 i hi).2.2.1, (f.I (by omega) (outS_in q1 (by omega) (by omega) _)).trans (s.2.2.2 i hi).2.2.2⟩⟩
theorem cW_fx {k0 o : Nat} {W : Nat → Int} {h h' : AH} (s : cW o W h) {L : List (Nat × Option Nat)} (f : fx k0 L h h') (al : 168 ≤ h.2.2.1) (ho : o < 30) (q : ∀ j, inS L (67 + o) j = false) : cW o W h' := fun i hi => ⟨(f.I (by omega) (q i)).trans (s i hi).1, (s i hi).2⟩
section S66
variable {c n nr : Nat} {K P B S TA AA : Nat → Nat} {U : Nat → Nat → Nat} {V W : Nat → Int} {h h' : AH}
theorem sp_teSelf (s : tS 0 c n K P B S h) {a t x y d : Nat} (ob : tO h a t x y d) (ht : t < 5) (hx : x < 8) (hy : y < 8) {e : Nat → Nat} (o : okX 0 h n e) (he : ∀ i, i < n → e i < 5) : XX true 1 53 0 [rf (a), .ref 66, ax_junk, ax_junk] [] (h) (some (.int (b2i (t = 0 ∨ (x < n ∧ y < n ∧ ((t = 1 ∧ e x = e y) ∨ (t = 2 ∧ e y < e x) ∨ (t = 3 ∧ (e x + e y) % 2 = 0)))))), h) := by
  have h6 := s.n6
  obtain ⟨o1, o2, o3, o4, o5, o6, o7⟩ := ob
  have D := dyn_dO o1 o2 o3
  refine wb_X10_isSoByItself_0 ?_
  simp only [gI_dyn o1, o4, o5, o6]
  refine ⟨D, ?_⟩
  by_cases t0 : t = 0
  · rw [if_pos (congrArg nI t0), b2i_t (Or.inl t0)]
  · rw [if_neg (nI_z (by omega) (by omega))]
    refine ⟨D, ?_⟩
    by_cases t4 : t = 4
    · rw [if_pos (congrArg nI t4), b2i_f (by omega)]
    · rw [if_neg (fun z => t4 ((nI_eq (by omega) (by omega)).mp z)), s.nn]
      refine ⟨D, ?_⟩
      by_cases x1 : x < n
      · rw [if_pos (nI_lt x1 (by omega))]
        refine ⟨D, ?_⟩
        by_cases y1 : y < n
        · have ex := he x x1
          have ey := he y y1
          rw [if_pos (nI_lt y1 (by omega)), ix_nI (by omega), ix_nI (by omega), o x x1, o y y1]
          refine ⟨D, in_nI (by omega) (by decide), D, in_nI (by omega) (by decide), D, ?_⟩
          by_cases t1 : t = 1
          · rw [if_pos (congrArg nI t1)]
            by_cases q : e x = e y
            · rw [if_pos (congrArg nI q), b2i_t (Or.inr ⟨x1, y1, Or.inl ⟨t1, q⟩⟩)]
            · rw [if_neg (fun z => q ((nI_eq (by omega) (by omega)).mp z)), b2i_f (by omega)]
          · rw [if_neg (fun z => t1 ((nI_eq (by omega) (by omega)).mp z))]
            refine ⟨D, ?_⟩
            by_cases t2 : t = 2
            · rw [if_pos (congrArg nI t2)]
              by_cases q : e x ≤ e y
              · rw [if_pos (nI_le q (by omega)), b2i_f (by omega)]
              · rw [if_neg (fun z => q ((nI_leI (by omega) (by omega)).mp z)), b2i_t (Or.inr ⟨x1, y1, Or.inr (Or.inl ⟨t2, by omega⟩)⟩)]
            · rw [if_neg (fun z => t2 ((nI_eq (by omega) (by omega)).mp z))]
              refine ⟨D, ?_⟩
              have t3 : t = 3 := by omega
              rw [if_pos (congrArg nI t3), nI_add, nI_divI (by omega) (by omega), nI_mulI, nI_remI]
              refine ⟨by decide, ?_⟩
              by_cases q : (e x + e y) % 2 = 0
              · rw [if_pos (congrArg nI q), b2i_t (Or.inr ⟨x1, y1, Or.inr (Or.inr ⟨t3, q⟩)⟩)]
              · rw [if_neg (nI_z (by omega) (by omega)), b2i_f (by omega)]
        · rw [if_neg (nI_nlt (by omega) (by omega)), b2i_f (by omega)]
      · rw [if_neg (nI_nlt (by omega) (by omega)), b2i_f (by omega)]
theorem sp_teSo (s : tS 0 c n K P B S h) (r : okR nr U V) (te : cTe h nr U TA) {e : Nat → Nat} (o : okX 0 h n e) (he : ∀ i, i < n → e i < 5) {i : Nat} (hi : i < nr) : XX true 2 52 0 [rf (TA i), .ref 66, ax_junk, ax_junk, ax_junk] [] (h) (some (.int (b2i (v_so U n e 9 i = true))), h) := by
  have h8 := r.1
  have h6 := s.n6
  have lp : ∀ f i d, i ≤ f → i + d ≤ 7 → i < nr → ∀ tu : Bool, XX true 2 52 7 [ax_junk, .ref 66, .int (b2i (tu = true)), rf (TA i), .int (nI d)] [] (h) ((some (.int (b2i ((xor tu (v_so U n e (f + 1) i)) = true))), h)) := by
    intro f
    induction f with
    | zero =>
      intro i d hf hd hi tu
      obtain rfl : i = 0 := by omega
      have ob := te 0 hi
      have D := dyn_dO ob.1 ob.2.1 ob.2.2.1
      obtain ⟨a0, a1, a2, a3, a4, a5, a6, v1, v2⟩ := r.2 0 hi
      rw [if_neg (Nat.not_lt_zero _)] at ob
      have g50 : ∀ bv : Bool, ((U 0 0 = 0 ∨ (U 0 1 < n ∧ U 0 2 < n ∧ ((U 0 0 = 1 ∧ e (U 0 1) = e (U 0 2)) ∨ (U 0 0 = 2 ∧ e (U 0 2) < e (U 0 1)) ∨ (U 0 0 = 3 ∧ (e (U 0 1) + e (U 0 2)) % 2 = 0)))) ↔ bv = true) → XX true 2 52 50 [ax_junk, .ref 66, .int (b2i (tu = true)), rf (TA 0), ax_junk] [] (h) ((some (.int (b2i ((xor tu bv) = true))), h)) := by
        intro bv hb
        refine wb_X10_isSo_50 ?_
        refine cl_X10_isSo_52 rfl (by decide) (sp_teSelf s ob a0 a1 a2 o he) ?_
        refine ⟨D, ?_⟩
        refine wb_X10_isSo_55 ?_
        rw [b2i_cong hb]
        cases bv <;> cases tu <;> first | (rw [if_pos (by decide)]; rfl) | (rw [if_neg (by decide)]; rfl)
      have e0 : v_so U n e (0 + 1) 0 = (if U 0 0 = 0 then true else if U 0 0 = 1 then decide (U 0 1 < n ∧ U 0 2 < n ∧ e (U 0 1) = e (U 0 2)) else if U 0 0 = 2 then decide (U 0 1 < n ∧ U 0 2 < n ∧ e (U 0 2) < e (U 0 1)) else if U 0 0 = 3 then decide (U 0 1 < n ∧ U 0 2 < n ∧ (e (U 0 1) + e (U 0 2)) % 2 = 0) else decide (U 0 1 < 0) && !(v_so U n e 0 (U 0 1))) := rfl
      have hb : (U 0 0 = 0 ∨ (U 0 1 < n ∧ U 0 2 < n ∧ ((U 0 0 = 1 ∧ e (U 0 1) = e (U 0 2)) ∨ (U 0 0 = 2 ∧ e (U 0 2) < e (U 0 1)) ∨ (U 0 0 = 3 ∧ (e (U 0 1) + e (U 0 2)) % 2 = 0)))) ↔ v_so U n e (0 + 1) 0 = true := by
        rw [e0]
        by_cases k0 : U 0 0 = 0
        · simp [k0]
        · by_cases k1 : U 0 0 = 1
          · simp [k1]
          · by_cases k2 : U 0 0 = 2
            · simp [k2]
            · by_cases k3 : U 0 0 = 3
              · simp [k3]
              · simp [k0, k1, k2, k3]
      have g := g50 _ hb
      refine wb_X10_isSo_7 ?_
      rw [if_pos (nI_lt (by omega) (by omega)), gI_dyn ob.1, ob.2.2.2.1]
      refine ⟨D, ?_⟩
      by_cases k4 : U 0 0 = 4
      · rw [if_pos (congrArg nI k4)]
        refine ⟨D, 9, by rw [gR_dyn ob.1]; exact ob.2.2.2.2.2.2, ?_⟩
        rw [if_pos rfl]
        exact g
      · rw [if_neg (fun z => k4 ((nI_eq (by omega) (by omega)).mp z))]
        exact g
    | succ f ih =>
      intro i d hf hd hi tu
      have ob := te i hi
      have D := dyn_dO ob.1 ob.2.1 ob.2.2.1
      obtain ⟨a0, a1, a2, a3, a4, a5, a6, v1, v2⟩ := r.2 i hi
      have g50 : ∀ bv : Bool, ((U i 0 = 0 ∨ (U i 1 < n ∧ U i 2 < n ∧ ((U i 0 = 1 ∧ e (U i 1) = e (U i 2)) ∨ (U i 0 = 2 ∧ e (U i 2) < e (U i 1)) ∨ (U i 0 = 3 ∧ (e (U i 1) + e (U i 2)) % 2 = 0)))) ↔ bv = true) → XX true 2 52 50 [ax_junk, .ref 66, .int (b2i (tu = true)), rf (TA i), ax_junk] [] (h) ((some (.int (b2i ((xor tu bv) = true))), h)) := by
        intro bv hb
        refine wb_X10_isSo_50 ?_
        refine cl_X10_isSo_52 rfl (by decide) (sp_teSelf s ob a0 a1 a2 o he) ?_
        refine ⟨D, ?_⟩
        refine wb_X10_isSo_55 ?_
        rw [b2i_cong hb]
        cases bv <;> cases tu <;> first | (rw [if_pos (by decide)]; rfl) | (rw [if_neg (by decide)]; rfl)
      have e0 : v_so U n e (f + 1 + 1) i = (if U i 0 = 0 then true else if U i 0 = 1 then decide (U i 1 < n ∧ U i 2 < n ∧ e (U i 1) = e (U i 2)) else if U i 0 = 2 then decide (U i 1 < n ∧ U i 2 < n ∧ e (U i 2) < e (U i 1)) else if U i 0 = 3 then decide (U i 1 < n ∧ U i 2 < n ∧ (e (U i 1) + e (U i 2)) % 2 = 0) else decide (U i 1 < i) && !(v_so U n e (f + 1) (U i 1))) := rfl
      rw [e0]
      refine wb_X10_isSo_7 ?_
      rw [if_pos (nI_lt (by omega) (by omega)), gI_dyn ob.1, ob.2.2.2.1]
      refine ⟨D, ?_⟩
      by_cases k4 : U i 0 = 4
      · rw [if_pos (congrArg nI k4)]
        refine ⟨D, _, by rw [gR_dyn ob.1]; exact ob.2.2.2.2.2.2, ?_⟩
        have e1 : (if U i 0 = 0 then true else if U i 0 = 1 then decide (U i 1 < n ∧ U i 2 < n ∧ e (U i 1) = e (U i 2)) else if U i 0 = 2 then decide (U i 1 < n ∧ U i 2 < n ∧ e (U i 2) < e (U i 1)) else if U i 0 = 3 then decide (U i 1 < n ∧ U i 2 < n ∧ (e (U i 1) + e (U i 2)) % 2 = 0) else decide (U i 1 < i) && !(v_so U n e (f + 1) (U i 1))) = (decide (U i 1 < i) && !(v_so U n e (f + 1) (U i 1))) := by rw [if_neg (by omega), if_neg (by omega), if_neg (by omega), if_neg (by omega)]
        rw [e1]
        by_cases lt : U i 1 < i
        · rw [if_pos lt]
          have ob2 := te (U i 1) (by omega)
          rw [if_neg (show TA (U i 1) ≠ 9 by have := ob2.1; omega), decide_eq_true lt, Bool.true_and]
          have nx := ih (U i 1) (d + 1) (by omega) (by omega) (by omega) (!tu)
          have ex : (xor (!tu) (v_so U n e (f + 1) (U i 1))) = xor tu (!(v_so U n e (f + 1) (U i 1))) := by cases tu <;> cases v_so U n e (f + 1) (U i 1) <;> rfl
          rw [ex] at nx
          have g38 : XX true 2 52 38 [ax_junk, .ref 66, ax_junk, rf (TA i), .int (nI d)] [.int (b2i ((!tu) = true))] (h) ((some (.int (b2i ((xor tu (!(v_so U n e (f + 1) (U i 1)))) = true))), h)) := by
            refine wb_X10_isSo_38 ?_
            refine ⟨D, TA (U i 1), by rw [gR_dyn ob.1, ob.2.2.2.2.2.2, if_pos lt], ?_⟩
            rw [nI_s]
            exact nx
          cases tu with
          | true =>
            rw [if_neg (by decide)]
            exact g38
          | false =>
            rw [if_pos (by decide)]
            exact g38
        · rw [if_neg lt, if_pos rfl, decide_eq_false lt, Bool.false_and]
          exact g50 false (by simp [k4])
      · rw [if_neg (fun z => k4 ((nI_eq (by omega) (by omega)).mp z))]
        refine g50 _ ?_
        by_cases k0 : U i 0 = 0
        · simp [k0]
        · by_cases k1 : U i 0 = 1
          · simp [k1]
          · by_cases k2 : U i 0 = 2
            · simp [k2]
            · by_cases k3 : U i 0 = 3
              · simp [k3]
              · omega
  have g := lp 8 i 0 (by omega) (by omega) hi false
  rw [Bool.false_xor] at g
  refine wb_X10_isSo_0 ?_
  exact g
def v_asf (c n : Nat) (W : Nat → Int) (e : Nat → Nat) (m x y : Nat) (v : Int) : Int := if m = 0 then v else if m = 3 ∨ ¬ x < n then 0 else if m = 1 then (if e x < c then v * W (e x) else 0) else if m = 4 then (if e x = 0 then 2 * v else v) else if y < n then v * ((e x : Int) - e y) else 0
theorem sp_amSelf (s : tS 0 c n K P B S h) (w : cW 0 W h) {a m x y d : Nat} {v : Int} (ob : aO h a m x y v d) (hm : m < 5) (hx : x < 8) (hy : y < 8) {e : Nat → Nat} (o : okX 0 h n e) (he : ∀ i, i < n → e i < 5) : XX true 1 55 0 [rf (a), .ref 66, ax_junk] [] (h) (some (.int (iI (v_asf c n W e m x y v))), h) := by
  have h6 := s.n6
  have h5 := s.c5
  obtain ⟨o1, o2, o3, o4, o5, o6, o7, o8⟩ := ob
  have D := dyn_dO o1 o2 o3
  unfold v_asf
  refine wb_X0_byItself_0 ?_
  simp only [gI_dyn o1, o4, o5, o6, o7]
  refine ⟨D, ?_⟩
  by_cases m0 : m = 0
  · rw [if_pos (congrArg nI m0), if_pos m0]
    exact ⟨D, rfl⟩
  · rw [if_neg (nI_z (by omega) (by omega)), if_neg m0]
    refine ⟨D, ?_⟩
    by_cases m3 : m = 3
    · rw [if_pos (congrArg nI m3), if_pos (Or.inl m3), nI_iI]
      rfl
    · rw [if_neg (fun z => m3 ((nI_eq (by omega) (by omega)).mp z)), s.nn]
      refine ⟨D, ?_⟩
      by_cases x1 : x < n
      · have ex := he x x1
        rw [if_pos (nI_lt x1 (by omega)), if_neg (show ¬ (m = 3 ∨ ¬ x < n) from fun z => z.elim m3 (fun z => z x1)), ix_nI (by omega), o x x1]
        refine ⟨D, in_nI (by omega) (by decide), D, ?_⟩
        by_cases m1 : m = 1
        · rw [if_pos (congrArg nI m1), if_pos m1, s.cc]
          by_cases q : e x < c
          · rw [if_pos (nI_lt q (by omega)), if_pos q, ix_nI (by omega), (w _ ex).1, iI_mul]
            exact ⟨D, in_nI (by omega) (by decide), rfl⟩
          · rw [if_neg (nI_nlt (by omega) (by omega)), if_neg q, nI_iI]
            rfl
        · rw [if_neg (fun z => m1 ((nI_eq (by omega) (by omega)).mp z)), if_neg m1]
          refine ⟨D, ?_⟩
          by_cases m4 : m = 4
          · rw [if_pos (congrArg nI m4), if_pos m4]
            by_cases q : e x = 0
            · rw [if_pos (congrArg nI q), if_pos q, nI_iI, iI_mul]
              exact ⟨D, rfl⟩
            · rw [if_neg (nI_z (by omega) (by omega)), if_neg q]
              exact ⟨D, rfl⟩
          · rw [if_neg (fun z => m4 ((nI_eq (by omega) (by omega)).mp z)), if_neg m4]
            refine ⟨D, ?_⟩
            have m2 : m = 2 := by omega
            rw [if_pos (congrArg nI m2)]
            refine ⟨D, ?_⟩
            by_cases y1 : y < n
            · have ey := he y y1
              rw [if_pos (nI_lt y1 (by omega)), if_pos y1, ix_nI (by omega), o y y1, nI_iI (e x), nI_iI (e y), iI_sub, iI_mul]
              exact ⟨D, D, in_nI (by omega) (by decide), rfl⟩
            · rw [if_neg (nI_nlt (by omega) (by omega)), if_neg y1, nI_iI]
              rfl
      · rw [if_neg (nI_nlt (by omega) (by omega)), if_pos (Or.inr x1), nI_iI]
        rfl
theorem sp_amCo (s : tS 0 c n K P B S h) (w : cW 0 W h) (am : cAm h nr U V AA) {e : Nat → Nat} (o : okX 0 h n e) (he : ∀ i, i < n → e i < 5) {i : Nat} (hi : i < nr) : XX true 2 54 0 [rf (AA i), .ref 66, ax_junk, ax_junk, ax_junk] [] (h) (some (.int (iI (v_am U V W c n e 9 i))), h) := by
  have h8 := am.1.1
  have lp : ∀ f i d, i ≤ f → i + d ≤ 7 → i < nr → ∀ z : Int, XX true 2 54 7 [ax_junk, .ref 66, .int (iI z), rf (AA i), .int (nI d)] [] (h) ((some (.int (iI (z + v_am U V W c n e (f + 1) i))), h)) := by
    intro f
    induction f with
    | zero =>
      intro i d hf hd hi z
      obtain rfl : i = 0 := by omega
      have ob := am.2 0 hi
      have D := dyn_dO ob.1 ob.2.1 ob.2.2.1
      obtain ⟨a0, a1, a2, a3, a4, a5, a6, v1, v2⟩ := am.1.2 0 hi
      rw [if_neg (Nat.not_lt_zero _)] at ob
      have e1 : v_am U V W c n e (0 + 1) 0 = v_asf c n W e (U 0 5) (U 0 1) (U 0 2) (V 0) := by
        unfold v_am v_asf
        by_cases k0 : U 0 5 = 0
        · simp [k0]
        · by_cases k1 : U 0 5 = 1
          · by_cases l : U 0 1 < n <;> simp [k1, l]
          · by_cases k2 : U 0 5 = 2
            · by_cases l : U 0 1 < n <;> simp [k2, l]
            · by_cases k3 : U 0 5 = 3
              · simp [k3]
              · have k4 : U 0 5 = 4 := by omega
                by_cases l : U 0 1 < n <;> simp [k4, l]
      have g47 : XX true 2 54 47 [ax_junk, .ref 66, .int (iI z), rf (AA 0), ax_junk] [] (h) ((some (.int (iI (z + v_am U V W c n e (0 + 1) 0))), h)) := by
        refine wb_X0_comesTo_47 ?_
        refine cl_X0_comesTo_50 rfl (by decide) (sp_amSelf s w ob a6 a1 a2 o he) ?_
        refine ⟨D, ?_⟩
        refine wb_X0_comesTo_53 ?_
        rw [iI_add, e1]
      refine wb_X0_comesTo_7 ?_
      rw [if_pos (nI_lt (by omega) (by omega)), gI_dyn ob.1, ob.2.2.2.1]
      refine ⟨D, ?_⟩
      by_cases k3 : U 0 5 = 3
      · rw [if_pos (congrArg nI k3)]
        refine ⟨D, 9, by rw [gR_dyn ob.1]; exact ob.2.2.2.2.2.2.2, ?_⟩
        rw [if_pos rfl]
        exact g47
      · rw [if_neg (fun z => k3 ((nI_eq (by omega) (by omega)).mp z))]
        exact g47
    | succ f ih =>
      intro i d hf hd hi z
      have ob := am.2 i hi
      have D := dyn_dO ob.1 ob.2.1 ob.2.2.1
      obtain ⟨a0, a1, a2, a3, a4, a5, a6, v1, v2⟩ := am.1.2 i hi
      have g47 : v_am U V W c n e (f + 1 + 1) i = v_asf c n W e (U i 5) (U i 1) (U i 2) (V i) → XX true 2 54 47 [ax_junk, .ref 66, .int (iI z), rf (AA i), ax_junk] [] (h) ((some (.int (iI (z + v_am U V W c n e (f + 1 + 1) i))), h)) := by
        intro e1
        refine wb_X0_comesTo_47 ?_
        refine cl_X0_comesTo_50 rfl (by decide) (sp_amSelf s w ob a6 a1 a2 o he) ?_
        refine ⟨D, ?_⟩
        refine wb_X0_comesTo_53 ?_
        rw [iI_add, e1]
      refine wb_X0_comesTo_7 ?_
      rw [if_pos (nI_lt (by omega) (by omega)), gI_dyn ob.1, ob.2.2.2.1]
      refine ⟨D, ?_⟩
      by_cases k3 : U i 5 = 3
      · rw [if_pos (congrArg nI k3)]
        refine ⟨D, _, by rw [gR_dyn ob.1]; exact ob.2.2.2.2.2.2.2, ?_⟩
        have e0 : v_am U V W c n e (f + 1 + 1) i = if U i 1 < i then v_am U V W c n e (f + 1) (U i 1) + V i else 0 := by
          show (if U i 5 = 0 then _ else if U i 5 = 1 then _ else if U i 5 = 2 then _ else if U i 5 = 3 then _ else _) = _
          rw [if_neg (by omega), if_neg (by omega), if_neg (by omega), if_pos k3]
        by_cases lt : U i 1 < i
        · rw [if_pos lt] at e0 ⊢
          have ob2 := am.2 (U i 1) (by omega)
          rw [if_neg (show AA (U i 1) ≠ 9 by have := ob2.1; omega)]
          have nx := ih (U i 1) (d + 1) (by omega) (by omega) (by omega) (z + V i)
          refine ⟨D, D, AA (U i 1), by rw [gR_dyn ob.1, ob.2.2.2.2.2.2.2, if_pos lt], ?_⟩
          rw [gI_dyn ob.1, ob.2.2.2.2.2.2.1, iI_add, nI_s, e0, show z + (v_am U V W c n e (f + 1) (U i 1) + V i) = z + V i + v_am U V W c n e (f + 1) (U i 1) by omega]
          exact nx
        · rw [if_neg lt] at e0 ⊢
          rw [if_pos rfl]
          refine g47 ?_
          rw [e0]
          unfold v_asf
          rw [if_neg (by omega), if_pos (Or.inl k3)]
      · rw [if_neg (fun z => k3 ((nI_eq (by omega) (by omega)).mp z))]
        refine g47 ?_
        unfold v_am v_asf
        by_cases k0 : U i 5 = 0
        · simp [k0]
        · by_cases k1 : U i 5 = 1
          · by_cases l : U i 1 < n <;> simp [k1, l]
          · by_cases k2 : U i 5 = 2
            · by_cases l : U i 1 < n <;> simp [k2, l]
            · have k4 : U i 5 = 4 := by omega
              by_cases l : U i 1 < n <;> simp [k4, l]
  have g := lp 8 i 0 (by omega) (by omega) hi 0
  rw [Int.zero_add] at g
  refine wb_X0_comesTo_0 ?_
  rw [nI_iI 0]
  exact g
theorem sp_testAt (r : cR 0 nr U V TA AA h) (i : Int32) : XX true 1 50 0 [.ref 65, .int (i)] [] (h) (some (rf ((if isLt nr i then TA (ix i) else 9))), h) := by
  have h8 := r.2.1.1.1
  refine wb_X1_testAt_0 ?_
  rw [r.1]
  by_cases q : i < nI 0
  · rw [if_pos q, if_neg (fun z => absurd z.1 (Int32.not_le.mpr q))]
  · rw [if_neg q]
    by_cases y : i < nI nr
    · have l : isLt nr i := ⟨Int32.not_lt.mp q, y⟩
      rw [if_pos y, if_pos l]
      obtain ⟨k, hk, rfl⟩ := l.ex (by omega)
      rw [ix_nI (by omega)]
      exact ⟨in_nI (by omega) (by decide), TA k, (r.2.2.2 k hk).1, rfl⟩
    · rw [if_neg y, if_neg (fun z => y z.2)]
theorem sp_amountAt (r : cR 0 nr U V TA AA h) (i : Int32) : XX true 1 51 0 [.ref 65, .int (i)] [] (h) (some (rf ((if isLt nr i then AA (ix i) else 9))), h) := by
  have h8 := r.2.1.1.1
  refine wb_X1_amountAt_0 ?_
  rw [r.1]
  by_cases q : i < nI 0
  · rw [if_pos q, if_neg (fun z => absurd z.1 (Int32.not_le.mpr q))]
  · rw [if_neg q]
    by_cases y : i < nI nr
    · have l : isLt nr i := ⟨Int32.not_lt.mp q, y⟩
      rw [if_pos y, if_pos l]
      obtain ⟨k, hk, rfl⟩ := l.ex (by omega)
      rw [ix_nI (by omega)]
      exact ⟨in_nI (by omega) (by decide), AA k, (r.2.2.2 k hk).2.1, rfl⟩
    · rw [if_neg y, if_neg (fun z => y z.2)]
/-- what payer owes payee by a rule -/
def v_due (U : Nat → Nat → Nat) (V W : Nat → Int) (c n : Nat) (e : Nat → Nat) (i : Nat) : Int := if v_so U n e 9 i = true then v_am U V W c n e 9 i else 0
theorem sp_due (s : tS 0 c n K P B S h) (w : cW 0 W h) (r : cR 0 nr U V TA AA h) {e : Nat → Nat} (o : okX 0 h n e) (he : ∀ i, i < n → e i < 5) {i : Nat} (hi : i < nr) : XX true 3 49 0 [.ref 65, .int (nI i), ax_junk, ax_junk] [] (h) (some (.int (iI (v_due U V W c n e i))), h) := by
  have h8 := r.2.1.1.1
  have l : isLt nr (nI i) := (isLt_nI (by omega) (by omega)).mpr hi
  have g1 := sp_testAt r (nI i)
  have g2 := sp_amountAt r (nI i)
  rw [if_pos l, ix_nI (by omega)] at g1 g2
  have t1 := r.2.2.1 i hi
  have t2 := r.2.1.2 i hi
  unfold v_due
  refine wb_X1_due_0 ?_
  refine cl_X1_due_2 rfl (by decide) (g1) ?_
  refine wb_X1_due_5 ?_
  refine cl_X1_due_8 rfl (by decide) (g2) ?_
  refine wb_X1_due_11 ?_
  rw [if_neg (show TA i ≠ 9 by have := t1.1; omega), if_neg (show AA i ≠ 9 by have := t2.1; omega)]
  refine cl_X1_due_25 rfl (by decide) (sp_teSo s r.2.1.1 r.2.2.1 o he hi) ?_
  refine ⟨dyn_dO t1.1 t1.2.1 t1.2.2.1, ?_⟩
  refine wb_X1_due_28 ?_
  by_cases q : v_so U n e 9 i = true
  · rw [b2i_t q, if_neg (by decide), if_pos q]
    refine cl_X1_due_36 rfl (by decide) (sp_amCo s w r.2.1 o he hi) ?_
    refine ⟨dyn_dO t2.1 t2.2.1 t2.2.2.1, ?_⟩
    refine wb_X1_due_39 ?_
    rfl
  · rw [b2i_f q, if_pos rfl, if_neg q, nI_iI]
    rfl
theorem sp_won (s : tS 0 c n K P B S h) (w : cW 0 W h) (r : cR 0 nr U V TA AA h) {e : Nat → Nat} (o : okX 0 h n e) (he : ∀ i, i < n → e i < 5) {p : Nat} (hp : p < 3) : XX true 4 48 0 [.ref 65, .int (nI p), ax_junk, ax_junk] [] (h) (some (.int (iI (v_pay U V W c n e p nr))), h) := by
  have h8 := r.2.1.1.1
  have lp : ∀ k i, i + k = nr → XX true 4 48 4 [.ref 65, .int (nI p), .int (iI (v_pay U V W c n e p i)), .int (nI i)] [] (h) ((some (.int (iI (v_pay U V W c n e p nr))), h)) := by
    intro k
    induction k with
    | zero =>
      intro i hi
      obtain rfl : i = nr := hi
      refine wb_X1_won_4 ?_
      rw [r.1, if_neg (nI_nlt (Nat.le_refl _) (by omega))]
    | succ k ih =>
      intro i hi
      have nx := ih (i + 1) (by omega)
      obtain ⟨a0, a1, a2, a3, a4, a5, a6, v1, v2⟩ := r.2.1.1.2 i (by omega)
      have cl := r.2.2.2 i (by omega)
      have du := sp_due s w r o he (i := i) (by omega)
      have e1 : v_pay U V W c n e p (i + 1) = v_pay U V W c n e p i + (if U i 4 = p then v_due U V W c n e i else if U i 3 = p then -v_due U V W c n e i else 0) := by
        show v_pay U V W c n e p i + (if U i 4 = p then (if v_so U n e 9 i = true then v_am U V W c n e 9 i else 0) else if U i 3 = p then (if v_so U n e 9 i = true then -v_am U V W c n e 9 i else 0) else 0) = _
        unfold v_due
        by_cases q : v_so U n e 9 i = true
        · simp [q]
        · simp [q]
      rw [e1] at nx
      have g48 : ∀ z : Int, z = v_pay U V W c n e p i + (if U i 4 = p then v_due U V W c n e i else if U i 3 = p then -v_due U V W c n e i else 0) → XX true 4 48 48 [.ref 65, .int (nI p), .int (iI z), .int (nI i)] [] (h) ((some (.int (iI (v_pay U V W c n e p nr))), h)) := by
        rintro z rfl
        refine wb_X1_won_48 ?_
        rw [nI_s]
        exact nx
      refine wb_X1_won_4 ?_
      rw [r.1, if_pos (nI_lt (by omega) (by omega)), ix_nI (by omega), cl.2.2.1]
      refine ⟨in_nI (by omega) (by decide), ?_⟩
      by_cases q3 : U i 3 = p
      · have q4 : U i 4 ≠ p := by omega
        rw [if_pos (congrArg nI q3)]
        refine cl_X1_won_25 rfl (by decide) (du) ?_
        refine wb_X1_won_28 ?_
        rw [iI_sub]
        refine wb_X1_won_30 ?_
        rw [ix_nI (by omega), cl.2.2.2, if_neg (fun z => q4 ((nI_eq (by omega) (by omega)).mp z))]
        refine ⟨in_nI (by omega) (by decide), ?_⟩
        exact g48 _ (by rw [if_neg q4, if_pos q3]; omega)
      · rw [if_neg (fun z => q3 ((nI_eq (by omega) (by omega)).mp z))]
        refine wb_X1_won_30 ?_
        rw [ix_nI (by omega), cl.2.2.2]
        refine ⟨in_nI (by omega) (by decide), ?_⟩
        by_cases q4 : U i 4 = p
        · rw [if_pos (congrArg nI q4)]
          refine cl_X1_won_43 rfl (by decide) (du) ?_
          refine wb_X1_won_46 ?_
          rw [iI_add]
          exact g48 _ (by rw [if_pos q4])
        · rw [if_neg (fun z => q4 ((nI_eq (by omega) (by omega)).mp z))]
          exact g48 _ (by rw [if_neg q4, if_neg q3]; omega)
  have g := lp nr 0 (by omega)
  refine wb_X1_won_0 ?_
  rw [nI_iI 0]
  exact g
end S66
