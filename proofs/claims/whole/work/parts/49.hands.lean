/-! THE REFERENCE'S CALLS: what hands hold -/
/-- a hand: 0 nothing, 1 a stage of some kind, 2 an amount of some rules, 3 a view -/
def mHd (hs hk : Nat → Nat) (hU : Nat → Nat → Nat → Nat) (hW : Nat → Nat → Int) (hv : Nat → Int64) (h : AH) : Prop := ∀ q, q < 4 → hI h 176 q = nI (hs q) ∧ hs q < 4 ∧ (hs q = 1 → hI h 177 q = nI (hk q) ∧ hk q < 8) ∧ (hs q = 2 → hI h 177 q = nI (hk q) ∧ rwR 179 (56 * q) (hk q + 1) (hU q) (hW q) h) ∧ (hs q = 3 → hL h 178 q = hv q)
abbrev frHd : List (Nat × Option Nat) := [(176, none), (177, none), (178, none), (179, none)]
theorem mHd.fr {hs hk : Nat → Nat} {hU : Nat → Nat → Nat → Nat} {hW : Nat → Nat → Int} {hv : Nat → Int64} {h h' : AH} (s : mHd hs hk hU hW hv h) {L : List (Nat × Option Nat)} (f : fr L h h') (q1 : ∀ j, inS L 176 j = false) (q2 : ∀ j, inS L 177 j = false) (q3 : ∀ j, inS L 178 j = false) (q4 : ∀ j, inS L 179 j = false) : mHd hs hk hU hW hv h' := fun q hq => ⟨(f.I (q1 _)).trans (s q hq).1, (s q hq).2.1, fun z => ⟨(f.I (q2 _)).trans ((s q hq).2.2.1 z).1, ((s q hq).2.2.1 z).2⟩, fun z => ⟨(f.I (q2 _)).trans ((s q hq).2.2.2.1 z).1, ((s q hq).2.2.2.1 z).2.fr f q4⟩, fun z => (f.L (q3 _)).trans ((s q hq).2.2.2.2 z)⟩
/-- a place among n as a long -/
abbrev isLtL (n : Nat) (v : Int64) : Prop := lN 0 ≤ v ∧ v ≤ (nI n - nI 1).toInt64
theorem isLtL.ex {n : Nat} (hn : n < 100) {v : Int64} (q : isLtL n v) : ∃ k, k < n ∧ v = lN k ∧ ix v.toInt32 = k := by
  have h1 := Int64.le_iff_toInt_le.mp q.1
  have h2 := Int64.le_iff_toInt_le.mp q.2
  have e0 : (lN 0).toInt = 0 := by decide
  have e1 : ∀ n, n < 100 → (nI n - nI 1).toInt64.toInt = (n : Int) - 1 := by decide +kernel
  rw [e0] at h1
  rw [e1 n hn] at h2
  have e2 : v = lN v.toInt.toNat := by
    apply Int64.toInt.inj
    have := (lN_toInt (n := v.toInt.toNat) (by omega))
    rw [this]
    omega
  refine ⟨v.toInt.toNat, by omega, e2, ?_⟩
  have e3 : v.toInt32 = nI v.toInt.toNat := by
    rw [e2]
    have e4 : ∀ n, n < 100 → (lN n).toInt32 = nI n := by decide +kernel
    rw [e4 _ (by omega)]
    have := (lN_toInt (n := v.toInt.toNat) (by omega))
    rw [this]
    rfl
  rw [e3, ix_nI (by omega)]
abbrev holdOk (n nr : Nat) (q s : Int32) (v : Int64) : Prop := isLe 3 q ∧ isLe 3 s ∧ (s = nI 1 → isLtL n v) ∧ (s = nI 2 → isLtL nr v)
def a_hold (n nr : Nat) (hs : Nat → Nat) (q s : Int32) (v : Int64) : Int32 := if holdOk n nr q s v then nI (hs (ix q)) else -nI 2
section S49
variable {c n np nr : Nat} {K P B T C : Nat → Nat} {U : Nat → Nat → Nat} {V W : Nat → Int} {hs hk : Nat → Nat} {hU : Nat → Nat → Nat → Nat} {hW : Nat → Nat → Int} {hv : Nat → Int64} {h h' : AH}
theorem sp_isHand (p : Int32) (h : AH) : XX true 2 245 0 [.int (p)] [] (h) (some (.int (b2i (isLe 3 p))), h) := by
  refine wb_X12_isHand_0 ?_
  refine (cl_X12_isHand_6 rfl (by decide) (sp_in _ _ _ _)).mpr ?_
  refine wb_X12_isHand_9 ?_
  refine ⟨b2i_01 _, ?_⟩
  rw [b2i_cong (isLe_l (by decide) p)]
/-- the kind or the rule that a hand holds then -/
def hkN (K : Nat → Nat) (s : Int32) (v : Int64) : Nat := if s = nI 1 then K (ix v.toInt32) else if s = nI 2 then ix v.toInt32 else 0
theorem hkN_1 {s : Int32} {v : Int64} (z : s = nI 1) : hkN K s v = K (ix v.toInt32) := if_pos z
theorem hkN_2 {s : Int32} {v : Int64} (z : ¬ s = nI 1) (z2 : s = nI 2) : hkN K s v = ix v.toInt32 := (if_neg z).trans (if_pos z2)
theorem hkN_0 {s : Int32} {v : Int64} (z : ¬ s = nI 1) (z2 : ¬ s = nI 2) : hkN K s v = 0 := (if_neg z).trans (if_neg z2)
theorem mo_hold (s : mS c n K P B h) (r : mR nr U V h) (m : mHd hs hk hU hW hv h) (q t : Int32) (v : Int64) : (holdOk n nr q t v → ∃ h', XX true 3 244 0 [.ref 153, .int (q), .int (t), .long (v), ax_junk, ax_junk, ax_junk] [] (h) (some (.int (a_hold n nr hs q t v)), h') ∧ fr frHd h h' ∧ mHd (updN hs (ix q) (ix t)) (updN hk (ix q) (hkN K t v)) (updN hU (ix q) U) (updN hW (ix q) V) (updN hv (ix q) v) h') ∧ (¬ holdOk n nr q t v → XX true 3 244 0 [.ref 153, .int (q), .int (t), .long (v), ax_junk, ax_junk, ax_junk] [] (h) (some (.int (a_hold n nr hs q t v)), h)) := by
  have h6 := s.n6
  have h8 := r.2.1.1
  have g39 : ∀ R, isLe 3 q → isLe 3 t → (t = nI 1 → isLtL n v) → (¬ holdOk n nr q t v → R = (some (.int (-nI 2)), h)) → (holdOk n nr q t v → XX true 3 244 62 [.ref 153, .int (q), .int (t), .long (v), ax_junk, ax_junk, ax_junk] [] (h) (R)) → XX true 3 244 39 [.ref 153, .int (q), .int (t), .long (v), ax_junk, ax_junk, ax_junk] [] (h) (R) := by
    intro R y1 y2 y3 u1 u2
    refine wb_X12_hold_39 ?_
    by_cases y4 : t = nI 2
    · rw [if_pos y4, r.1]
      refine (cl_X12_hold_53 rfl (by decide) (sp_in _ _ _ _)).mpr ?_
      refine wb_X12_hold_56 ?_
      by_cases y5 : isLtL nr v
      · rw [b2i_t y5, if_neg (by decide)]
        exact wk_X12_hold_62 (u2 ⟨y1, y2, y3, fun _ => y5⟩)
      · rw [b2i_f y5, if_pos rfl]
        exact u1 (fun z => y5 (z.2.2.2 y4))
    · rw [if_neg y4]
      exact wk_X12_hold_62 (u2 ⟨y1, y2, y3, fun z => absurd z y4⟩)
  have pre : ∀ R, (¬ holdOk n nr q t v → R = (some (.int (-nI 2)), h)) → (holdOk n nr q t v → XX true 3 244 62 [.ref 153, .int (q), .int (t), .long (v), ax_junk, ax_junk, ax_junk] [] (h) (R)) → XX true 3 244 0 [.ref 153, .int (q), .int (t), .long (v), ax_junk, ax_junk, ax_junk] [] (h) (R) := by
    intro R u1 u2
    refine wb_X12_hold_0 ?_
    refine (cl_X12_hold_1 rfl (by decide) (sp_isHand _ _)).mpr ?_
    refine wb_X12_hold_4 ?_
    by_cases y1 : isLe 3 q
    · rw [b2i_t y1, if_neg (by decide)]
      refine (cl_X12_hold_13 rfl (by decide) (sp_in _ _ _ _)).mpr ?_
      refine wb_X12_hold_16 ?_
      rw [b2i_cong (isLe_l (by decide) t)]
      by_cases y2 : isLe 3 t
      · rw [b2i_t y2, if_neg (by decide)]
        by_cases y3 : t = nI 1
        · rw [if_pos y3, s.nn]
          refine (cl_X12_hold_33 rfl (by decide) (sp_in _ _ _ _)).mpr ?_
          refine wb_X12_hold_36 ?_
          by_cases y4 : isLtL n v
          · rw [b2i_t y4, if_neg (by decide)]
            exact wk_X12_hold_39 (g39 _ y1 y2 (fun _ => y4) u1 u2)
          · rw [b2i_f y4, if_pos rfl]
            exact u1 (fun z => y4 (z.2.2.1 y3))
        · rw [if_neg y3]
          exact wk_X12_hold_39 (g39 _ y1 y2 (fun z => absurd z y3) u1 u2)
      · rw [b2i_f y2, if_pos rfl]
        exact u1 (fun z => y2 z.2.1)
    · rw [b2i_f y1, if_pos rfl]
      exact u1 (fun z => y1 z.1)
  constructor
  · intro ok
    have eA : a_hold n nr hs q t v = nI (hs (ix q)) := if_pos ok
    rw [eA]
    obtain ⟨q', hq, rfl⟩ := ok.1.ex (by decide)
    obtain ⟨t', ht, rfl⟩ := ok.2.1.ex (by decide)
    have eq : ix (nI q') = q' := ix_nI (by omega)
    have et : ix (nI t') = t' := ix_nI (by omega)
    rw [eq, et]
    have t1 : nI t' = nI 1 ↔ t' = 1 := nI_eq (by omega) (by omega)
    have t2 : nI t' = nI 2 ↔ t' = 2 := nI_eq (by omega) (by omega)
    have key : ∀ h1, h1.2 = h.2 → fr frHd h h1 → hI h1 176 q' = nI t' → (∀ a, a < 4 → a ≠ q' → hI h1 176 a = hI h 176 a ∧ hI h1 177 a = hI h 177 a ∧ hL h1 178 a = hL h 178 a ∧ ∀ j, j < 56 → hI h1 179 (56 * a + j) = hI h 179 (56 * a + j)) → hI h1 177 q' = nI (hkN K (nI t') v) → hL h1 178 q' = v → (t' = 2 → ∀ j, j < 7 * nr → hI h1 179 (56 * q' + j) = hI h 159 j) → mHd (updN hs q' t') (updN hk q' (hkN K (nI t') v)) (updN hU q' U) (updN hW q' V) (updN hv q' v) h1 := by
      intro h1 _ f e1 e2 e3 e4 e5 a ha
      by_cases z : a = q'
      · rw [z, updN_s, updN_s, updN_s, updN_s, updN_s]
        refine ⟨e1, by omega, fun y => ⟨e3, ?_⟩, fun y => ⟨e3, ⟨?_, ?_⟩, ?_⟩, fun _ => e4⟩
        · obtain ⟨k, hk, rfl, ek⟩ := (ok.2.2.1 (t1.mpr y)).ex (by omega)
          rw [hkN_1 (t1.mpr y), ek]
          exact (s.ok hk).1
        · obtain ⟨k, hk, rfl, ek⟩ := (ok.2.2.2 (t2.mpr y)).ex (by omega)
          rw [hkN_2 (fun w => by have := t1.mp w; omega) (t2.mpr y), ek]
          omega
        · obtain ⟨k, hk, rfl, ek⟩ := (ok.2.2.2 (t2.mpr y)).ex (by omega)
          rw [hkN_2 (fun w => by have := t1.mp w; omega) (t2.mpr y), ek]
          intro i hi
          exact r.2.1.2 i (by omega)
        · obtain ⟨k, hk, rfl, ek⟩ := (ok.2.2.2 (t2.mpr y)).ex (by omega)
          rw [hkN_2 (fun w => by have := t1.mp w; omega) (t2.mpr y), ek]
          intro i hi
          have g := r.2.2 i (by omega)
          refine ⟨fun x hx => ?_, ?_⟩
          · rw [Nat.add_assoc, e5 y _ (by omega)]
            have := g.1 x hx
            rw [show 0 + 7 * i + x = 7 * i + x by omega] at this
            exact this
          · rw [Nat.add_assoc, e5 y _ (by omega)]
            have := g.2
            rw [show 0 + 7 * i + 6 = 7 * i + 6 by omega] at this
            exact this
      · have g := m a ha
        have w := e2 a ha z
        rw [updN_o z, updN_o z, updN_o z, updN_o z, updN_o z]
        refine ⟨w.1.trans g.1, g.2.1, fun y => ⟨w.2.1.trans (g.2.2.1 y).1, (g.2.2.1 y).2⟩, fun y => ⟨w.2.1.trans (g.2.2.2.1 y).1, (g.2.2.2.1 y).2.1, fun i hi => ?_⟩, fun y => w.2.2.1.trans (g.2.2.2.2 y)⟩
        have b := (g.2.2.2.1 y).2
        have b8 := b.1.1
        refine ⟨fun x hx => ?_, ?_⟩
        · rw [Nat.add_assoc, w.2.2.2 _ (by omega), ← Nat.add_assoc]
          exact (b.2 i hi).1 x hx
        · rw [Nat.add_assoc, w.2.2.2 _ (by omega), ← Nat.add_assoc]
          exact (b.2 i hi).2
    have lp : ∀ k i, i + k = 7 * nr → ∀ h1, fr [(179, none)] h1 h1 → h1.2 = h.2 → fr frHd h h1 → hI h1 176 q' = nI t' → (∀ a, a < 4 → a ≠ q' → hI h1 176 a = hI h 176 a ∧ hI h1 177 a = hI h 177 a ∧ hL h1 178 a = hL h 178 a ∧ ∀ j, j < 56 → hI h1 179 (56 * a + j) = hI h 179 (56 * a + j)) → hI h1 177 q' = nI (hkN K (nI t') v) → hL h1 178 q' = v → (t' = 2 → ∀ j, j < i → hI h1 179 (56 * q' + j) = hI h 159 j) → ∃ h', XX true 3 244 119 [.ref 153, .int (nI q'), .int (nI t'), ax_junk, ax_junk, .int (nI (hs q')), .int (nI i)] [] (h1) ((some (.int (nI (hs q'))), h')) ∧ fr frHd h h' ∧ mHd (updN hs q' t') (updN hk q' (hkN K (nI t') v)) (updN hU q' U) (updN hW q' V) (updN hv q' v) h' := by
      intro k
      induction k with
      | zero =>
        intro i hi h1 _ b0 f b1 b2 b3 b4 b5
        obtain rfl : i = 7 * nr := hi
        refine ⟨h1, ?_, f, key h1 b0 f b1 b2 b3 b4 b5⟩
        refine wb_X12_hold_119 ?_
        rw [f.I rfl, r.1, nI_mulI, if_neg (nI_nlt (Nat.le_refl _) (by omega))]
      | succ k ih =>
        intro i hi h1 _ b0 f b1 b2 b3 b4 b5
        by_cases y : t' = 2
        · obtain ⟨h', x, z⟩ := ih (i + 1) (by omega) (ax_wr h1 179 (56 * q' + i) (.int (hI h 159 i))) fr.rfl' b0 (f.wr' (by simp [inS])) (by rw [wr_Ia (by decide)]; exact b1) (fun a ha w => ⟨by rw [wr_Ia (by decide)]; exact (b2 a ha w).1, by rw [wr_Ia (by decide)]; exact (b2 a ha w).2.1, by rw [wr_La (by decide)]; exact (b2 a ha w).2.2.1, fun j hj => by rw [wr_Ij (by omega)]; exact (b2 a ha w).2.2.2 j hj⟩) (by rw [wr_Ia (by decide)]; exact b3) (by rw [wr_La (by decide)]; exact b4) (fun _ j hj => by
            by_cases w : j = i
            · rw [w, wr_I]
            · rw [wr_Ij (by omega)]
              exact b5 y j (by omega))
          refine ⟨h', ?_, z⟩
          refine wb_X12_hold_119 ?_
          rw [f.I rfl, r.1, nI_mulI, if_pos (nI_lt (by omega) (by omega)), if_pos (t2.mpr y), nI_mulI, nI_add, ix_nI (by omega), ix_nI (by omega), nI_s, f.I rfl]
          exact ⟨in_nI (by omega) (by decide), in_nI (by omega) (by decide), x⟩
        · refine ⟨h1, ?_, f, key h1 b0 f b1 b2 b3 b4 (fun w => absurd w y)⟩
          refine wb_X12_hold_119 ?_
          rw [f.I rfl, r.1, nI_mulI, if_pos (nI_lt (by omega) (by omega)), if_neg (fun w => y (t2.mp w))]
    have h0 : ∀ h2, h2 = ax_wr (ax_wr (ax_wr h 176 q' (.int (nI t'))) 177 q' (.int (nI (hkN K (nI t') v)))) 178 q' (.long v) → ∃ h', XX true 3 244 119 [.ref 153, .int (nI q'), .int (nI t'), ax_junk, ax_junk, .int (nI (hs q')), .int (nI 0)] [] (h2) ((some (.int (nI (hs q'))), h')) ∧ fr frHd h h' ∧ mHd (updN hs q' t') (updN hk q' (hkN K (nI t') v)) (updN hU q' U) (updN hW q' V) (updN hv q' v) h' := by
      rintro h2 rfl
      refine lp (7 * nr) 0 (by omega) _ fr.rfl' rfl (((fr.wr (by simp [inS])).wr' (by simp [inS])).wr' (by simp [inS])) (by rw [wr_Ia (by decide), wr_Ia (by decide), wr_I]) (fun a ha z => ⟨?_, ?_, ?_, fun j hj => ?_⟩) (by rw [wr_Ia (by decide), wr_I]) (wr_L _ _ _ _) (fun _ j hj => absurd hj (Nat.not_lt_zero _))
      · rw [wr_Ia (by decide), wr_Ia (by decide), wr_Ij z]
      · rw [wr_Ia (by decide), wr_Ij z, wr_Ia (by decide)]
      · rw [wr_Ln (fun w => z w.2), wr_La (by decide), wr_La (by decide)]
      · rw [wr_Ia (by decide), wr_Ia (by decide), wr_Ia (by decide)]
    obtain ⟨h', x, y⟩ := h0 _ rfl
    refine ⟨h', pre _ (fun z => absurd ok z) (fun _ => ?_), y⟩
    have go : ∀ w : Int32, w = nI (hkN K (nI t') v) → XX true 3 244 108 [.ref 153, .int (nI q'), .int (nI t'), .long (v), ax_junk, .int (nI (hs q')), ax_junk] [.int (w), .int (nI q'), .ref 177] (ax_wr h 176 q' (.int (nI t'))) ((some (.int (nI (hs q'))), h')) := by
      intro w hw
      refine wb_X12_hold_108 ?_
      rw [hw, eq]
      exact ⟨in_nI (by omega) (by decide), in_nI (by omega) (by decide), wk_X12_hold_119 x⟩
    refine wb_X12_hold_62 ?_
    rw [eq, (m q' (by omega)).1]
    refine ⟨in_nI (by omega) (by decide), in_nI (by omega) (by decide), ?_⟩
    by_cases y1 : nI t' = nI 1
    · obtain ⟨k, hk, e, ek⟩ := (ok.2.2.1 y1).ex (by omega)
      rw [if_pos y1, ek]
      refine ⟨?_, wk_X12_hold_108 (go _ ?_)⟩
      · rw [e]
        have e4 : ∀ n, n < 6 → ax_in (lN n).toInt32 6 = true := by decide +kernel
        exact e4 k (by omega)
      · rw [wr_Ia (by decide), s.KK hk, hkN_1 y1, ek]
    · rw [if_neg y1]
      by_cases y2 : nI t' = nI 2
      · obtain ⟨k, hk, e, ek⟩ := (ok.2.2.2 y2).ex (by omega)
        rw [if_pos y2]
        refine wk_X12_hold_108 (go _ ?_)
        rw [hkN_2 y1 y2, ek, e]
        have e4 : ∀ n, n < 8 → (lN n).toInt32 = nI n := by decide +kernel
        exact e4 k (by omega)
      · rw [if_neg y2]
        refine wk_X12_hold_108 (go _ ?_)
        rw [hkN_0 y1 y2]
  · intro no
    exact pre _ (fun z => by unfold a_hold; rw [if_neg z]) (fun z => absurd z no)
def a_lacks (hs : Nat → Nat) (q k : Nat) : Int32 := if hs q = 0 then -nI 11 else if hs q = k then nI 0 else -nI 13
theorem sp_lacks (m : mHd hs hk hU hW hv h) {q k : Nat} (hq : q < 4) (hk4 : k < 4) : XX true 1 247 0 [.ref 153, .int (nI q), .int (nI k)] [] (h) (some (.int (a_lacks hs q k)), h) := by
  have g := m q hq
  have g2 := g.2.1
  unfold a_lacks
  refine wb_X12_lacks_0 ?_
  rw [ix_nI (by omega), g.1]
  refine ⟨in_nI hq (by decide), ?_⟩
  by_cases z : hs q = 0
  · rw [if_pos (congrArg nI z), if_pos z]
  · rw [if_neg (nI_z (by omega) (by omega)), if_neg z]
    refine ⟨in_nI hq (by decide), ?_⟩
    by_cases y : hs q = k
    · rw [if_pos (congrArg nI y), if_pos y]
    · rw [if_neg (fun w => y ((nI_eq (by omega) (by omega)).mp w)), if_neg y]
def a_asStage (hs hk : Nat → Nat) (q a : Int32) : Int32 := if isLe 3 q ∧ isLe 2 a then (if hs (ix q) = 0 then -nI 11 else if hs (ix q) = 1 ∧ (a = nI 2 ∨ (a = nI 0 ∧ isChc (hk (ix q))) ∨ (a ≠ nI 0 ∧ isCha (hk (ix q)))) then nI (hk (ix q)) else -nI 13) else -nI 2
theorem mo_asStage (m : mHd hs hk hU hW hv h) (q a : Int32) : XX true 3 246 0 [.ref 153, .int (q), .int (a), ax_junk, ax_junk] [] (h) (some (.int (a_asStage hs hk q a)), h) := by
  unfold a_asStage
  refine wb_X12_asStage_0 ?_
  refine (cl_X12_asStage_1 rfl (by decide) (sp_isHand _ _)).mpr ?_
  refine wb_X12_asStage_4 ?_
  by_cases y1 : isLe 3 q
  · rw [b2i_t y1, if_neg (by decide)]
    refine (cl_X12_asStage_13 rfl (by decide) (sp_in _ _ _ _)).mpr ?_
    refine wb_X12_asStage_16 ?_
    rw [b2i_cong (isLe_l (by decide) a)]
    by_cases y2 : isLe 2 a
    · rw [b2i_t y2, if_neg (by decide), if_pos ⟨y1, y2⟩]
      obtain ⟨q', hq, rfl⟩ := y1.ex (by decide)
      have eq : ix (nI q') = q' := ix_nI (by omega)
      rw [eq]
      have g := m q' (by omega)
      refine (cl_X12_asStage_25 rfl (by decide) (sp_lacks m (by omega) (by decide))).mpr ?_
      refine wb_X12_asStage_28 ?_
      rw [eq]
      refine ⟨in_nI (by omega) (by decide), ?_⟩
      by_cases z0 : hs q' = 0
      · rw [show a_lacks hs q' 1 = -nI 11 from if_pos z0, if_pos z0, if_neg (by decide)]
      · rw [if_neg z0]
        by_cases z1 : hs q' = 1
        · rw [show a_lacks hs q' 1 = nI 0 from (if_neg z0).trans (if_pos z1), if_pos rfl, (g.2.2.1 z1).1]
          have k8 := (g.2.2.1 z1).2
          by_cases a2 : a = nI 2
          · rw [if_pos a2, if_pos ⟨z1, Or.inl a2⟩]
            refine wk_X12_asStage_73 ?_
            refine wb_X12_asStage_73 ?_
            rfl
          · rw [if_neg a2]
            by_cases a0 : a = nI 0
            · rw [if_pos a0]
              refine (cl_X12_asStage_56 rfl (by decide) (sp_isChoice (by omega) h)).mpr ?_
              refine wb_X12_asStage_59 ?_
              by_cases c1 : isChc (hk q')
              · rw [b2i_t c1, if_neg (by decide), if_pos ⟨z1, Or.inr (Or.inl ⟨a0, c1⟩)⟩]
                refine wk_X12_asStage_73 ?_
                refine wb_X12_asStage_73 ?_
                rfl
              · rw [b2i_f c1, if_pos rfl, if_neg (fun w => w.2.elim a2 (fun w => w.elim (fun w => c1 w.2) (fun w => w.1 a0)))]
            · rw [if_neg a0]
              refine (cl_X12_asStage_67 rfl (by decide) (sp_isChance k8 h)).mpr ?_
              refine wb_X12_asStage_70 ?_
              by_cases c1 : isCha (hk q')
              · rw [b2i_t c1, if_neg (by decide), if_pos ⟨z1, Or.inr (Or.inr ⟨a0, c1⟩)⟩]
                refine wk_X12_asStage_73 ?_
                refine wb_X12_asStage_73 ?_
                rfl
              · rw [b2i_f c1, if_pos rfl, if_neg (fun w => w.2.elim a2 (fun w => w.elim (fun w => a0 w.1) (fun w => c1 w.2)))]
        · rw [show a_lacks hs q' 1 = -nI 13 from (if_neg z0).trans (if_neg z1), if_neg (by decide), if_neg (fun w => z1 w.1)]
    · rw [b2i_f y2, if_pos rfl, if_neg (fun z => y2 z.2)]
  · rw [b2i_f y1, if_pos rfl, if_neg (fun z => y1 z.1)]
def a_asAmount (c n : Nat) (K B : Nat → Nat) (W : Nat → Int) (hs hk : Nat → Nat) (hU : Nat → Nat → Nat → Nat) (hW : Nat → Nat → Int) (q w : Int32) : Int32 := if isLe 3 q ∧ isLt (v_ways c K B n) w then (if hs (ix q) = 0 then -nI 11 else if hs (ix q) = 2 then iI (v_am (hU (ix q)) (hW (ix q)) W c n (v_what c K B n (ix w)) 9 (hk (ix q))) else -nI 13) else -nI 2
theorem mo_asAmount (s : mS c n K P B h) (w : mW W h) (m : mHd hs hk hU hW hv h) (q k : Int32) : ∃ h', XX true 16 248 0 [.ref 153, .int (q), .int (k), ax_junk] [] (h) (some (.int (a_asAmount c n K B W hs hk hU hW q k)), h') ∧ fr [(160, none)] h h' := by
  have wl := v_ways_le s.1 (Nat.le_refl n)
  unfold a_asAmount
  by_cases y : isLe 3 q ∧ isLt (v_ways c K B n) k
  · rw [if_pos y]
    obtain ⟨y1, y2⟩ := y
    obtain ⟨q', hq, rfl⟩ := y1.ex (by decide)
    obtain ⟨b, hb, rfl⟩ := y2.ex (by omega)
    have eq : ix (nI q') = q' := ix_nI (by omega)
    have eb : ix (nI b) = b := ix_nI (by omega)
    rw [eq, eb]
    have g := m q' (by omega)
    have pre : ∀ R, XX true 16 248 24 [.ref 153, .int (nI q'), .int (nI b), ax_junk] [.int (a_lacks hs q' 2)] (h) (R) → XX true 16 248 0 [.ref 153, .int (nI q'), .int (nI b), ax_junk] [] (h) (R) := by
      intro R u
      refine wb_X12_asAmount_0 ?_
      refine (cl_X12_asAmount_1 rfl (by decide) (sp_isHand _ _)).mpr ?_
      refine wb_X12_asAmount_4 ?_
      rw [b2i_t y1, if_neg (by decide)]
      refine (cl_X12_asAmount_9 rfl (by decide) (sp_isWay s _)).mpr ?_
      refine wb_X12_asAmount_12 ?_
      rw [b2i_t y2, if_neg (by decide)]
      refine (cl_X12_asAmount_21 rfl (by decide) (sp_lacks m (by omega) (by decide))).mpr ?_
      exact u
    by_cases z0 : hs q' = 0
    · refine ⟨h, pre _ ?_, fr.rfl'⟩
      have e : a_lacks hs q' 2 = -nI 11 := if_pos z0
      rw [e, if_pos z0]
      refine wb_X12_asAmount_24 ?_
      rw [if_neg (by decide)]
    · by_cases z2 : hs q' = 2
      · have e : a_lacks hs q' 2 = nI 0 := by unfold a_lacks; rw [if_neg z0, if_pos z2]
        obtain ⟨h1, r1, f, o⟩ := sp_lays s (Nat.le_refl _) hb
        have s1 : mS c n K P B h1 := s.fr f rfl
        have m1 := m.fr f (fun _ => rfl) (fun _ => rfl) (fun _ => rfl) (fun _ => rfl)
        have he : ∀ i, i < n → v_what c K B n b i < 5 := fun i hi => v_what_lt s.1 (Nat.le_refl _) b hi
        have g1 := ((m1 q' (by omega)).2.2.2.1 z2)
        have b8 := g1.2.1.1
        refine ⟨h1, pre _ ?_, f⟩
        rw [e, if_neg z0, if_pos z2]
        refine wb_X12_asAmount_24 ?_
        rw [if_pos rfl, s.nn]
        refine (cl_X12_asAmount_37 rfl (by decide) (r1)).mpr ?_
        refine wb_X12_asAmount_40 ?_
        rw [eq, g1.1, nI_mulI]
        refine ⟨in_nI (by omega) (by decide), ?_⟩
        refine (cl_X12_asAmount_55 rfl (by decide) (sp_amountB s1 (w.fr f (fun _ => rfl)) g1.2 (by omega) o he (by omega))).mpr ?_
        refine wb_X12_asAmount_58 ?_
        rfl
      · have e : a_lacks hs q' 2 = -nI 13 := by unfold a_lacks; rw [if_neg z0, if_neg z2]
        refine ⟨h, pre _ ?_, fr.rfl'⟩
        rw [e, if_neg z0, if_neg z2]
        refine wb_X12_asAmount_24 ?_
        rw [if_neg (by decide)]
  · rw [if_neg y]
    refine ⟨h, ?_, fr.rfl'⟩
    refine wb_X12_asAmount_0 ?_
    refine (cl_X12_asAmount_1 rfl (by decide) (sp_isHand _ _)).mpr ?_
    refine wb_X12_asAmount_4 ?_
    by_cases y1 : isLe 3 q
    · rw [b2i_t y1, if_neg (by decide)]
      refine (cl_X12_asAmount_9 rfl (by decide) (sp_isWay s _)).mpr ?_
      refine wb_X12_asAmount_12 ?_
      rw [b2i_f (fun z => y ⟨y1, z⟩), if_pos rfl]
    · rw [b2i_f y1, if_pos rfl]
def a_asView (c n : Nat) (K P B : Nat → Nat) (hs : Nat → Nat) (hv : Nat → Int64) (q p j : Int32) : Int32 := if isLe 3 q ∧ isPl p ∧ isLe n j then (if hs (ix q) = 0 then -nI 11 else if hs (ix q) = 3 then nI (cntN (fun w => decide ((nI (v_vw c K P B (ix p) (ix j) w)).toInt64 = hv (ix q))) (v_ways c K B (ix j))) else -nI 13) else -nI 2
theorem mo_asView (s : mS c n K P B h) (m : mHd hs hk hU hW hv h) (q p j : Int32) : ∃ h', XX true 6 249 0 [.ref 153, .int (q), .int (p), .int (j), ax_junk] [] (h) (some (.int (a_asView c n K P B hs hv q p j)), h') ∧ fr [(160, none)] h h' := by
  have h6 := s.n6
  unfold a_asView
  by_cases y : isLe 3 q ∧ isPl p ∧ isLe n j
  · rw [if_pos y]
    obtain ⟨y1, y2, y3⟩ := y
    obtain ⟨q', hq, rfl⟩ := y1.ex (by decide)
    obtain ⟨p', hp, rfl⟩ := y2.ex
    obtain ⟨j', hj, rfl⟩ := y3.ex (by omega)
    have eq : ix (nI q') = q' := ix_nI (by omega)
    have ep : ix (nI p') = p' := ix_nI (by omega)
    have ej : ix (nI j') = j' := ix_nI (by omega)
    rw [eq, ep, ej]
    have g := m q' (by omega)
    have pre : ∀ R, XX true 6 249 31 [.ref 153, .int (nI q'), .int (nI p'), .int (nI j'), ax_junk] [.int (a_lacks hs q' 3)] (h) (R) → XX true 6 249 0 [.ref 153, .int (nI q'), .int (nI p'), .int (nI j'), ax_junk] [] (h) (R) := by
      intro R u
      refine wb_X12_asView_0 ?_
      refine (cl_X12_asView_1 rfl (by decide) (sp_isHand _ _)).mpr ?_
      refine wb_X12_asView_4 ?_
      rw [b2i_t y1, if_neg (by decide)]
      refine (cl_X12_asView_8 rfl (by decide) (sp_isPlayer _ _)).mpr ?_
      refine wb_X12_asView_11 ?_
      rw [b2i_t y2, if_neg (by decide)]
      refine (cl_X12_asView_16 rfl (by decide) (sp_isBehind s _)).mpr ?_
      refine wb_X12_asView_19 ?_
      rw [b2i_t y3, if_neg (by decide)]
      refine (cl_X12_asView_28 rfl (by decide) (sp_lacks m (by omega) (by decide))).mpr ?_
      exact u
    have out : ∀ x, x ≠ nI 0 → a_lacks hs q' 3 = x → XX true 6 249 0 [.ref 153, .int (nI q'), .int (nI p'), .int (nI j'), ax_junk] [] (h) (some (.int (x)), h) := by
      intro x hx e
      refine pre _ ?_
      rw [e]
      refine wb_X12_asView_31 ?_
      rw [if_neg hx]
      refine wb_X12_asView_55 ?_
      rfl
    by_cases z0 : hs q' = 0
    · rw [if_pos z0]
      exact ⟨h, out _ (by decide) (if_pos z0), fr.rfl'⟩
    · by_cases z2 : hs q' = 3
      · have e : a_lacks hs q' 3 = nI 0 := by unfold a_lacks; rw [if_neg z0, if_pos z2]
        obtain ⟨h1, r1, f⟩ := sp_worldsOf s (j := j') (by omega) hp (hv q')
        refine ⟨h1, pre _ ?_, f⟩
        rw [e, if_neg z0, if_pos z2]
        refine wb_X12_asView_31 ?_
        rw [if_pos rfl, eq, g.2.2.2.2 z2]
        refine ⟨in_nI (by omega) (by decide), ?_⟩
        refine (cl_X12_asView_52 rfl (by decide) (r1)).mpr ?_
        refine wb_X12_asView_55 ?_
        rfl
      · rw [if_neg z0, if_neg z2]
        exact ⟨h, out _ (by decide) (by unfold a_lacks; rw [if_neg z0, if_neg z2]), fr.rfl'⟩
  · rw [if_neg y]
    refine ⟨h, ?_, fr.rfl'⟩
    refine wb_X12_asView_0 ?_
    refine (cl_X12_asView_1 rfl (by decide) (sp_isHand _ _)).mpr ?_
    refine wb_X12_asView_4 ?_
    by_cases y1 : isLe 3 q
    · rw [b2i_t y1, if_neg (by decide)]
      refine (cl_X12_asView_8 rfl (by decide) (sp_isPlayer _ _)).mpr ?_
      refine wb_X12_asView_11 ?_
      by_cases y2 : isPl p
      · rw [b2i_t y2, if_neg (by decide)]
        refine (cl_X12_asView_16 rfl (by decide) (sp_isBehind s _)).mpr ?_
        refine wb_X12_asView_19 ?_
        rw [b2i_f (fun z => y ⟨y1, y2, z⟩), if_pos rfl]
      · rw [b2i_f y2, if_pos rfl]
    · rw [b2i_f y1, if_pos rfl]
end S49
