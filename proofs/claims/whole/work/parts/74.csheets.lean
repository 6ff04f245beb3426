/-! THE CLASS'S CALLS: sheets -/
theorem shO : ∀ s, s < 4 → ∀ h : AH, toR (ax_rd true h 140 s) = rf (141 + 2 * s) ∧ dO h (141 + 2 * s) 5 ∧ gR h (141 + 2 * s) 2 = rf (142 + 2 * s) ∧ dA h (142 + 2 * s) 40 ∧ gI h (141 + 2 * s) 0 = hI h (141 + 2 * s) 0 ∧ gI h (141 + 2 * s) 1 = hI h (141 + 2 * s) 1 ∧ ax_wok true (141 + 2 * s) 0 = true ∧ ax_wok true (141 + 2 * s) 1 = true ∧ (∀ x, gI h (142 + 2 * s) x = hI h (142 + 2 * s) x) ∧ ∀ x, ax_wok true (142 + 2 * s) x = true
  | 0, _, _ => ⟨rfl, ⟨by decide, rfl, rfl⟩, rfl, ⟨by decide, rfl, rfl⟩, rfl, rfl, rfl, rfl, fun _ => rfl, fun _ => rfl⟩
  | 1, _, _ => ⟨rfl, ⟨by decide, rfl, rfl⟩, rfl, ⟨by decide, rfl, rfl⟩, rfl, rfl, rfl, rfl, fun _ => rfl, fun _ => rfl⟩
  | 2, _, _ => ⟨rfl, ⟨by decide, rfl, rfl⟩, rfl, ⟨by decide, rfl, rfl⟩, rfl, rfl, rfl, rfl, fun _ => rfl, fun _ => rfl⟩
  | 3, _, _ => ⟨rfl, ⟨by decide, rfl, rfl⟩, rfl, ⟨by decide, rfl, rfl⟩, rfl, rfl, rfl, rfl, fun _ => rfl, fun _ => rfl⟩
  | n + 4, h, _ => absurd h (by omega)
def cSh (sS sZ : Nat → Nat) (sN : Nat → Nat → Int32) (h : AH) : Prop := ∀ s, s < 4 → sS s < 3 ∧ sZ s ≤ 40 ∧ hI h (141 + 2 * s) 0 = srW (sS s) ∧ hI h (141 + 2 * s) 1 = nI (sZ s) ∧ ∀ i, i < 40 → hI h (142 + 2 * s) i = sN s i
theorem cSh_fx {k0 : Nat} {sS sZ : Nat → Nat} {sN : Nat → Nat → Int32} {h h' : AH} (x : cSh sS sZ sN h) {L : List (Nat × Option Nat)} (f : fx k0 L h h') (al : 181 ≤ h.2.2.1) (q : outS 141 149 L = true) : cSh sS sZ sN h' := fun s hs => ⟨(x s hs).1, (x s hs).2.1, (f.I (by omega) (outS_in q (by omega) (by omega) _)).trans (x s hs).2.2.1, (f.I (by omega) (outS_in q (by omega) (by omega) _)).trans (x s hs).2.2.2.1, fun i hi => (f.I (by omega) (outS_in q (by omega) (by omega) _)).trans ((x s hs).2.2.2.2 i hi)⟩
theorem cSh_fr {sS sZ : Nat → Nat} {sN : Nat → Nat → Int32} {h h' : AH} (x : cSh sS sZ sN h) {L : List (Nat × Option Nat)} (f : fr L h h') (q : outS 141 149 L = true) : cSh sS sZ sN h' := fun s hs => ⟨(x s hs).1, (x s hs).2.1, (f.I (outS_in q (by omega) (by omega) _)).trans (x s hs).2.2.1, (f.I (outS_in q (by omega) (by omega) _)).trans (x s hs).2.2.2.1, fun i hi => (f.I (outS_in q (by omega) (by omega) _)).trans ((x s hs).2.2.2.2 i hi)⟩
abbrev cfSh : List (Nat × Option Nat) := [(141, some 0), (141, some 1), (142, none), (143, some 0), (143, some 1), (144, none), (145, some 0), (145, some 1), (146, none), (147, some 0), (147, some 1), (148, none)]
theorem cfSh_in : ∀ s, s < 4 → ∀ i, inS cfSh (141 + 2 * s) 0 = true ∧ inS cfSh (141 + 2 * s) 1 = true ∧ inS cfSh (142 + 2 * s) i = true
  | 0, _, _ => ⟨rfl, rfl, rfl⟩ | 1, _, _ => ⟨rfl, rfl, rfl⟩ | 2, _, _ => ⟨rfl, rfl, rfl⟩ | 3, _, _ => ⟨rfl, rfl, rfl⟩
  | n + 4, h, _ => absurd h (by omega)
theorem sr_m1 : ∀ x, x < 3 → (srW x = -nI 1 ↔ x = 0) := by decide
theorem sr_n1 : ∀ x, x < 3 → (srW x = -nI 1 ↔ srW x < nI 0) := by decide
theorem sr_p1 : ∀ x, x < 3 → (srW x + nI 1).toInt.toNat = x := by decide
theorem sr_0 : ∀ x, x < 3 → (srW x = nI 0 ↔ x = 1) := by decide
section S74
variable {c n np : Nat} {K P B S T C : Nat → Nat} {sS sZ : Nat → Nat} {sN : Nat → Nat → Int32} {h h' : AH}
theorem cp_isSheet (p : Int32) (h : AH) : XX true 1 133 0 [.int (p)] [] (h) (some (.int (b2i (isLe 3 p))), h) := by
  have e : p < nI 4 ↔ p ≤ nI 3 := by
    rw [Int32.lt_iff_toInt_lt, Int32.le_iff_toInt_le, show (nI 4).toInt = 4 by decide, show (nI 3).toInt = 3 by decide]
    omega
  refine wb_X11_isSheet_0 ?_
  by_cases q : p < nI 0
  · rw [if_pos q, b2i_f (fun z => absurd z.1 (Int32.not_le.mpr q))]
  · rw [if_neg q]
    by_cases r : p < nI 4
    · rw [if_pos r, b2i_t ⟨Int32.not_lt.mp q, e.mp r⟩]
    · rw [if_neg r, b2i_f (fun z => r (e.mpr z.2))]
theorem sp_shOpen (m : cSh sS sZ sN h) {s x k : Nat} (hs : s < 4) (hx : x < 3) (hk : k ≤ 40) : ∃ h', XX true 1 134 0 [rf (141 + 2 * s), .int (srW x), .int (nI k), ax_junk] [] (h) (none, h') ∧ fr cfSh h h' ∧ cSh (updN sS s x) (updN sZ s k) (updN sN s (fun _ => nI 0)) h' := by
  have lp : ∀ f i, i + f = 40 → ∀ h1, fr cfSh h h1 → (∀ s', s' < 4 → hI h1 (141 + 2 * s') 0 = srW (updN sS s x s') ∧ hI h1 (141 + 2 * s') 1 = nI (updN sZ s k s')) → (∀ s' j, s' < 4 → j < 40 → s' ≠ s → hI h1 (142 + 2 * s') j = sN s' j) → (∀ j, j < i → hI h1 (142 + 2 * s) j = nI 0) → ∃ h', XX true 1 134 12 [rf (141 + 2 * s), ax_junk, ax_junk, .int (nI i)] [] (h1) ((none, h')) ∧ fr cfSh h h' ∧ cSh (updN sS s x) (updN sZ s k) (updN sN s (fun _ => nI 0)) h' := by
    intro f
    induction f with
    | zero =>
      intro i hi h1 f1 c1 c2 c3
      obtain rfl : i = 40 := hi
      refine ⟨h1, ?_, f1, fun s' hs' => ⟨?_, ?_, (c1 s' hs').1, (c1 s' hs').2, fun j hj => ?_⟩⟩
      · refine wb_X6_open_12 ?_
        rw [if_neg (by decide)]
      · by_cases e : s' = s
        · rw [e, updN_s]; exact hx
        · rw [updN_o e]; exact (m s' hs').1
      · by_cases e : s' = s
        · rw [e, updN_s]; exact hk
        · rw [updN_o e]; exact (m s' hs').2.1
      · by_cases e : s' = s
        · rw [e, updN_s]; exact c3 j hj
        · rw [updN_o e]; exact c2 s' j hs' hj e
    | succ f ih =>
      intro i hi h1 f1 c1 c2 c3
      have so := shO s hs h1
      obtain ⟨h', r, y⟩ := ih (i + 1) (by omega) (ax_wr h1 (142 + 2 * s) i (.int (nI 0))) (f1.wr' (cfSh_in s hs i).2.2) (fun s' hs' => ⟨by rw [wr_Ia (by omega)]; exact (c1 s' hs').1, by rw [wr_Ia (by omega)]; exact (c1 s' hs').2⟩) (fun s' j hs' hj e => by rw [wr_Ia (by omega)]; exact c2 s' j hs' hj e) (fun j hj => by
        by_cases e : j = i
        · rw [e, wr_I]
        · rw [wr_Ij e]; exact c3 j (by omega))
      refine ⟨h', ?_, y⟩
      refine wb_X6_open_12 ?_
      rw [if_pos (nI_lt (by omega) (by omega)), ix_nI (by omega), nI_s]
      exact ⟨so.2.1, _, so.2.2.1, 40, so.2.2.2.1, in_nI (by omega) (by decide), so.2.2.2.2.2.2.2.2.2 _, r⟩
  have so := shO s hs h
  have so2 := shO s hs (ax_wr h (141 + 2 * s) 0 (.int (srW x)))
  obtain ⟨h', r, y⟩ := lp 40 0 rfl (ax_wr (ax_wr h (141 + 2 * s) 0 (.int (srW x))) (141 + 2 * s) 1 (.int (nI k))) ((fr.wr (cfSh_in s hs 0).1).wr' (cfSh_in s hs 0).2.1) (fun s' hs' => by
    by_cases e : s' = s
    · rw [e, updN_s, updN_s, wr_Ij (by decide), wr_I, wr_I]
      exact ⟨rfl, rfl⟩
    · rw [updN_o e, updN_o e, wr_Ia (by omega), wr_Ia (by omega), wr_Ia (by omega), wr_Ia (by omega)]
      exact ⟨(m s' hs').2.2.1, (m s' hs').2.2.2.1⟩) (fun s' j hs' hj e => by rw [wr_Ia (by omega), wr_Ia (by omega)]; exact (m s' hs').2.2.2.2 j hj) (fun j hj => absurd hj (Nat.not_lt_zero _))
  refine ⟨h', ?_, y⟩
  refine wb_X6_open_0 ?_
  exact ⟨⟨so.2.1, so.2.2.2.2.2.2.1⟩, ⟨so2.2.1, so.2.2.2.2.2.2.2.1⟩, r⟩
theorem sp_shPut (m : cSh sS sZ sN h) {s i : Nat} (hs : s < 4) (hx : sS s ≠ 0) (hi : i < sZ s) (v : Int32) : XX true 1 135 0 [rf (141 + 2 * s), .int (nI i), .int (v)] [] (h) (none, ax_wr h (142 + 2 * s) i (.int (v_cw (sS s) v))) := by
  have so := shO s hs h
  have ms := m s hs
  have z40 := ms.2.1
  have g34 : ∀ x, x = v_cw (sS s) v → XX true 1 135 34 [ax_junk, ax_junk, ax_junk] [.int (x), .int (nI i), rf (142 + 2 * s)] (h) ((none, ax_wr h (142 + 2 * s) i (.int (v_cw (sS s) v)))) := by
    rintro x rfl
    refine wb_X6_put_34 ?_
    rw [ix_nI (by omega)]
    exact ⟨40, so.2.2.2.1, in_nI (by omega) (by decide), so.2.2.2.2.2.2.2.2.2 _, rfl⟩
  refine wb_X6_put_0 ?_
  rw [if_neg (nI_n0 (by omega)), so.2.2.2.2.2.1, so.2.2.2.2.1, ms.2.2.1, ms.2.2.2.1]
  refine ⟨so.2.1, ?_⟩
  rw [if_pos (nI_lt hi (by omega))]
  refine ⟨so.2.1, _, so.2.2.1, so.2.1, ?_⟩
  by_cases x1 : sS s = 1
  · rw [if_pos ((sr_0 _ ms.1).mpr x1)]
    by_cases v0 : v = nI 0
    · rw [if_pos v0]
      refine wb_X6_put_33 ?_
      exact g34 v (by unfold v_cw; rw [if_neg (by omega), if_pos v0, v0])
    · rw [if_neg v0]
      exact g34 (nI 1) (by unfold v_cw; rw [if_neg (by omega), if_neg v0])
  · rw [if_neg (fun z => x1 ((sr_0 _ ms.1).mp z))]
    refine wb_X6_put_33 ?_
    have := ms.1
    exact g34 v (by unfold v_cw; rw [if_pos (by omega)])
theorem cSh_put (m : cSh sS sZ sN h) {s i : Nat} (hs : s < 4) (v : Int32) : cSh sS sZ (updN sN s (updI (sN s) i v)) (ax_wr h (142 + 2 * s) i (.int v)) := by
  intro s' hs'
  have ms := m s' hs'
  refine ⟨ms.1, ms.2.1, ?_, ?_, fun j hj => ?_⟩
  · rw [wr_Ia (by omega)]; exact ms.2.2.1
  · rw [wr_Ia (by omega)]; exact ms.2.2.2.1
  · by_cases e : s' = s
    · rw [e, updN_s]
      unfold updI
      by_cases e2 : j = i
      · rw [e2, if_pos rfl, wr_I]
      · rw [if_neg e2, wr_Ij e2]
        exact (m s hs).2.2.2.2 j hj
    · rw [updN_o e, wr_Ia (by omega)]
      exact ms.2.2.2.2 j hj
theorem sp_shSum (m : cSh sS sZ sN h) {s : Nat} (hs : s < 4) : XX true 1 136 0 [rf (141 + 2 * s), ax_junk, ax_junk] [] (h) (some (.int (sumI (sN s) (sZ s))), h) := by
  have so := shO s hs h
  have ms := m s hs
  have z40 := ms.2.1
  have lp : ∀ k i, i + k = sZ s → XX true 1 136 4 [rf (141 + 2 * s), .int (sumI (sN s) i), .int (nI i)] [] (h) ((some (.int (sumI (sN s) (sZ s))), h)) := by
    intro k
    induction k with
    | zero =>
      intro i hi
      have e : i = sZ s := hi
      refine wb_X6_sum_4 ?_
      rw [so.2.2.2.2.2.1, ms.2.2.2.1, if_neg (nI_nlt (by omega) (by omega)), e]
      exact ⟨so.2.1, rfl⟩
    | succ k ih =>
      intro i hi
      have g := ih (i + 1) (by omega)
      have e : sumI (sN s) (i + 1) = sumI (sN s) i + sN s i := rfl
      rw [e] at g
      refine wb_X6_sum_4 ?_
      rw [so.2.2.2.2.2.1, ms.2.2.2.1, if_pos (nI_lt (by omega) (by omega))]
      refine ⟨so.2.1, so.2.1, _, so.2.2.1, 40, so.2.2.2.1, in_nI (by omega) (by decide), ?_⟩
      rw [so.2.2.2.2.2.2.2.2.1, ix_nI (by omega), ms.2.2.2.2 i (by omega), nI_s]
      exact g
  refine wb_X6_sum_0 ?_
  exact lp (sZ s) 0 (by omega)
theorem cp_wrong (m : cSh sS sZ sN h) (s i : Int32) : XX true 2 139 0 [.ref 64, .int (s), .int (i)] [] (h) (some (.int (a_wrong sS sZ s i)), h) := by
  unfold a_wrong
  refine wb_X11_cellRefused_0 ?_
  refine cl_X11_cellRefused_1 rfl (by decide) (cp_isSheet _ _) ?_
  refine wb_X11_cellRefused_4 ?_
  by_cases q : isLe 3 s
  · rw [b2i_t q, if_neg (by decide), if_pos q]
    obtain ⟨a, ha, rfl⟩ := q.ex (by decide)
    have ms := m a (by omega)
    have z40 := ms.2.1
    have so := shO a (by omega) h
    rw [ix_nI (by omega)]
    refine ⟨in_nI (by omega) (by decide), _, so.1, so.2.1, ?_⟩
    rw [so.2.2.2.2.1, ms.2.2.1]
    by_cases z : sS a = 0
    · rw [if_pos ((sr_m1 _ ms.1).mpr z), if_pos z]
    · rw [if_neg (fun u => z ((sr_m1 _ ms.1).mp u)), if_neg z]
      have g43 : XX true 2 139 43 [ax_junk, ax_junk, ax_junk] [] (h) ((some (.int (-nI 12)), h)) := by
        refine wb_X11_cellRefused_43 ?_
        rfl
      by_cases i0 : i < nI 0
      · rw [if_pos i0, if_neg (fun y => absurd y.1 (Int32.not_le.mpr i0))]
        exact g43
      · rw [if_neg i0]
        refine ⟨in_nI (by omega) (by decide), _, so.1, so.2.1, ?_⟩
        rw [so.2.2.2.2.2.1, ms.2.2.2.1]
        by_cases i1 : i < nI (sZ a)
        · rw [if_pos i1, if_pos ⟨Int32.not_lt.mp i0, i1⟩]
        · rw [if_neg i1, if_neg (fun y => i1 y.2)]
          exact g43
  · rw [b2i_f q, if_pos rfl, if_neg q]
theorem co_read (m : cSh sS sZ sN h) (s i : Int32) : XX true 3 140 0 [.ref 64, .int (s), .int (i), ax_junk] [] (h) (some (.int (a_read sS sZ sN s i)), h) := by
  unfold a_read
  refine wb_X11_read_0 ?_
  refine cl_X11_read_3 rfl (by decide) (cp_wrong m s i) ?_
  refine wb_X11_read_6 ?_
  by_cases q : a_wrong sS sZ s i = nI 0
  · rw [if_pos q, if_pos q]
    obtain ⟨q1, q2, q3⟩ := a_wrong_0 q
    obtain ⟨a, ha, rfl⟩ := q1.ex (by decide)
    have ea : ix (nI a) = a := ix_nI (by omega)
    rw [ea] at q3 ⊢
    have ms := m a (by omega)
    have := ms.2.1
    have so := shO a (by omega) h
    obtain ⟨b, hb, rfl⟩ := q3.ex (by omega)
    refine ⟨in_nI (by omega) (by decide), _, so.1, so.2.1, _, so.2.2.1, 40, so.2.2.2.1, in_nI (by omega) (by decide), ?_⟩
    rw [so.2.2.2.2.2.2.2.2.1, ix_nI (by omega), ms.2.2.2.2 b (by omega)]
  · rw [if_neg q, if_neg q]
theorem co_cell (m : cSh sS sZ sN h) (s i v : Int32) : (a_wrong sS sZ s i = nI 0 → ∃ h', XX true 3 138 0 [.ref 64, .int (s), .int (i), .int (v), ax_junk] [] (h) (some (.int (a_cell sS sZ s i)), h') ∧ fr cfSh h h' ∧ cSh sS sZ (updN sN (ix s) (updI (sN (ix s)) (ix i) (v_cw (sS (ix s)) v))) h') ∧ (a_wrong sS sZ s i ≠ nI 0 → XX true 3 138 0 [.ref 64, .int (s), .int (i), .int (v), ax_junk] [] (h) (some (.int (a_cell sS sZ s i)), h)) := by
  unfold a_cell
  constructor
  · intro q
    obtain ⟨q1, q2, q3⟩ := a_wrong_0 q
    have wr := cp_wrong m s i
    obtain ⟨a, ha, rfl⟩ := q1.ex (by decide)
    have ea : ix (nI a) = a := ix_nI (by omega)
    rw [ea] at q2 q3 ⊢
    have ms := m a (by omega)
    have z40 := ms.2.1
    have so := shO a (by omega) h
    obtain ⟨b, hb, rfl⟩ := q3.ex (by omega)
    have eb : ix (nI b) = b := ix_nI (by omega)
    rw [eb]
    refine ⟨_, ?_, fr.wr (cfSh_in a (by omega) b).2.2, cSh_put m (by omega) _⟩
    refine wb_X11_cell_0 ?_
    refine cl_X11_cell_3 rfl (by decide) (wr) ?_
    refine wb_X11_cell_6 ?_
    rw [if_pos q, if_pos q, ea]
    refine ⟨in_nI (by omega) (by decide), _, so.1, ?_⟩
    refine cl_X11_cell_24 rfl (by decide) (sp_shPut m (by omega) q2 hb v) ?_
    refine ⟨so.2.1, ?_⟩
    refine wb_X11_cell_27 ?_
    rfl
  · intro q
    refine wb_X11_cell_0 ?_
    refine cl_X11_cell_3 rfl (by decide) (cp_wrong m s i) ?_
    refine wb_X11_cell_6 ?_
    rw [if_neg q, if_neg q]
theorem co_sheet (m : cSh sS sZ sN h) (s x k : Int32) : (isSheet' s x k → ∃ h', XX true 2 137 0 [.ref 64, .int (s), .int (x), .int (k)] [] (h) (some (.int (a_sheet s x k)), h') ∧ fr cfSh h h' ∧ cSh (updN sS (ix s) (x + nI 1).toInt.toNat) (updN sZ (ix s) (if x < nI 0 then 0 else ix k)) (updN sN (ix s) (fun _ => nI 0)) h') ∧ (¬ isSheet' s x k → XX true 2 137 0 [.ref 64, .int (s), .int (x), .int (k)] [] (h) (some (.int (a_sheet s x k)), h)) := by
  have em : ∀ y : Int32, isSort y → (y = -nI 1 ↔ y < nI 0) := by
    intro y hy
    obtain ⟨k', hk', rfl⟩ := hy.ex
    exact sr_n1 k' hk'
  have pre : ∀ R, (¬ sheetOk s x k → R = (some (.int (-nI 2)), h)) → (sheetOk s x k → nI 0 ≤ x ∧ k < nI 0 → R = (some (.int (-nI 14)), h)) → (isSheet' s x k → XX true 2 137 46 [.ref 64, .int (s), .int (x), .int (k)] [] (h) (R)) → XX true 2 137 0 [.ref 64, .int (s), .int (x), .int (k)] [] (h) (R) := by
    intro R u1 u2 u3
    have g34 : sheetOk s x k → XX true 2 137 34 [.ref 64, .int (s), .int (x), .int (k)] [] (h) (R) := by
      intro ok
      refine wb_X11_sheet_34 ?_
      by_cases y : x = -nI 1
      · rw [if_pos y]
        exact u3 ⟨ok, fun z => absurd ((em x ok.2.1).mp y) (Int32.not_lt.mpr z)⟩
      · have x0 : nI 0 ≤ x := Int32.not_lt.mp (fun z => y ((em x ok.2.1).mpr z))
        rw [if_neg y]
        by_cases w : k < nI 0
        · rw [if_pos w]
          exact u2 ok ⟨x0, w⟩
        · rw [if_neg w]
          exact u3 ⟨ok, fun _ => Int32.not_lt.mp w⟩
    refine wb_X11_sheet_0 ?_
    refine cl_X11_sheet_1 rfl (by decide) (cp_isSheet _ _) ?_
    refine wb_X11_sheet_4 ?_
    by_cases q1 : isLe 3 s
    · rw [b2i_t q1, if_neg (by decide)]
      by_cases q2 : x < -nI 1
      · rw [if_pos q2]
        exact u1 (fun z => absurd z.2.1.1 (Int32.not_le.mpr q2))
      · rw [if_neg q2]
        by_cases q3 : x ≤ nI 1
        · rw [if_pos q3]
          have so : isSort x := ⟨Int32.not_lt.mp q2, q3⟩
          by_cases y : x = -nI 1
          · rw [if_pos y]
            exact g34 ⟨q1, so, fun z => absurd ((em x so).mp y) (Int32.not_lt.mpr z)⟩
          · rw [if_neg y]
            have x0 : nI 0 ≤ x := Int32.not_lt.mp (fun z => y ((em x so).mpr z))
            by_cases w : k ≤ nI 40
            · rw [if_pos w]
              exact g34 ⟨q1, so, fun _ => w⟩
            · rw [if_neg w]
              exact u1 (fun z => w (z.2.2 x0))
        · rw [if_neg q3]
          exact u1 (fun z => q3 z.2.1.2)
    · rw [b2i_f q1, if_pos rfl]
      exact u1 (fun z => q1 z.1)
  unfold a_sheet
  constructor
  · intro ok
    have ok1 := ok.1
    obtain ⟨a, ha, rfl⟩ := ok1.1.ex (by decide)
    have ea : ix (nI a) = a := ix_nI (by omega)
    rw [ea]
    obtain ⟨x', hx, ex⟩ := ok1.2.1.ex
    have e1 : (x + nI 1).toInt.toNat = x' := by
      rw [ex]
      exact sr_p1 x' hx
    have so := shO a (by omega) h
    have lt0 : x < nI 0 ↔ x' = 0 := by rw [ex]; exact srW_neg x' hx
    have val : ∃ k', k' ≤ 40 ∧ (if x < nI 0 then 0 else ix k) = k' ∧ (¬ x < nI 0 → k = nI k') := by
      by_cases z : x < nI 0
      · exact ⟨0, by decide, if_pos z, fun y => absurd z y⟩
      · have x0 := Int32.not_lt.mp z
        obtain ⟨k', hk', rfl⟩ := nI_of3 (by decide) (ok.2 x0) (ok1.2.2 x0)
        exact ⟨k', hk', by rw [if_neg z, ix_nI (by omega)], fun _ => rfl⟩
    obtain ⟨k', hk', e2, e3⟩ := val
    rw [e1, e2]
    obtain ⟨h', r, f, g⟩ := sp_shOpen m (s := a) (x := x') (k := k') (by omega) hx hk'
    refine ⟨h', pre _ (fun z => absurd ok1 z) (fun _ z => absurd z.2 (Int32.not_lt.mpr (ok.2 z.1))) (fun _ => ?_), f, g⟩
    have g63 : XX true 2 137 63 [ax_junk, ax_junk, ax_junk, ax_junk] [.int (nI k'), .int (x), rf (141 + 2 * a)] (h) ((some (.int (if sheetOk (nI a) x k then (if nI 0 ≤ x ∧ k < nI 0 then -nI 14 else nI 1) else -nI 2)), h')) := by
      rw [ex]
      refine cl_X11_sheet_63 rfl (by decide) (r) ?_
      refine ⟨so.2.1, ?_⟩
      refine wb_X11_sheet_66 ?_
      rw [← ex, if_pos ok1, if_neg (fun z => absurd z.2 (Int32.not_lt.mpr (ok.2 z.1)))]
    refine wb_X11_sheet_46 ?_
    rw [ea]
    refine ⟨in_nI (by omega) (by decide), _, so.1, ?_⟩
    by_cases y : x = -nI 1
    · have z := (em x ok1.2.1).mp y
      rw [if_pos z] at e2
      rw [if_pos y]
      rw [← e2] at g63
      exact g63
    · have z : ¬ x < nI 0 := fun z => y ((em x ok1.2.1).mpr z)
      have e4 := e3 z
      rw [if_neg y]
      rw [← e4] at g63
      exact g63
  · intro q
    exact pre _ (fun z => by rw [if_neg z]) (fun z y => by rw [if_pos z, if_pos y]) (fun z => absurd z q)
abbrev cfMy : List (Nat × Option Nat) := (86, none) :: cfSh
theorem co_maybe (st : tS 0 c n K P B S h) (m : cSh sS sZ sN h) (s p j v i : Int32) : (maybeOk n s p j i → ∃ h', XX true 3 132 0 [.ref 64, .int (s), .int (p), .int (j), .int (v), .int (i), ax_junk, ax_junk] [] (h) (some (.int (a_maybe c n K P B s p j v i)), h') ∧ fr cfMy h h' ∧ cSh (updN sS (ix s) 1) (updN sZ (ix s) 5) (updN sN (ix s) (v_mayR c K P B (ix p) (ix j) v (ix i) (v_ways c K B (ix j)))) h') ∧ (¬ maybeOk n s p j i → XX true 3 132 0 [.ref 64, .int (s), .int (p), .int (j), .int (v), .int (i), ax_junk, ax_junk] [] (h) (some (.int (a_maybe c n K P B s p j v i)), h)) := by
  have h6 := st.n6
  unfold a_maybe
  by_cases ok : maybeOk n s p j i
  · refine ⟨fun _ => ?_, fun z => absurd ok z⟩
    rw [if_pos ok]
    have ah := cp_isAhead st i j
    rw [b2i_t ⟨ok.2.2.1, ok.2.2.2⟩] at ah
    obtain ⟨q1, q2, q3, q4⟩ := id ok
    obtain ⟨a, ha, rfl⟩ := q1.ex (by decide)
    obtain ⟨p', hp, rfl⟩ := q2.ex
    obtain ⟨j', hj, rfl⟩ := q3.ex (by omega)
    have ej : ix (nI j') = j' := ix_nI (by omega)
    rw [ej] at q4 ⊢
    obtain ⟨i', hi, rfl⟩ := q4.ex (by omega)
    have ea : ix (nI a) = a := ix_nI (by omega)
    rw [ea, ix_nI (show p' < 2 ^ 31 by omega), ix_nI (show i' < 2 ^ 31 by omega)]
    have so := shO a (by omega) h
    have wl := v_ways_le st.ok hj
    obtain ⟨h1, r1, f1, g1⟩ := sp_shOpen m (s := a) (x := 1) (k := 5) (by omega) (by decide) (by decide)
    have lp : ∀ k w, w + k = v_ways c K B j' → ∀ h2, fr cfMy h h2 → cSh (updN sS a 1) (updN sZ a 5) (updN sN a (v_mayR c K P B p' j' v i' w)) h2 → ∃ h', XX true 3 132 45 [.ref 64, ax_junk, .int (nI p'), .int (nI j'), .int (v), .int (nI i'), rf (141 + 2 * a), .int (nI w)] [] (h2) ((some (.int (sumI (v_mayN c K P B p' j' v i' (v_ways c K B j')) 5)), h')) ∧ fr cfMy h h' ∧ cSh (updN sS a 1) (updN sZ a 5) (updN sN a (v_mayR c K P B p' j' v i' (v_ways c K B j'))) h' := by
      intro k
      induction k with
      | zero =>
        intro w hw h2 f2 g2
        obtain rfl : w = v_ways c K B j' := hw
        have s2 : tS 0 c n K P B S h2 := st.fr f2 rfl rfl
        have so2 := shO a (by omega) h2
        have sm := sp_shSum g2 (s := a) (by omega)
        rw [updN_s, updN_s] at sm
        refine ⟨h2, ?_, f2, g2⟩
        refine wb_X11_maybe_45 ?_
        rw [ix_nI (by omega), s2.beh j' hj, if_neg (nI_nlt (Nat.le_refl _) (by omega))]
        refine ⟨in_nI (by omega) (by decide), ?_⟩
        refine cl_X11_maybe_119 rfl (by decide) (sm) ?_
        refine ⟨so2.2.1, ?_⟩
        refine wb_X11_maybe_122 ?_
        rfl
      | succ k ih =>
        intro w hw h2 f2 g2
        have s2 : tS 0 c n K P B S h2 := st.fr f2 rfl rfl
        obtain ⟨h3, r3, f3, x3⟩ := sp_t_go s2 hj (w := w) (by omega)
        have s3 : tS 0 c n K P B S h3 := s2.fr f3 rfl rfl
        have f23 : fr cfMy h h3 := f2.trans (f3.mono rfl)
        have g3 := cSh_fr g2 f3 rfl
        have so3 := shO a (by omega) h3
        have el := v_what_lt st.ok hj w hi
        have pre : ∀ R, XX true 3 132 87 [.ref 64, ax_junk, .int (nI p'), .int (nI j'), .int (v), .int (nI i'), rf (141 + 2 * a), .int (nI w)] [.int (nI (v_vw c K P B p' j' w))] (h3) (R) → XX true 3 132 45 [.ref 64, ax_junk, .int (nI p'), .int (nI j'), .int (v), .int (nI i'), rf (141 + 2 * a), .int (nI w)] [] (h2) (R) := by
          intro R u
          refine wb_X11_maybe_45 ?_
          rw [ix_nI (by omega), s2.beh j' hj, if_pos (nI_lt (by omega) (by omega))]
          refine ⟨in_nI (by omega) (by decide), ?_⟩
          refine cl_X11_maybe_72 rfl (by decide) (r3) ?_
          refine wb_X11_maybe_75 ?_
          refine cl_X11_maybe_84 rfl (by decide) (sp_sight s3 hj hp x3 (Nat.le_refl _)) ?_
          exact u
        by_cases q : nI (v_vw c K P B p' j' w) = v
        · have pu := sp_shPut g3 (s := a) (i := v_what c K B j' w i') (by omega) (by rw [updN_s]; decide) (by rw [updN_s]; exact el) (nI 1)
          have gp := cSh_put g3 (s := a) (i := v_what c K B j' w i') (by omega) (v_cw (updN sS a 1 a) (nI 1))
          have e1 : v_cw (updN sS a 1 a) (nI 1) = nI 1 := by
            rw [updN_s]
            unfold v_cw
            rw [if_neg (by decide), if_neg (by decide)]
          have e2 : updN (updN sN a (v_mayR c K P B p' j' v i' w)) a (updI (updN sN a (v_mayR c K P B p' j' v i' w) a) (v_what c K B j' w i') (nI 1)) = updN sN a (v_mayR c K P B p' j' v i' (w + 1)) := by
            funext s' e
            by_cases z : s' = a
            · rw [z, updN_s, updN_s, updN_s]
              unfold updI v_mayR
              by_cases y : e = v_what c K B j' w i'
              · rw [if_pos y, y, if_pos el, v_mayN_yes q]
              · rw [if_neg y, v_mayN_oth y]
            · rw [updN_o z, updN_o z, updN_o z]
          rw [e1] at gp pu
          rw [e2] at gp
          obtain ⟨h', x', y'⟩ := ih (w + 1) (by omega) _ (f23.wr' (by
            have := (cfSh_in a (by omega) (v_what c K B j' w i')).2.2
            show (_ || inS cfSh _ _) = true
            rw [this, Bool.or_true])) gp
          refine ⟨h', pre _ ?_, y'⟩
          refine wb_X11_maybe_87 ?_
          rw [if_pos q, ix_nI (by omega), x3 i' hi]
          refine ⟨in_nI (by omega) (by decide), ?_⟩
          refine cl_X11_maybe_108 rfl (by decide) (pu) ?_
          refine ⟨so3.2.1, ?_⟩
          refine wb_X11_maybe_111 ?_
          rw [nI_s]
          exact x'
        · have e2 : v_mayR c K P B p' j' v i' w = v_mayR c K P B p' j' v i' (w + 1) := by
            funext e
            unfold v_mayR
            rw [v_mayN_no q]
          rw [e2] at g3
          obtain ⟨h', x', y'⟩ := ih (w + 1) (by omega) h3 f23 g3
          refine ⟨h', pre _ ?_, y'⟩
          refine wb_X11_maybe_87 ?_
          rw [if_neg q]
          refine wb_X11_maybe_111 ?_
          rw [nI_s]
          exact x'
    have g1' : cSh (updN sS a 1) (updN sZ a 5) (updN sN a (v_mayR c K P B p' j' v i' 0)) h1 := by
      have e : (fun _ : Nat => nI 0) = v_mayR c K P B p' j' v i' 0 := by
        funext e
        unfold v_mayR
        rw [v_mayN_0]
        split <;> rfl
      rw [e] at g1
      exact g1
    obtain ⟨h', x', y'⟩ := lp (v_ways c K B j') 0 (by omega) h1 (f1.mono rfl) g1'
    refine ⟨h', ?_, y'⟩
    refine wb_X11_maybe_0 ?_
    refine cl_X11_maybe_1 rfl (by decide) (cp_isSheet _ _) ?_
    refine wb_X11_maybe_4 ?_
    rw [b2i_t q1, if_neg (by decide)]
    refine cl_X11_maybe_8 rfl (by decide) (cp_isPlayer _ _) ?_
    refine wb_X11_maybe_11 ?_
    rw [b2i_t q2, if_neg (by decide)]
    refine cl_X11_maybe_18 rfl (by decide) (ah) ?_
    refine wb_X11_maybe_21 ?_
    rw [if_neg (by decide), ea]
    refine ⟨in_nI (by omega) (by decide), _, so.1, ?_⟩
    refine cl_X11_maybe_39 rfl (by decide) (r1) ?_
    refine ⟨so.2.1, ?_⟩
    refine wb_X11_maybe_42 ?_
    exact x'
  · refine ⟨fun z => absurd z ok, fun _ => ?_⟩
    rw [if_neg ok]
    refine wb_X11_maybe_0 ?_
    refine cl_X11_maybe_1 rfl (by decide) (cp_isSheet _ _) ?_
    refine wb_X11_maybe_4 ?_
    by_cases q1 : isLe 3 s
    · rw [b2i_t q1, if_neg (by decide)]
      refine cl_X11_maybe_8 rfl (by decide) (cp_isPlayer _ _) ?_
      refine wb_X11_maybe_11 ?_
      by_cases q2 : isPl p
      · rw [b2i_t q2, if_neg (by decide)]
        refine cl_X11_maybe_18 rfl (by decide) (cp_isAhead st i j) ?_
        refine wb_X11_maybe_21 ?_
        rw [b2i_f (fun z => ok ⟨q1, q2, z.1, z.2⟩), if_pos rfl]
      · rw [b2i_f q2, if_pos rfl]
    · rw [b2i_f q1, if_pos rfl]
abbrev cfLd : List (Nat × Option Nat) := cfG ++ [(88, none), (89, none), (87, some 2)]
theorem co_loadPlans (st : tS 0 c n K P B S h) (t : cP 0 np T C h) (m : cSh sS sZ sN h) (s p : Int32) : (loadOk sS s p → ∃ h', XX true 5 141 0 [.ref 64, .int (s), .int (p), ax_junk, ax_junk] [] (h) (some (.int (a_load c n K P B sS sZ sN np T C s p)), h') ∧ fr cfLd h h' ∧ cPT (v_load c n K P B sZ sN np T C (ix s) (ix p)).2 h') ∧ (¬ loadOk sS s p → XX true 5 141 0 [.ref 64, .int (s), .int (p), ax_junk, ax_junk] [] (h) (some (.int (a_load c n K P B sS sZ sN np T C s p)), h)) := by
  have h6 := st.n6
  have sr : ∀ a, a < 4 → (srW (sS a) = -nI 1 ↔ sS a = 0) := fun a ha => sr_m1 _ (m a ha).1
  unfold a_load
  by_cases ok : loadOk sS s p
  · refine ⟨fun _ => ?_, fun z => absurd ok z⟩
    rw [if_pos ok]
    obtain ⟨q1, q2, q3⟩ := id ok
    obtain ⟨a, ha, rfl⟩ := q1.ex (by decide)
    obtain ⟨p', hp, rfl⟩ := q2.ex
    have ea : ix (nI a) = a := ix_nI (by omega)
    have ep : ix (nI p') = p' := ix_nI (by omega)
    rw [ea] at q3
    rw [ea, ep]
    have so := shO a (by omega) h
    have ms := m a (by omega)
    have z40 := ms.2.1
    have m8 := v_sM_le st.ok p'
    obtain ⟨h1, r1, f1, z1⟩ := sp_gather st hp
    have lp : ∀ f t, t + f = min (sZ a) (v_sM c n K P B p') → ∀ x h2, fr cfLd h h2 → cSets c n K P B p' h2 → cPT x h2 → ∃ h', XX true 5 141 50 [.ref 64, .int (nI a), .int (nI p'), .int (nI t), ax_junk] [] (h2) ((some (.int (nI (v_ld c n K P B p' (sN a) f t x).1)), h')) ∧ fr cfLd h h' ∧ cPT (v_ld c n K P B p' (sN a) f t x).2 h' := by
      intro f
      induction f with
      | zero =>
        intro t ht x h2 f2 z2 m2
        have e : t = min (sZ a) (v_sM c n K P B p') := ht
        have g2 := cSh_fr m f2 rfl
        have gs := g2 a (by omega)
        have so2 := shO a (by omega) h2
        refine ⟨h2, ?_, f2, m2⟩
        refine wb_X11_loadPlans_50 ?_
        rw [ix_nI (by omega)]
        refine ⟨in_nI (by omega) (by decide), _, so2.1, so2.2.1, ?_⟩
        rw [so2.2.2.2.2.2.1, gs.2.2.2.1]
        by_cases y : t < sZ a
        · rw [if_pos (nI_lt y (by omega)), z2.1, if_neg (nI_nlt (by omega) (by omega))]
          rfl
        · rw [if_neg (nI_nlt (by omega) (by omega))]
          rfl
      | succ f ih =>
        intro t ht x h2 f2 z2 m2
        have g2 := cSh_fr m f2 rfl
        have gs := g2 a (by omega)
        have so2 := shO a (by omega) h2
        have s2 : tS 0 c n K P B S h2 := st.fr f2 rfl rfl
        have tM : t < v_sM c n K P B p' := by omega
        have zt := z2.2 t tM
        have si := v_set_is st.ok tM
        have vl := v_sV_lt c n K P B p' t
        have oc := chc_opt st.ok si.1 si.2.1.1
        have pre : ∀ R, (¬ isLt (B (v_sJ c n K P B p' t)) (sN a t) → R = (some (.int (nI t)), h2)) → (isLt (B (v_sJ c n K P B p' t)) (sN a t) → XX true 5 141 148 [.ref 64, .int (nI a), .int (nI p'), .int (nI t), ax_junk] [.int (sN a t), .int (nI (v_sV c n K P B p' t)), .int (nI (v_sJ c n K P B p' t)), .int (nI p'), .ref 87] (h2) (R)) → XX true 5 141 50 [.ref 64, .int (nI a), .int (nI p'), .int (nI t), ax_junk] [] (h2) (R) := by
          intro R u1 u2
          refine wb_X11_loadPlans_50 ?_
          rw [ix_nI (by omega), ix_nI (by omega)]
          refine ⟨in_nI (by omega) (by decide), _, so2.1, so2.2.1, ?_⟩
          rw [so2.2.2.2.2.2.1, gs.2.2.2.1, if_pos (nI_lt (by omega) (by omega)), z2.1, if_pos (nI_lt (by omega) (by omega))]
          refine ⟨in_nI (by omega) (by decide), _, so2.1, so2.2.1, _, so2.2.2.1, 40, so2.2.2.2.1, in_nI (by omega) (by decide), ?_⟩
          rw [so2.2.2.2.2.2.2.2.2.1, gs.2.2.2.2 t (by omega), zt.1, zt.2.1, ix_nI (by omega), s2.fan _ si.1, oc.1]
          by_cases y : sN a t < nI 0
          · rw [if_pos y]
            exact u1 (fun z => absurd z.1 (Int32.not_le.mpr y))
          · rw [if_neg y]
            refine ⟨in_nI (by omega) (by decide), in_nI (by omega) (by decide), ?_⟩
            by_cases y2 : sN a t < nI (B (v_sJ c n K P B p' t))
            · rw [if_pos y2]
              refine ⟨in_nI (by omega) (by decide), in_nI (by omega) (by decide), ?_⟩
              exact wkj (u2 ⟨Int32.not_lt.mp y, y2⟩)
            · rw [if_neg y2]
              exact u1 (fun z => y2 z.2)
        have e : v_ld c n K P B p' (sN a) (f + 1) t x = if isLt (B (v_sJ c n K P B p' t)) (sN a t) ∧ v_pat x.1 x.2.1 p' (v_sJ c n K P B p' t) (v_sV c n K P B p' t) < 40 then v_ld c n K P B p' (sN a) f (t + 1) (v_tl1 x p' (v_sJ c n K P B p' t) (v_sV c n K P B p' t) (ix (sN a t))) else (t, x) := rfl
        by_cases l : isLt (B (v_sJ c n K P B p' t)) (sN a t)
        · obtain ⟨y, hy, ey⟩ := l.ex (by omega)
          by_cases q : v_pat x.1 x.2.1 p' (v_sJ c n K P B p' t) (v_sV c n K P B p' t) < 40
          · rw [e, if_pos ⟨l, q⟩]
            obtain ⟨h3, r3, f3, m3⟩ := sp_tell m2 (p := p') (j := v_sJ c n K P B p' t) (v := v_sV c n K P B p' t) (x := y) (by omega) (by omega) vl (by omega) q
            have e3 : v_tl1 x p' (v_sJ c n K P B p' t) (v_sV c n K P B p' t) (ix (sN a t)) = (v_tn x.1 x.2.1 p' (v_sJ c n K P B p' t) (v_sV c n K P B p' t), updN x.2.1 (v_pat x.1 x.2.1 p' (v_sJ c n K P B p' t) (v_sV c n K P B p' t)) (v_key p' (v_sJ c n K P B p' t) (v_sV c n K P B p' t)), updN x.2.2 (v_pat x.1 x.2.1 p' (v_sJ c n K P B p' t) (v_sV c n K P B p' t)) y) := by
              unfold v_tl1
              rw [if_pos q, ey, ix_nI (by omega)]
            obtain ⟨h', x', y'⟩ := ih (t + 1) (by omega) (v_tl1 x p' (v_sJ c n K P B p' t) (v_sV c n K P B p' t) (ix (sN a t))) h3 (f2.trans (f3.mono rfl)) (cSets_fr z2 f3 rfl) (by rw [e3]; exact m3)
            refine ⟨h', pre _ (fun z => absurd l z) (fun _ => ?_), y'⟩
            rw [ey]
            refine cl_X11_loadPlans_148 rfl (by decide) (r3) ?_
            refine wb_X11_loadPlans_151 ?_
            rw [if_neg (by decide), nI_s, ← ey]
            exact x'
          · rw [e, if_neg (fun z => q z.2)]
            refine ⟨h2, pre _ (fun z => absurd l z) (fun _ => ?_), f2, m2⟩
            rw [ey]
            refine cl_X11_loadPlans_148 rfl (by decide) (sp_tell_no m2 (p := p') (j := v_sJ c n K P B p' t) (v := v_sV c n K P B p' t) (x := y) (by omega) (by omega) vl q) ?_
            refine wb_X11_loadPlans_151 ?_
            rw [if_pos rfl]
        · rw [e, if_neg (fun z => l z.1)]
          exact ⟨h2, pre _ (fun _ => rfl) (fun z => absurd z l), f2, m2⟩
    obtain ⟨h', x', y'⟩ := lp (min (sZ a) (v_sM c n K P B p')) 0 (by omega) (np, T, C) h1 (f1.mono rfl) z1 (cP_fr t f1 rfl)
    refine ⟨h', ?_, y'⟩
    refine wb_X11_loadPlans_0 ?_
    refine cl_X11_loadPlans_1 rfl (by decide) (cp_isSheet _ _) ?_
    refine wb_X11_loadPlans_4 ?_
    rw [b2i_t q1, if_neg (by decide)]
    refine cl_X11_loadPlans_8 rfl (by decide) (cp_isPlayer _ _) ?_
    refine wb_X11_loadPlans_11 ?_
    rw [b2i_t q2, if_neg (by decide), ea]
    refine ⟨in_nI (by omega) (by decide), _, so.1, so.2.1, ?_⟩
    rw [so.2.2.2.2.1, ms.2.2.1, if_neg (fun z => q3 ((sr a (by omega)).mp z))]
    refine cl_X11_loadPlans_45 rfl (by decide) (r1) ?_
    refine wb_X11_loadPlans_48 ?_
    exact x'
  · refine ⟨fun z => absurd z ok, fun _ => ?_⟩
    rw [if_neg ok]
    refine wb_X11_loadPlans_0 ?_
    refine cl_X11_loadPlans_1 rfl (by decide) (cp_isSheet _ _) ?_
    refine wb_X11_loadPlans_4 ?_
    by_cases q1 : isLe 3 s
    · rw [b2i_t q1, if_neg (by decide)]
      refine cl_X11_loadPlans_8 rfl (by decide) (cp_isPlayer _ _) ?_
      refine wb_X11_loadPlans_11 ?_
      by_cases q2 : isPl p
      · obtain ⟨a, ha, rfl⟩ := q1.ex (by decide)
        have ea : ix (nI a) = a := ix_nI (by omega)
        have so := shO a (by omega) h
        have ms := m a (by omega)
        have q3 : sS a = 0 := by
          apply Classical.byContradiction
          intro z
          exact ok ⟨q1, q2, by rw [ea]; exact z⟩
        rw [b2i_t q2, if_neg (by decide), ea, if_pos ⟨q1, q2⟩]
        refine ⟨in_nI (by omega) (by decide), _, so.1, so.2.1, ?_⟩
        rw [so.2.2.2.2.1, ms.2.2.1, if_pos ((sr a (by omega)).mpr q3)]
      · rw [b2i_f q2, if_pos rfl, if_neg (fun z => q2 z.2)]
    · rw [b2i_f q1, if_pos rfl, if_neg (fun z => q1 z.1)]
end S74
