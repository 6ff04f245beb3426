/-! THE REFERENCE'S CALLS: sheets -/
/-- a sheet's sort as a word: 0 none, 1 yes or no, 2 numbers -/
abbrev srW (x : Nat) : Int32 := nI x - nI 1
def mSh (sS sZ : Nat → Nat) (sN : Nat → Nat → Int32) (h : AH) : Prop := ∀ s, s < 4 → sS s < 3 ∧ sZ s ≤ 40 ∧ hI h 173 s = srW (sS s) ∧ hI h 174 s = nI (sZ s) ∧ ∀ i, i < 40 → hI h 175 (40 * s + i) = sN s i
theorem mSh.fr {sS sZ : Nat → Nat} {sN : Nat → Nat → Int32} {h h' : AH} (x : mSh sS sZ sN h) {L : List (Nat × Option Nat)} (f : fr L h h') (q1 : ∀ j, inS L 173 j = false) (q2 : ∀ j, inS L 174 j = false) (q3 : ∀ j, inS L 175 j = false) : mSh sS sZ sN h' := fun s hs => ⟨(x s hs).1, (x s hs).2.1, (f.I (q1 _)).trans (x s hs).2.2.1, (f.I (q2 _)).trans (x s hs).2.2.2.1, fun i hi => (f.I (q3 _)).trans ((x s hs).2.2.2.2 i hi)⟩
theorem srW_neg : ∀ x, x < 3 → (srW x < nI 0 ↔ x = 0) := by decide
abbrev frE : List (Nat × Option Nat) := [(173, none), (174, none), (175, none)]
section S44
variable {sS sZ : Nat → Nat} {sN : Nat → Nat → Int32} {h h' : AH}
theorem sp_becomes (m : mSh sS sZ sN h) {s x : Nat} (hs : s < 4) (hx : x < 3) {k : Int32} {k' : Nat} (hk : x ≠ 0 → k = nI k' ∧ k' ≤ 40) : ∃ h', XX true 1 238 0 [.ref 153, .int (nI s), .int (srW x), .int (k), ax_junk] [] (h) (none, h') ∧ fr frE h h' ∧ mSh (updN sS s x) (updN sZ s (if x = 0 then 0 else k')) (updN sN s (fun _ => nI 0)) h' := by
  have kk : (if x = 0 then 0 else k') ≤ 40 := by
    by_cases z : x = 0
    · rw [if_pos z]; omega
    · rw [if_neg z]; exact (hk z).2
  have lp : ∀ n i, i + n = 40 → ∀ h1, fr frE h h1 → (∀ s', s' < 4 → hI h1 173 s' = srW (updN sS s x s') ∧ hI h1 174 s' = nI (updN sZ s (if x = 0 then 0 else k') s')) → (∀ s' j, s' < 4 → j < 40 → s' ≠ s → hI h1 175 (40 * s' + j) = sN s' j) → (∀ j, j < i → hI h1 175 (40 * s + j) = nI 0) → ∃ h', XX true 1 238 25 [.ref 153, .int (nI s), ax_junk, ax_junk, .int (nI i)] [] (h1) ((none, h')) ∧ fr frE h h' ∧ mSh (updN sS s x) (updN sZ s (if x = 0 then 0 else k')) (updN sN s (fun _ => nI 0)) h' := by
    intro n
    induction n with
    | zero =>
      intro i hi h1 f c1 c2 c3
      obtain rfl : i = 40 := hi
      refine ⟨h1, ?_, f, fun s' hs' => ⟨?_, ?_, (c1 s' hs').1, (c1 s' hs').2, fun j hj => ?_⟩⟩
      · refine wb_X12_becomes_25 ?_
        rw [if_neg (by decide)]
      · by_cases e : s' = s
        · rw [e, updN_s]; exact hx
        · rw [updN_o e]; exact (m s' hs').1
      · by_cases e : s' = s
        · rw [e, updN_s]; exact kk
        · rw [updN_o e]; exact (m s' hs').2.1
      · by_cases e : s' = s
        · rw [e, updN_s]; exact c3 j hj
        · rw [updN_o e]; exact c2 s' j hs' hj e
    | succ n ih =>
      intro i hi h1 f c1 c2 c3
      obtain ⟨h', r, y⟩ := ih (i + 1) (by omega) (ax_wr h1 175 (40 * s + i) (.int (nI 0))) (f.wr' (by simp [inS])) (fun s' hs' => ⟨by rw [wr_Ia (by decide)]; exact (c1 s' hs').1, by rw [wr_Ia (by decide)]; exact (c1 s' hs').2⟩) (fun s' j hs' hj e => by rw [wr_Ij (by omega)]; exact c2 s' j hs' hj e) (fun j hj => by
        by_cases e : j = i
        · rw [e, wr_I]
        · rw [wr_Ij (by omega)]; exact c3 j (by omega))
      refine ⟨h', ?_, y⟩
      refine wb_X12_becomes_25 ?_
      rw [if_pos (nI_lt (by omega) (by omega)), nI_mulI, nI_add, ix_nI (by omega), nI_s]
      exact ⟨in_nI (by omega) (by decide), wk_X12_becomes_25 r⟩
  have z0 : ∀ v : Nat, v = (if x = 0 then 0 else k') → ∃ h', XX true 1 238 25 [.ref 153, .int (nI s), ax_junk, ax_junk, .int (nI 0)] [] (ax_wr (ax_wr h 173 s (.int (srW x))) 174 s (.int (nI v))) ((none, h')) ∧ fr frE h h' ∧ mSh (updN sS s x) (updN sZ s (if x = 0 then 0 else k')) (updN sN s (fun _ => nI 0)) h' := by
    intro v hv
    refine lp 40 0 rfl _ ((fr.wr (by simp [inS])).wr' (by simp [inS])) (fun s' hs' => ?_) (fun s' j hs' hj e => by rw [wr_Ia (by decide), wr_Ia (by decide)]; exact (m s' hs').2.2.2.2 j hj) (fun j hj => absurd hj (Nat.not_lt_zero _))
    by_cases e : s' = s
    · rw [e, updN_s, updN_s, wr_Ia (by decide), wr_I, wr_I, hv]
      exact ⟨rfl, rfl⟩
    · rw [updN_o e, updN_o e, wr_Ia (by decide), wr_Ij e, wr_Ij e, wr_Ia (by decide)]
      exact ⟨(m s' hs').2.2.1, (m s' hs').2.2.2.1⟩
  by_cases z : x = 0
  · obtain ⟨h', r, y⟩ := z0 0 (by rw [if_pos z])
    refine ⟨h', ?_, y⟩
    refine wb_X12_becomes_0 ?_
    rw [if_pos ((srW_neg x hx).mpr z), ix_nI (by omega)]
    refine ⟨in_nI hs (by decide), wk_X12_becomes_21 ?_⟩
    refine wb_X12_becomes_21 ?_
    rw [ix_nI (by omega)]
    exact ⟨in_nI hs (by decide), wk_X12_becomes_25 r⟩
  · obtain ⟨h', r, y⟩ := z0 k' (by rw [if_neg z])
    refine ⟨h', ?_, y⟩
    refine wb_X12_becomes_0 ?_
    rw [if_neg (fun u => z ((srW_neg x hx).mp u)), ix_nI (by omega), (hk z).1]
    refine ⟨in_nI hs (by decide), wk_X12_becomes_21 ?_⟩
    refine wb_X12_becomes_21 ?_
    rw [ix_nI (by omega)]
    exact ⟨in_nI hs (by decide), wk_X12_becomes_25 r⟩
theorem sp_isSheet (p : Int32) (h : AH) : XX true 2 237 0 [.int (p)] [] (h) (some (.int (b2i (isLe 3 p))), h) := by
  refine wb_X12_isSheet_0 ?_
  refine (cl_X12_isSheet_6 rfl (by decide) (sp_in _ _ _ _)).mpr ?_
  refine wb_X12_isSheet_9 ?_
  refine ⟨b2i_01 _, ?_⟩
  rw [b2i_cong (isLe_l (by decide) p)]
/-- why a cell can't be reached -/
def a_wrong (sS sZ : Nat → Nat) (s i : Int32) : Int32 := if isLe 3 s then (if sS (ix s) = 0 then -nI 11 else if isLt (sZ (ix s)) i then nI 0 else -nI 12) else -nI 2
theorem sp_wrong (m : mSh sS sZ sN h) (s i : Int32) : XX true 3 241 0 [.ref 153, .int (s), .int (i)] [] (h) (some (.int (a_wrong sS sZ s i)), h) := by
  unfold a_wrong
  refine wb_X12_wrong_0 ?_
  refine (cl_X12_wrong_1 rfl (by decide) (sp_isSheet _ _)).mpr ?_
  refine wb_X12_wrong_4 ?_
  by_cases q : isLe 3 s
  · rw [b2i_t q, if_neg (by decide), if_pos q]
    obtain ⟨a, ha, rfl⟩ := q.ex (by decide)
    have ms := m a (by omega)
    rw [ix_nI (by omega), ms.2.2.1, ms.2.2.2.1]
    refine ⟨in_nI (by omega) (by decide), ?_⟩
    by_cases z : sS a = 0
    · rw [if_pos ((srW_neg _ ms.1).mpr z), if_pos z]
    · rw [if_neg (fun u => z ((srW_neg _ ms.1).mp u)), if_neg z]
      refine ⟨in_nI (by omega) (by decide), ?_⟩
      have := ms.2.1
      refine (cl_X12_wrong_38 rfl (by decide) (sp_in _ _ _ _)).mpr ?_
      refine wb_X12_wrong_41 ?_
      rw [b2i_cong (in_pred (by omega) i)]
      by_cases q2 : isLt (sZ a) i
      · rw [b2i_t q2, if_neg (by decide), if_pos q2]
      · rw [b2i_f q2, if_pos rfl, if_neg q2]
  · rw [b2i_f q, if_pos rfl, if_neg q]
theorem a_wrong_0 {s i : Int32} (q : a_wrong sS sZ s i = nI 0) : isLe 3 s ∧ sS (ix s) ≠ 0 ∧ isLt (sZ (ix s)) i := by
  unfold a_wrong at q
  by_cases q1 : isLe 3 s
  · rw [if_pos q1] at q
    by_cases q2 : sS (ix s) = 0
    · rw [if_pos q2] at q
      exact absurd q (by decide)
    · rw [if_neg q2] at q
      by_cases q3 : isLt (sZ (ix s)) i
      · exact ⟨q1, q2, q3⟩
      · rw [if_neg q3] at q
        exact absurd q (by decide)
  · rw [if_neg q1] at q
    exact absurd q (by decide)
def a_read (sS sZ : Nat → Nat) (sN : Nat → Nat → Int32) (s i : Int32) : Int32 := if a_wrong sS sZ s i = nI 0 then sN (ix s) (ix i) else a_wrong sS sZ s i
theorem mo_read (m : mSh sS sZ sN h) (s i : Int32) : XX true 4 242 0 [.ref 153, .int (s), .int (i), ax_junk] [] (h) (some (.int (a_read sS sZ sN s i)), h) := by
  unfold a_read
  refine wb_X12_read_0 ?_
  refine (cl_X12_read_3 rfl (by decide) (sp_wrong m s i)).mpr ?_
  refine wb_X12_read_6 ?_
  by_cases q : a_wrong sS sZ s i = nI 0
  · rw [if_pos q, if_pos q]
    obtain ⟨q1, q2, q3⟩ := a_wrong_0 q
    obtain ⟨a, ha, rfl⟩ := q1.ex (by decide)
    have ea : ix (nI a) = a := ix_nI (by omega)
    rw [ea] at q3 ⊢
    have ms := m a (by omega)
    have := ms.2.1
    obtain ⟨b, hb, rfl⟩ := q3.ex (by omega)
    rw [nI_mulI, nI_add, ix_nI (by omega), ix_nI (by omega), ms.2.2.2.2 b (by omega)]
    exact ⟨in_nI (by omega) (by decide), rfl⟩
  · rw [if_neg q, if_neg q]
def a_cell (sS sZ : Nat → Nat) (s i : Int32) : Int32 := if a_wrong sS sZ s i = nI 0 then nI 1 else a_wrong sS sZ s i
abbrev v_cw (x : Nat) (v : Int32) : Int32 := if x = 2 then v else if v = nI 0 then nI 0 else nI 1
def updI (f : Nat → Int32) (k : Nat) (v : Int32) : Nat → Int32 := fun i => if i = k then v else f i
theorem mo_cell (m : mSh sS sZ sN h) (s i v : Int32) : (a_wrong sS sZ s i = nI 0 → ∃ h', XX true 4 240 0 [.ref 153, .int (s), .int (i), .int (v), ax_junk] [] (h) (some (.int (a_cell sS sZ s i)), h') ∧ fr frE h h' ∧ mSh sS sZ (updN sN (ix s) (updI (sN (ix s)) (ix i) (v_cw (sS (ix s)) v))) h') ∧ (a_wrong sS sZ s i ≠ nI 0 → XX true 4 240 0 [.ref 153, .int (s), .int (i), .int (v), ax_junk] [] (h) (some (.int (a_cell sS sZ s i)), h)) := by
  unfold a_cell
  constructor
  · intro q
    obtain ⟨q1, q2, q3⟩ := a_wrong_0 q
    obtain ⟨a, ha, rfl⟩ := q1.ex (by decide)
    have ea : ix (nI a) = a := ix_nI (by omega)
    rw [ea] at q2 q3 ⊢
    have ms := m a (by omega)
    have z40 := ms.2.1
    obtain ⟨b, hb, rfl⟩ := q3.ex (by omega)
    have eb : ix (nI b) = b := ix_nI (by omega)
    rw [eb]
    refine ⟨ax_wr h 175 (40 * a + b) (.int (v_cw (sS a) v)), ?_, fr.wr (by simp [inS]), fun s' hs' => ⟨(m s' hs').1, (m s' hs').2.1, ?_, ?_, fun j hj => ?_⟩⟩
    · refine wb_X12_cell_0 ?_
      refine (cl_X12_cell_3 rfl (by decide) (sp_wrong m _ _)).mpr ?_
      refine wb_X12_cell_6 ?_
      rw [if_pos q, if_pos q, nI_mulI, nI_add, ea, ms.2.2.1]
      refine ⟨in_nI (by omega) (by decide), ?_⟩
      have go : ∀ x, x = v_cw (sS a) v → XX true 4 240 49 [ax_junk, ax_junk, ax_junk, ax_junk, ax_junk] [.int (x), .int (nI (40 * a + b)), .ref 175] (h) ((some (.int (nI 1)), ax_wr h 175 (40 * a + b) (.int (v_cw (sS a) v)))) := by
        intro x hx
        rw [← hx]
        refine wb_X12_cell_49 ?_
        rw [ix_nI (by omega)]
        exact ⟨in_nI (by omega) (by decide), rfl⟩
      have w2 : ∀ x, x < 3 → (srW x = nI 1 ↔ x = 2) := by decide
      by_cases c1 : sS a = 2
      · rw [if_pos ((w2 _ ms.1).mpr c1)]
        exact wk_X12_cell_49 (go v (by unfold v_cw; rw [if_pos c1]))
      · rw [if_neg (fun u => c1 ((w2 _ ms.1).mp u))]
        by_cases c2 : v = nI 0
        · rw [if_pos c2]
          exact wk_X12_cell_49 (go (nI 0) (by unfold v_cw; rw [if_neg c1, if_pos c2]))
        · rw [if_neg c2]
          exact wk_X12_cell_49 (go (nI 1) (by unfold v_cw; rw [if_neg c1, if_neg c2]))
    · rw [wr_Ia (by decide)]; exact (m s' hs').2.2.1
    · rw [wr_Ia (by decide)]; exact (m s' hs').2.2.2.1
    · by_cases e : s' = a
      · rw [e, updN_s]
        unfold updI
        by_cases e2 : j = b
        · rw [e2, if_pos rfl, wr_I]
        · rw [if_neg e2, wr_Ij (by omega)]
          exact ms.2.2.2.2 j hj
      · rw [updN_o e, wr_Ij (by omega)]
        exact (m s' hs').2.2.2.2 j hj
  · intro q
    refine wb_X12_cell_0 ?_
    refine (cl_X12_cell_3 rfl (by decide) (sp_wrong m s i)).mpr ?_
    refine wb_X12_cell_6 ?_
    rw [if_neg q, if_neg q]
end S44
