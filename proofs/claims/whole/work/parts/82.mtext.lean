/-! THE REFERENCE: tokens, statements, a text -/
abbrev frTk : List (Nat × Option Nat) := [(153, some 26), (153, some 27)]
abbrev frNu : List (Nat × Option Nat) := [(153, some 26), (153, some 27), (153, some 28), (153, some 29)]
def mTk (tb : Nat → Int32) (tn f : Nat) (h : AH) : Prop := f ≤ tn ∧ hI h 153 27 = nI f ∧ hI h 153 26 = nI (v_e tb tn f)
/-- the byte that lies there, or none -/
def v_hx (tb : Nat → Int32) (tn i : Nat) : Int32 := if i < tn then tb i else -nI 1
theorem hx_1 (tb : Nat → Int32) (tn i : Nat) : (nI 97 ≤ v_hx tb tn i ∧ v_hx tb tn i ≤ nI 122) ↔ v_cl tb tn i = 1 := by
  unfold v_hx v_cl
  by_cases q : i < tn
  · rw [if_pos q, if_pos q]
    by_cases z : nI 97 ≤ tb i ∧ tb i ≤ nI 122
    · rw [if_pos z]; exact ⟨fun _ => rfl, fun _ => z⟩
    · rw [if_neg z]
      refine ⟨fun y => absurd y z, fun y => ?_⟩
      split at y
      · exact absurd y (by decide)
      · split at y <;> exact absurd y (by decide)
  · rw [if_neg q, if_neg q]
    exact ⟨fun y => absurd y.1 (by decide), fun y => absurd y (by decide)⟩
theorem hx_2 (tb : Nat → Int32) (tn i : Nat) : (nI 48 ≤ v_hx tb tn i ∧ v_hx tb tn i ≤ nI 57) ↔ v_cl tb tn i = 2 := by
  unfold v_hx v_cl
  by_cases q : i < tn
  · rw [if_pos q, if_pos q]
    by_cases z : nI 97 ≤ tb i ∧ tb i ≤ nI 122
    · rw [if_pos z]
      exact ⟨fun y => absurd (Int32.le_trans z.1 y.2) (by decide), fun y => absurd y (by decide)⟩
    · rw [if_neg z]
      by_cases w : nI 48 ≤ tb i ∧ tb i ≤ nI 57
      · rw [if_pos w]; exact ⟨fun _ => rfl, fun _ => w⟩
      · rw [if_neg w]
        refine ⟨fun y => absurd y w, fun y => ?_⟩
        split at y <;> exact absurd y (by decide)
  · rw [if_neg q, if_neg q]
    exact ⟨fun y => absurd y.1 (by decide), fun y => absurd y (by decide)⟩
section S82
variable {c n tn : Nat} {K P B : Nat → Nat} {tb : Nat → Int32} {h h' : AH}
theorem mTp_fr (t : mTp tn tb h) {L : List (Nat × Option Nat)} (f : fr L h h') (q : ∀ j, inS L 169 j = false) (q2 : inS L 153 25 = false) : mTp tn tb h' := ⟨t.1, (f.I q2).trans t.2.1, fun i hi => (f.I (q i)).trans (t.2.2 i hi)⟩
theorem sp_here (t : mTp tn tb h) {a : Nat} (ha : a ≤ tn) (e : hI h 153 26 = nI a) : XX true 1 228 0 [.ref 153] [] (h) (some (.int (v_hx tb tn a)), h) := by
  have t120 := t.1
  refine wb_X12_here_0 ?_
  rw [e, t.2.1]
  unfold v_hx
  by_cases q : a < tn
  · rw [if_pos (nI_lt q (by omega)), if_pos q, ix_nI (by omega), t.2.2 a q]
    exact ⟨in_nI (by omega) (by decide), rfl⟩
  · rw [if_neg (nI_nlt (by omega) (by omega)), if_neg q]
theorem sp_next (t : mTp tn tb h) {a : Nat} (ha : a ≤ tn) (e : hI h 153 26 = nI a) : ∃ h', XX true 2 227 0 [.ref 153] [] (h) (none, h') ∧ fr frTk h h' ∧ mTk tb tn (v_f tb tn a) h' := by
  have t120 := t.1
  have fl := v_f_le (tb := tb) ha
  generalize ef : v_f tb tn a = f at fl ⊢
  have el := v_e_le (tb := tb) fl.2
  have i1 : ∀ x : Int32, ∀ h : AH, XX true 1 155 0 [.long (x.toInt64), ax_junk, .long (lN 97), ax_junk, .long (lN 122), ax_junk] [] (h) (some (.int (b2i (nI 97 ≤ x ∧ x ≤ nI 122))), h) := by
    intro x h
    have g := sp_in x.toInt64 (lN 97) (lN 122) h
    rw [lN_nI (by decide : 97 < 2 ^ 31), lN_nI (by decide : 122 < 2 ^ 31), b2i_cong (and_congr (toI64_le _ _) (toI64_le _ _))] at g
    rw [lN_nI (by decide : 97 < 2 ^ 31), lN_nI (by decide : 122 < 2 ^ 31)]
    exact g
  have i2 : ∀ x : Int32, ∀ h : AH, XX true 1 155 0 [.long (x.toInt64), ax_junk, .long (lN 48), ax_junk, .long (lN 57), ax_junk] [] (h) (some (.int (b2i (nI 48 ≤ x ∧ x ≤ nI 57))), h) := by
    intro x h
    have g := sp_in x.toInt64 (lN 48) (lN 57) h
    rw [lN_nI (by decide : 48 < 2 ^ 31), lN_nI (by decide : 57 < 2 ^ 31), b2i_cong (and_congr (toI64_le _ _) (toI64_le _ _))] at g
    rw [lN_nI (by decide : 48 < 2 ^ 31), lN_nI (by decide : 57 < 2 ^ 31)]
    exact g
  have stop : ∀ s m i, i + m = tn → v_cl tb tn (v_rn tb tn s m i) ≠ s ∨ v_rn tb tn s m i = tn := by
    intro s m
    induction m with
    | zero => intro i hi; exact Or.inr hi
    | succ m ihm =>
      intro i hi
      have eR : v_rn tb tn s (m + 1) i = if v_cl tb tn i = s then v_rn tb tn s m (i + 1) else i := rfl
      rw [eR]
      by_cases y : v_cl tb tn i = s
      · rw [if_pos y]
        exact ihm (i + 1) (by omega)
      · rw [if_neg y]
        exact Or.inl y
  have out : ∀ s, s ≠ 0 → s = v_cl tb tn f → s ≤ 2 → v_cl tb tn (v_e tb tn f) ≠ s := by
    intro s s0 es s2
    have ee : v_e tb tn f = v_rn tb tn s (tn - f) f := by
      unfold v_e
      rw [if_neg (by omega), if_pos (by omega), es]
    rcases stop s (tn - f) f (by omega) with z | z
    · rw [ee]; exact z
    · rw [ee, z]
      intro y
      have : v_cl tb tn tn = 0 := if_neg (Nat.lt_irrefl _)
      omega
  have ins : ∀ s, s ≠ 0 → s = v_cl tb tn f → s ≤ 2 → ∀ i, f ≤ i → i < v_e tb tn f → v_cl tb tn i = s := by
    intro s s0 es s2 i h1 h2
    have ee : v_e tb tn f = v_rn tb tn s (tn - f) f := by
      unfold v_e
      rw [if_neg (by omega), if_pos (by omega), es]
    rw [ee] at h2
    exact v_rn_all tb tn s (tn - f) f i h1 h2
  have lpA : v_cl tb tn f = 1 → ∀ k i, f ≤ i → i + k = v_e tb tn f → ∀ h1, fr frTk h h1 → hI h1 153 27 = nI f → hI h1 153 26 = nI i → ∃ h', XX true 2 227 47 [.ref 153] [] (h1) ((none, h')) ∧ fr frTk h h' ∧ mTk tb tn f h' := by
    intro s1 k
    induction k with
    | zero =>
      intro i fi hi h1 f1 e7 e6
      obtain rfl : i = v_e tb tn f := hi
      refine ⟨h1, ?_, f1, fl.2, e7, e6⟩
      have t1 := mTp_fr t f1 (fun _ => rfl) rfl
      refine wb_X12_next_47 ?_
      refine (cl_X12_next_48 rfl (by decide) (sp_here t1 el.2 e6)).mpr ?_
      refine wb_X12_next_51 ?_
      refine (cl_X12_next_58 rfl (by decide) (i1 _ _)).mpr ?_
      refine wb_X12_next_61 ?_
      rw [b2i_f (fun z => out 1 (by decide) s1.symm (by decide) ((hx_1 _ _ _).mp z)), if_pos rfl]
    | succ k ih =>
      intro i fi hi h1 f1 e7 e6
      have t1 := mTp_fr t f1 (fun _ => rfl) rfl
      obtain ⟨h', x, y⟩ := ih (i + 1) (by omega) (by omega) (ax_wr h1 153 26 (.int (nI (i + 1)))) (f1.wr' rfl) (by rw [wr_Ij (by decide)]; exact e7) (wr_I _ _ _ _)
      refine ⟨h', ?_, y⟩
      refine wb_X12_next_47 ?_
      refine (cl_X12_next_48 rfl (by decide) (sp_here t1 (by omega) e6)).mpr ?_
      refine wb_X12_next_51 ?_
      refine (cl_X12_next_58 rfl (by decide) (i1 _ _)).mpr ?_
      refine wb_X12_next_61 ?_
      rw [b2i_t ((hx_1 _ _ _).mpr (ins 1 (by decide) s1.symm (by decide) i fi (by omega))), if_neg (by decide), e6, nI_s]
      exact x
  have lpB : v_cl tb tn f = 2 → ∀ k i, f ≤ i → i + k = v_e tb tn f → ∀ h1, fr frTk h h1 → hI h1 153 27 = nI f → hI h1 153 26 = nI i → ∃ h', XX true 2 227 94 [.ref 153] [] (h1) ((none, h')) ∧ fr frTk h h' ∧ mTk tb tn f h' := by
    intro s1 k
    induction k with
    | zero =>
      intro i fi hi h1 f1 e7 e6
      obtain rfl : i = v_e tb tn f := hi
      refine ⟨h1, ?_, f1, fl.2, e7, e6⟩
      have t1 := mTp_fr t f1 (fun _ => rfl) rfl
      refine wb_X12_next_94 ?_
      refine (cl_X12_next_95 rfl (by decide) (sp_here t1 el.2 e6)).mpr ?_
      refine wb_X12_next_98 ?_
      refine (cl_X12_next_105 rfl (by decide) (i2 _ _)).mpr ?_
      refine wb_X12_next_108 ?_
      rw [b2i_f (fun z => out 2 (by decide) s1.symm (by decide) ((hx_2 _ _ _).mp z)), if_pos rfl]
    | succ k ih =>
      intro i fi hi h1 f1 e7 e6
      have t1 := mTp_fr t f1 (fun _ => rfl) rfl
      obtain ⟨h', x, y⟩ := ih (i + 1) (by omega) (by omega) (ax_wr h1 153 26 (.int (nI (i + 1)))) (f1.wr' rfl) (by rw [wr_Ij (by decide)]; exact e7) (wr_I _ _ _ _)
      refine ⟨h', ?_, y⟩
      refine wb_X12_next_94 ?_
      refine (cl_X12_next_95 rfl (by decide) (sp_here t1 (by omega) e6)).mpr ?_
      refine wb_X12_next_98 ?_
      refine (cl_X12_next_105 rfl (by decide) (i2 _ _)).mpr ?_
      refine wb_X12_next_108 ?_
      rw [b2i_t ((hx_2 _ _ _).mpr (ins 2 (by decide) s1.symm (by decide) i fi (by omega))), if_neg (by decide), e6, nI_s]
      exact x
  have c4 := v_cl_4 tb tn f
  have fin : ∀ h1, fr frTk h h1 → hI h1 153 26 = nI f → v_hx tb tn f ≠ nI 32 → ∃ h', XX true 2 227 4 [.ref 153] [.int (v_hx tb tn f)] (h1) ((none, h')) ∧ fr frTk h h' ∧ mTk tb tn f h' := by
    intro h1 f1 e6 n32
    have f2 : fr frTk h (ax_wr h1 153 27 (.int (nI f))) := f1.wr' rfl
    have t2 := mTp_fr t f2 (fun _ => rfl) rfl
    have g6 : hI (ax_wr h1 153 27 (.int (nI f))) 153 26 = nI f := by rw [wr_Ij (by decide)]; exact e6
    have g7 : hI (ax_wr h1 153 27 (.int (nI f))) 153 27 = nI f := wr_I _ _ _ _
    have pre : ∀ R, XX true 2 227 44 [.ref 153] [.int (b2i (nI 97 ≤ v_hx tb tn f ∧ v_hx tb tn f ≤ nI 122))] (ax_wr h1 153 27 (.int (nI f))) (R) → XX true 2 227 4 [.ref 153] [.int (v_hx tb tn f)] (h1) (R) := by
      intro R u
      refine wb_X12_next_4 ?_
      rw [if_neg n32, e6]
      refine (cl_X12_next_31 rfl (by decide) (sp_here t2 fl.2 g6)).mpr ?_
      refine wb_X12_next_34 ?_
      refine (cl_X12_next_41 rfl (by decide) (i1 _ _)).mpr ?_
      exact u
    by_cases s1 : v_cl tb tn f = 1
    · obtain ⟨h', x, y⟩ := lpA s1 (v_e tb tn f - f) f (Nat.le_refl _) (by omega) _ f2 g7 g6
      refine ⟨h', pre _ ?_, y⟩
      refine wb_X12_next_44 ?_
      rw [b2i_t ((hx_1 _ _ _).mpr s1), if_neg (by decide)]
      exact x
    · have p2 : ∀ R, XX true 2 227 91 [.ref 153] [.int (b2i (nI 48 ≤ v_hx tb tn f ∧ v_hx tb tn f ≤ nI 57))] (ax_wr h1 153 27 (.int (nI f))) (R) → XX true 2 227 4 [.ref 153] [.int (v_hx tb tn f)] (h1) (R) := by
        intro R u
        refine pre _ ?_
        refine wb_X12_next_44 ?_
        rw [b2i_f (fun z => s1 ((hx_1 _ _ _).mp z)), if_pos rfl]
        refine (cl_X12_next_78 rfl (by decide) (sp_here t2 fl.2 g6)).mpr ?_
        refine wb_X12_next_81 ?_
        refine (cl_X12_next_88 rfl (by decide) (i2 _ _)).mpr ?_
        exact u
      by_cases s2 : v_cl tb tn f = 2
      · obtain ⟨h', x, y⟩ := lpB s2 (v_e tb tn f - f) f (Nat.le_refl _) (by omega) _ f2 g7 g6
        refine ⟨h', p2 _ ?_, y⟩
        refine wb_X12_next_91 ?_
        rw [b2i_t ((hx_2 _ _ _).mpr s2), if_neg (by decide)]
        exact x
      · by_cases s0 : v_cl tb tn f = 0
        · have ee : v_e tb tn f = f := if_pos s0
          refine ⟨ax_wr (ax_wr h1 153 27 (.int (nI f))) 153 26 (.int (nI f)), p2 _ ?_, f2.wr' rfl, fl.2, by rw [wr_Ij (by decide)]; exact g7, by rw [wr_I, ee]⟩
          refine wb_X12_next_91 ?_
          rw [b2i_f (fun z => s2 ((hx_2 _ _ _).mp z)), if_pos rfl, g6, t2.2.1, if_neg (nI_nlt (by have := v_cl_0 s0; omega) (by omega))]
          refine wb_X12_next_145 ?_
          rw [nI_add, Nat.add_zero]
        · have ee : v_e tb tn f = f + 1 := by
            unfold v_e
            rw [if_neg s0, if_neg (by omega)]
          refine ⟨ax_wr (ax_wr h1 153 27 (.int (nI f))) 153 26 (.int (nI (f + 1))), p2 _ ?_, f2.wr' rfl, fl.2, by rw [wr_Ij (by decide)]; exact g7, by rw [wr_I, ee]⟩
          refine wb_X12_next_91 ?_
          rw [b2i_f (fun z => s2 ((hx_2 _ _ _).mp z)), if_pos rfl, g6, t2.2.1, if_pos (nI_lt (v_cl_lt s0) (by omega))]
          refine wb_X12_next_145 ?_
          rw [nI_s]
  have lp : ∀ k i, i + k = tn → v_sk tb tn k i = f → ∀ h1, fr frTk h h1 → hI h1 153 26 = nI i → ∃ h', XX true 2 227 0 [.ref 153] [] (h1) ((none, h')) ∧ fr frTk h h' ∧ mTk tb tn f h' := by
    intro k
    induction k with
    | zero =>
      intro i hi ev h1 f1 e6
      obtain rfl : i = tn := hi
      obtain rfl : i = f := ev
      have t1 := mTp_fr t f1 (fun _ => rfl) rfl
      have hh : v_hx tb i i = -nI 1 := if_neg (Nat.lt_irrefl _)
      obtain ⟨h', x, y⟩ := fin h1 f1 e6 (by rw [hh]; decide)
      refine ⟨h', ?_, y⟩
      refine wb_X12_next_0 ?_
      refine (cl_X12_next_1 rfl (by decide) (sp_here t1 (Nat.le_refl _) e6)).mpr ?_
      exact x
    | succ k ih =>
      intro i hi ev h1 f1 e6
      have t1 := mTp_fr t f1 (fun _ => rfl) rfl
      have ee : v_sk tb tn (k + 1) i = if i < tn ∧ tb i = nI 32 then v_sk tb tn k (i + 1) else i := rfl
      have hh : v_hx tb tn i = tb i := if_pos (by omega)
      rw [ee] at ev
      by_cases q : tb i = nI 32
      · rw [if_pos ⟨by omega, q⟩] at ev
        obtain ⟨h', x, y⟩ := ih (i + 1) (by omega) ev (ax_wr h1 153 26 (.int (nI (i + 1)))) (f1.wr' rfl) (wr_I _ _ _ _)
        refine ⟨h', ?_, y⟩
        refine wb_X12_next_0 ?_
        refine (cl_X12_next_1 rfl (by decide) (sp_here t1 (by omega) e6)).mpr ?_
        refine wb_X12_next_4 ?_
        rw [hh, if_pos q, e6, nI_s]
        exact x
      · rw [if_neg (fun z => q z.2)] at ev
        subst ev
        obtain ⟨h', x, y⟩ := fin h1 f1 e6 (by rw [hh]; exact q)
        refine ⟨h', ?_, y⟩
        refine wb_X12_next_0 ?_
        refine (cl_X12_next_1 rfl (by decide) (sp_here t1 (by omega) e6)).mpr ?_
        exact x
  obtain ⟨h', x, y⟩ := lp (tn - a) a (by omega) ef h fr.rfl' e
  exact ⟨h', x, y⟩
theorem sp_isToken (t : mTp tn tb h) {f : Nat} (k : mTk tb tn f h) {w : Nat} (hw : w < 9) : XX true 6 229 0 [.ref 153, .ref (10 + w), ax_junk, ax_junk] [] (h) (some (.int (b2i (isTk tb f (v_e tb tn f) w))), h) := by
  have t120 := t.1
  obtain ⟨k1, k3, k4⟩ := k
  have el := v_e_le (tb := tb) k1
  have l6 := wl_6 w hw
  have d := (wD w hw h).1
  have len := sp_len hw h
  rw [rf_ne (by omega)] at len
  refine wb_X12_isToken_0 ?_
  refine (cl_X12_isToken_10 ⟨d.2.1, d.2.2⟩ rfl (by decide) len).mpr ?_
  refine wb_X12_isToken_13 ?_
  rw [k4, k3, nI_subI el.1]
  by_cases q : v_e tb tn f = f + wl w
  · have lp : ∀ m i, i + m = wl w → (∀ j, j < i → tb (f + j) = nI (wc w j)) → XX true 6 229 24 [.ref 153, .ref (10 + w), .int (nI 1), .int (nI i)] [] (h) ((some (.int (b2i (isTk tb f (v_e tb tn f) w))), h)) := by
      intro m
      induction m with
      | zero =>
        intro i hi g
        obtain rfl : i = wl w := hi
        refine wb_X12_isToken_24 ?_
        refine (cl_X12_isToken_26 ⟨d.2.1, d.2.2⟩ rfl (by decide) len).mpr ?_
        refine wb_X12_isToken_29 ?_
        rw [if_neg (nI_nlt (Nat.le_refl _) (by omega)), b2i_t ⟨q, g⟩]
        exact ⟨Or.inr rfl, rfl⟩
      | succ m ih =>
        intro i hi g
        have ch := sp_char hw (i := i) (by omega) h
        rw [rf_ne (by omega)] at ch
        refine wb_X12_isToken_24 ?_
        refine (cl_X12_isToken_26 ⟨d.2.1, d.2.2⟩ rfl (by decide) len).mpr ?_
        refine wb_X12_isToken_29 ?_
        rw [if_pos (nI_lt (by omega) (by omega)), if_neg (by decide), k3, nI_add, ix_nI (by omega), t.2.2 _ (by omega)]
        refine ⟨in_nI (by omega) (by decide), ?_⟩
        refine (cl_X12_isToken_49 ⟨d.2.1, d.2.2⟩ rfl (by decide) ch).mpr ?_
        refine wb_X12_isToken_52 ?_
        by_cases z : tb (f + i) = nI (wc w i)
        · rw [if_pos z]
          refine wb_X12_isToken_60 ?_
          rw [nI_s]
          exact ih (i + 1) (by omega) (fun j hj => by
            by_cases e : j = i
            · rw [e]; exact z
            · exact g j (by omega))
        · rw [if_neg z]
          refine wb_X12_isToken_60 ?_
          refine wb_X12_isToken_24 ?_
          refine (cl_X12_isToken_26 ⟨d.2.1, d.2.2⟩ rfl (by decide) len).mpr ?_
          refine wb_X12_isToken_29 ?_
          rw [b2i_f (fun y => z (y.2 i (by omega))), nI_s]
          by_cases y : i + 1 < wl w
          · rw [if_pos (nI_lt y (by omega)), if_pos rfl]
            exact ⟨Or.inl rfl, rfl⟩
          · rw [if_neg (nI_nlt (by omega) (by omega))]
            exact ⟨Or.inl rfl, rfl⟩
    rw [if_pos (congrArg nI (by omega))]
    refine wb_X12_isToken_21 ?_
    exact lp (wl w) 0 (by omega) (fun j hj => absurd hj (Nat.not_lt_zero _))
  · rw [if_neg (fun z => q (by have := (nI_eq (by omega) (by omega)).mp z; omega))]
    refine wb_X12_isToken_21 ?_
    refine wb_X12_isToken_24 ?_
    refine (cl_X12_isToken_26 ⟨d.2.1, d.2.2⟩ rfl (by decide) len).mpr ?_
    refine wb_X12_isToken_29 ?_
    rw [b2i_f (fun z => q z.1), if_pos (nI_lt (by omega) (by omega)), if_pos rfl]
    exact ⟨Or.inl rfl, rfl⟩
theorem sp_must {p : Prop} [Decidable p] (h : AH) : XX true 1 230 0 [.ref 153, .int (b2i p)] [] (h) (some (.int (b2i p)), ax_wr h 153 28 (.int (if p then hI h 153 28 else hI h 153 27))) := by
  refine wb_X12_must_0 ?_
  by_cases q : p
  · rw [b2i_t q, if_neg (by decide), if_pos q]
    refine wb_X12_must_16 ?_
    exact ⟨Or.inr rfl, rfl⟩
  · rw [b2i_f q, if_pos rfl, if_neg q]
    refine wb_X12_must_16 ?_
    exact ⟨Or.inl rfl, rfl⟩
theorem sp_number (t : mTp tn tb h) {a : Nat} (ha : a ≤ tn) (e : hI h 153 26 = nI a) {lo hi : Nat} (l9 : lo ≤ 9) (h9 : hi ≤ 9) : ∃ h', XX true 3 231 0 [.ref 153, .int (nI lo), .int (nI hi), ax_junk] [] (h) (some (.int (b2i (v_cl tb tn (v_f tb tn a) = 2 ∧ lo ≤ v_nm tb (v_f tb tn a) (v_e tb tn (v_f tb tn a) - v_f tb tn a) ∧ v_nm tb (v_f tb tn a) (v_e tb tn (v_f tb tn a) - v_f tb tn a) ≤ hi))), h') ∧ fr frNu h h' ∧ mTk tb tn (v_f tb tn a) h' ∧ ((v_cl tb tn (v_f tb tn a) = 2 ∧ lo ≤ v_nm tb (v_f tb tn a) (v_e tb tn (v_f tb tn a) - v_f tb tn a) ∧ v_nm tb (v_f tb tn a) (v_e tb tn (v_f tb tn a) - v_f tb tn a) ≤ hi) → hI h' 153 29 = nI (v_nm tb (v_f tb tn a) (v_e tb tn (v_f tb tn a) - v_f tb tn a))) ∧ (¬ (v_cl tb tn (v_f tb tn a) = 2 ∧ lo ≤ v_nm tb (v_f tb tn a) (v_e tb tn (v_f tb tn a) - v_f tb tn a) ∧ v_nm tb (v_f tb tn a) (v_e tb tn (v_f tb tn a) - v_f tb tn a) ≤ hi) → hI h' 153 28 = nI (v_f tb tn a)) := by
  have t120 := t.1
  obtain ⟨h1, r1, f1, k1⟩ := sp_next t ha e
  generalize v_f tb tn a = f at k1 ⊢
  have el := v_e_le (tb := tb) k1.1
  have F1 : fr frNu h (ax_wr h1 153 29 (.int (nI 0))) := (f1.mono rfl).wr' rfl
  have kf : ∀ {h2 : AH} {L}, fr L h1 h2 → inS L 153 26 = false → inS L 153 27 = false → mTk tb tn f h2 := fun g q q2 => ⟨k1.1, (g.I q2).trans k1.2.1, (g.I q).trans k1.2.2⟩
  have lp : ∀ m j, f + j + m = v_e tb tn f → ∀ h2, fr [(153, some 29)] h1 h2 → (v_cl tb tn f = 2 → ∃ x, hI h2 153 29 = nI x ∧ x ≤ 999 ∧ ((x = v_nm tb f j ∧ x ≤ 9) ∨ (10 ≤ x ∧ 10 ≤ v_nm tb f j))) → ∃ h3, fr [(153, some 29)] h1 h3 ∧ (v_cl tb tn f = 2 → ∃ x, hI h3 153 29 = nI x ∧ x ≤ 999 ∧ ((x = v_nm tb f (v_e tb tn f - f) ∧ x ≤ 9) ∨ (10 ≤ x ∧ 10 ≤ v_nm tb f (v_e tb tn f - f)))) ∧ ∀ R, XX true 3 231 14 [.ref 153, .int (nI lo), .int (nI hi), .int (nI (v_e tb tn f))] [] (h3) (R) → XX true 3 231 14 [.ref 153, .int (nI lo), .int (nI hi), .int (nI (f + j))] [] (h2) (R) := by
    intro m
    induction m with
    | zero =>
      intro j hj h2 f2 g
      have ej : f + j = v_e tb tn f := hj
      refine ⟨h2, f2, fun z => ?_, fun R u => ?_⟩
      · rw [← ej, Nat.add_sub_cancel_left]; exact g z
      · rw [ej]; exact u
    | succ m ih =>
      intro j hj h2 f2 g
      have k2 := kf f2 rfl rfl
      have t2 : mTp tn tb h2 := mTp_fr (mTp_fr t f1 (fun _ => rfl) rfl) f2 (fun _ => rfl) rfl
      have step : ∀ v : Int32, (hI h2 153 29 ≤ nI 99 → v = nI 10 * hI h2 153 29 + tb (f + j) - nI 48) → (¬ hI h2 153 29 ≤ nI 99 → v = hI h2 153 29) → ∃ h3, fr [(153, some 29)] h1 h3 ∧ (v_cl tb tn f = 2 → ∃ x, hI h3 153 29 = nI x ∧ x ≤ 999 ∧ ((x = v_nm tb f (v_e tb tn f - f) ∧ x ≤ 9) ∨ (10 ≤ x ∧ 10 ≤ v_nm tb f (v_e tb tn f - f)))) ∧ ∀ R, XX true 3 231 14 [.ref 153, .int (nI lo), .int (nI hi), .int (nI (v_e tb tn f))] [] (h3) (R) → XX true 3 231 56 [.ref 153, .int (nI lo), .int (nI hi), .int (nI (f + j))] [.int (v), .ref 153] (h2) (R) := by
        intro v v1 v2
        obtain ⟨h3, f3, g3, u3⟩ := ih (j + 1) (by omega) (ax_wr h2 153 29 (.int v)) (f2.wr' rfl) (fun z => by
          obtain ⟨x, x1, x2, x3⟩ := g z
          obtain ⟨dd, hd, d1, d2⟩ := dig (v_cl_2 (v_e_dig z j (by omega))).1 (v_cl_2 (v_e_dig z j (by omega))).2
          have en : v_nm tb f (j + 1) = if v_nm tb f j ≤ 9 then 10 * v_nm tb f j + ((tb (f + j)).toInt.toNat - 48) else v_nm tb f j := rfl
          rw [d2] at en
          rw [wr_I, en]
          rw [x1] at v1 v2
          by_cases q : x ≤ 99
          · refine ⟨10 * x + dd, ?_, by omega, ?_⟩
            · rw [v1 (nI_le q (by omega)), d1, nI_mulI, nI_add, nI_subI (by omega), show 10 * x + (48 + dd) - 48 = 10 * x + dd by omega]
            · rcases x3 with ⟨y1, y2⟩ | ⟨y1, y2⟩
              · rw [← y1, if_pos y2]
                omega
              · rw [if_neg (by omega)]
                exact Or.inr ⟨by omega, y2⟩
          · refine ⟨x, v2 (fun z => q ((nI_leI (by omega) (by omega)).mp z)), x2, ?_⟩
            rcases x3 with ⟨y1, y2⟩ | ⟨y1, y2⟩
            · exact absurd y2 (by omega)
            · rw [if_neg (by omega)]
              exact Or.inr ⟨y1, y2⟩)
        refine ⟨h3, f3, g3, fun R u => ?_⟩
        refine wb_X12_number_56 ?_
        rw [nI_s]
        exact u3 R u
      by_cases q : hI h2 153 29 ≤ nI 99
      · obtain ⟨h3, f3, g3, u3⟩ := step (nI 10 * hI h2 153 29 + tb (f + j) - nI 48) (fun _ => rfl) (fun z => absurd q z)
        refine ⟨h3, f3, g3, fun R u => ?_⟩
        refine wb_X12_number_14 ?_
        rw [k2.2.2, if_pos (nI_lt (by omega) (by omega)), if_pos q, ix_nI (by omega), t2.2.2 _ (by omega)]
        exact ⟨in_nI (by omega) (by decide), u3 R u⟩
      · obtain ⟨h3, f3, g3, u3⟩ := step (hI h2 153 29) (fun z => absurd z q) (fun _ => rfl)
        refine ⟨h3, f3, g3, fun R u => ?_⟩
        refine wb_X12_number_14 ?_
        rw [k2.2.2, if_pos (nI_lt (by omega) (by omega)), if_neg q]
        exact u3 R u
  obtain ⟨h3, f3, g3, u3⟩ := lp (v_e tb tn f - f) 0 (by omega) (ax_wr h1 153 29 (.int (nI 0))) (fr.wr rfl) (fun _ => ⟨0, wr_I _ _ _ _, by decide, Or.inl ⟨rfl, by decide⟩⟩)
  have k3 := kf f3 rfl rfl
  have t3 : mTp tn tb h3 := mTp_fr (mTp_fr t f1 (fun _ => rfl) rfl) f3 (fun _ => rfl) rfl
  have F3 : fr frNu h h3 := (f1.mono rfl).trans (f3.mono rfl)
  have g7 : hI (ax_wr h1 153 29 (.int (nI 0))) 153 27 = nI f := by rw [wr_Ij (by decide)]; exact k1.2.1
  have fin : ∀ (p : Prop) [Decidable p], (p ↔ (v_cl tb tn f = 2 ∧ lo ≤ v_nm tb f (v_e tb tn f - f) ∧ v_nm tb f (v_e tb tn f - f) ≤ hi)) → (∀ R, XX true 3 231 119 [ax_junk, ax_junk, ax_junk, ax_junk] [.int (b2i p), .ref 153] (h3) (R) → XX true 3 231 14 [.ref 153, .int (nI lo), .int (nI hi), .int (nI (v_e tb tn f))] [] (h3) (R)) → ∃ h', XX true 3 231 0 [.ref 153, .int (nI lo), .int (nI hi), ax_junk] [] (h) (some (.int (b2i (v_cl tb tn f = 2 ∧ lo ≤ v_nm tb f (v_e tb tn f - f) ∧ v_nm tb f (v_e tb tn f - f) ≤ hi))), h') ∧ fr frNu h h' ∧ mTk tb tn f h' ∧ ((v_cl tb tn f = 2 ∧ lo ≤ v_nm tb f (v_e tb tn f - f) ∧ v_nm tb f (v_e tb tn f - f) ≤ hi) → hI h' 153 29 = nI (v_nm tb f (v_e tb tn f - f))) ∧ (¬ (v_cl tb tn f = 2 ∧ lo ≤ v_nm tb f (v_e tb tn f - f) ∧ v_nm tb f (v_e tb tn f - f) ≤ hi) → hI h' 153 28 = nI f) := by
    intro p _ pe u
    refine ⟨ax_wr h3 153 28 (.int (if p then hI h3 153 28 else hI h3 153 27)), ?_, F3.wr' rfl, ⟨k3.1, by rw [wr_Ij (by decide)]; exact k3.2.1, by rw [wr_Ij (by decide)]; exact k3.2.2⟩, fun z => ?_, fun z => ?_⟩
    · refine wb_X12_number_0 ?_
      refine (cl_X12_number_1 rfl (by decide) (r1)).mpr ?_
      refine wb_X12_number_4 ?_
      rw [g7]
      refine u3 _ (u _ ?_)
      refine (cl_X12_number_119 rfl (by decide) (sp_must h3)).mpr ?_
      refine wb_X12_number_122 ?_
      rw [b2i_cong pe]
      exact ⟨b2i_01 _, rfl⟩
    · rw [wr_Ij (by decide)]
      obtain ⟨x, x1, x2, x3⟩ := g3 z.1
      rw [x1]
      exact congrArg nI (by omega)
    · rw [wr_I, if_neg (fun y => z (pe.mp y)), k3.2.1]
  by_cases q : f < tn
  · have e93 : ∀ R, XX true 3 231 96 [.ref 153, .int (nI lo), .int (nI hi), ax_junk] [.int (b2i (v_cl tb tn f = 2)), .ref 153] (h3) (R) → XX true 3 231 14 [.ref 153, .int (nI lo), .int (nI hi), .int (nI (v_e tb tn f))] [] (h3) (R) := by
      intro R u
      refine wb_X12_number_14 ?_
      rw [k3.2.2, if_neg (nI_nlt (Nat.le_refl _) (by omega)), k3.2.1, t3.2.1, if_pos (nI_lt q (by omega)), ix_nI (by omega), t3.2.2 f q]
      refine ⟨in_nI (by omega) (by decide), ?_⟩
      refine (cl_X12_number_93 rfl (by decide) (sp_in _ _ _ _)).mpr ?_
      rw [lN_nI (by decide : 48 < 2 ^ 31), lN_nI (by decide : 57 < 2 ^ 31), b2i_cong (and_congr (toI64_le _ _) (toI64_le _ _))]
      have hh : v_hx tb tn f = tb f := if_pos q
      rw [← hh, b2i_cong (hx_2 tb tn f)]
      exact wk_X12_number_96 u
    by_cases z : v_cl tb tn f = 2
    · obtain ⟨x, x1, x2, x3⟩ := g3 z
      refine fin (lo ≤ x ∧ x ≤ hi) ⟨fun y => ⟨z, by omega, by omega⟩, fun y => by omega⟩ (fun R u => e93 _ ?_)
      refine wb_X12_number_96 ?_
      rw [b2i_t z, if_neg (by decide), x1]
      refine (cl_X12_number_108 rfl (by decide) (sp_in _ _ _ _)).mpr ?_
      rw [b2i_cong (and_congr (toI64_le _ _) (toI64_le _ _)), b2i_cong (and_congr (nI_leI (by omega) (by omega)) (nI_leI (by omega) (by omega)))]
      refine wb_X12_number_111 ?_
      by_cases y : lo ≤ x ∧ x ≤ hi
      · rw [b2i_t y, if_neg (by decide)]
        rw [b2i_t y] at u
        exact wk_X12_number_119 u
      · rw [b2i_f y, if_pos rfl]
        refine wb_X12_number_118 ?_
        rw [b2i_f y] at u
        exact wk_X12_number_119 u
    · refine fin False ⟨fun y => y.elim, fun y => z y.1⟩ (fun R u => e93 _ ?_)
      refine wb_X12_number_96 ?_
      rw [b2i_f z, if_pos rfl]
      refine wb_X12_number_118 ?_
      exact wk_X12_number_119 u
  · have c0 : v_cl tb tn f = 0 := if_neg q
    refine fin False ⟨fun y => y.elim, fun y => absurd y.1 (by omega)⟩ (fun R u => ?_)
    refine wb_X12_number_14 ?_
    rw [k3.2.2, if_neg (nI_nlt (Nat.le_refl _) (by omega)), k3.2.1, t3.2.1, if_neg (nI_nlt (by omega) (by omega))]
    refine wb_X12_number_118 ?_
    exact wk_X12_number_119 u
end S82
