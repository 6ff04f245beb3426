/-! THE LAW: a game is made by cells -/
section S92
variable {c n np nr : Nat} {K P B T C : Nat → Nat} {U : Nat → Nat → Nat} {V W : Nat → Int} {h h1 h' : AH}
abbrev X8 (a : Nat) : Prop := a < 168
/-- as made so far, seen from the start -/
def mS (c n : Nat) (K P B : Nat → Nat) (nr : Nat) (U : Nat → Nat → Nat) (V W : Nat → Int) (T C : Nat → Nat) (k : Nat) (h h1 : AH) : Prop := fy k X8 h h1 ∧ oS c n K P B h1 ∧ lG c n K P B 0 T C nr U V W h1 ∧ hI h1 153 9 = nI 0
theorem lm_190 {N i : Nat} (hL : h.2.2.2.2 < 2 ^ 31) (hN : N ≤ 5) (hi : i < N) (s : mS c n K P B nr U V W T C (3 * i) h h1) : ∃ k p b, k < 8 ∧ p = (if k = 1 ∨ k = 6 then 0 else p) ∧ p < 3 ∧ (hasN k → b = 2 ∨ b = 3) ∧ (¬ hasN k → b = 0) ∧ ∀ R, XX true 7 84 190 [.ref 64, .ref 48, ax_junk, .ref 153, .int (nI N), .int (nI i), ax_junk, .int (nI k), .int (nI p), ax_junk, ax_junk] [.int (nI b)] (h1) (R) → XX true 7 84 110 [.ref 64, .ref 48, ax_junk, .ref 153, .int (nI N), .int (nI i), ax_junk, ax_junk, ax_junk, ax_junk, ax_junk] [] (h1) (R) := by
  obtain ⟨v, hv, xc⟩ := ll_cell (h := h1) (by rw [s.1.2.2.2.1]; exact hL) (k := 2 + i) (by omega)
  have hv8 : v / 2 ^ 3 < 2 ^ 31 := Nat.lt_of_le_of_lt (Nat.div_le_self _ _) hv
  have hv6 : v / 2 ^ 6 < 2 ^ 31 := Nat.lt_of_le_of_lt (Nat.div_le_self _ _) hv
  have k8 : v % 8 < 8 := Nat.mod_lt _ (by decide)
  have p3 : v / 2 ^ 3 % 3 < 3 := Nat.mod_lt _ (by decide)
  have b2 : v / 2 ^ 6 % 2 < 2 := Nat.mod_lt _ (by decide)
  have g1 : ∀ R, XX true 7 84 157 [.ref 64, .ref 48, ax_junk, .ref 153, .int (nI N), .int (nI i), .int (nI v), .int (nI (v % 8)), ax_junk, ax_junk, ax_junk] [.int (nI (if v % 8 = 1 ∨ v % 8 = 6 then 0 else v / 2 ^ 3 % 3))] (h1) (R) → XX true 7 84 110 [.ref 64, .ref 48, ax_junk, .ref 153, .int (nI N), .int (nI i), ax_junk, ax_junk, ax_junk, ax_junk, ax_junk] [] (h1) (R) := by
    intro R x
    refine wb_L_made_110 ?_
    rw [if_pos (nI_lt hi (by omega)), nI_add]
    refine cl_L_made_122 rfl (by decide) (xc) ?_
    refine wb_L_made_125 ?_
    rw [nI_rem hv (by decide), nI_shr hv 3 (by decide), nI_rem hv8 (by decide)]
    refine ⟨by decide, ?_⟩
    by_cases q1 : v % 8 = 1
    · rw [if_pos (by rw [q1])]
      rw [if_pos (Or.inl q1)] at x
      refine wb_L_made_147 ?_
      exact x
    · rw [if_neg (fun y => q1 ((nI_eq (by omega) (by omega)).mp y))]
      by_cases q6 : v % 8 = 6
      · rw [if_pos (by rw [q6])]
        rw [if_pos (Or.inr q6)] at x
        refine wb_L_made_147 ?_
        exact x
      · rw [if_neg (fun y => q6 ((nI_eq (by omega) (by omega)).mp y))]
        rw [if_neg (by omega)] at x
        exact ⟨by decide, x⟩
  have p3' : (if v % 8 = 1 ∨ v % 8 = 6 then 0 else v / 2 ^ 3 % 3) < 3 := by split <;> omega
  refine ⟨v % 8, if v % 8 = 1 ∨ v % 8 = 6 then 0 else v / 2 ^ 3 % 3, if hasN (v % 8) then 2 + v / 2 ^ 6 % 2 else 0, k8, by split <;> rfl, p3', fun q => by rw [if_pos q]; omega, fun q => if_neg q, fun R x => g1 R ?_⟩
  generalize (if v % 8 = 1 ∨ v % 8 = 6 then 0 else v / 2 ^ 3 % 3) = p at *
  have g2 : hasN (v % 8) → XX true 7 84 177 [.ref 64, .ref 48, ax_junk, .ref 153, .int (nI N), .int (nI i), .int (nI v), .int (nI (v % 8)), .int (nI p), ax_junk, ax_junk] [] (h1) (R) := by
    intro q
    rw [if_pos q] at x
    refine wb_L_made_177 ?_
    rw [nI_shr hv 6 (by decide), nI_rem hv6 (by decide), nI_add]
    exact ⟨by decide, x⟩
  refine wb_L_made_157 ?_
  by_cases q2 : v % 8 = 2
  · rw [if_pos (by rw [q2])]
    exact g2 (by omega)
  · rw [if_neg (fun y => q2 ((nI_eq (by omega) (by omega)).mp y))]
    by_cases q3 : v % 8 = 3
    · rw [if_pos (by rw [q3])]
      exact g2 (by omega)
    · rw [if_neg (fun y => q3 ((nI_eq (by omega) (by omega)).mp y))]
      by_cases q5 : v % 8 ≤ 5
      · rw [if_pos (nI_le q5 (by decide))]
        rw [if_neg (by omega)] at x
        exact x
      · rw [if_neg (Int32.not_le.mpr (nI_lt (by omega) (by omega)))]
        exact g2 (by omega)
theorem lm_stage {N i : Nat} (hL : h.2.2.2.2 < 2 ^ 31) (hN : N ≤ 5) (hi : i < N) (hn : n ≤ i) (s : mS c n K P B nr U V W T C (3 * i) h h1) : ∃ n2 K2 P2 B2 h2, n2 ≤ i + 1 ∧ mS c n2 K2 P2 B2 nr U V W T C (3 * (i + 1)) h h2 ∧ ∀ R, XX true 7 84 110 [.ref 64, .ref 48, ax_junk, .ref 153, .int (nI N), .int (nI (i + 1)), ax_junk, ax_junk, ax_junk, ax_junk, ax_junk] [] (h2) (R) → XX true 7 84 110 [.ref 64, .ref 48, ax_junk, .ref 153, .int (nI N), .int (nI i), ax_junk, ax_junk, ax_junk, ax_junk, ax_junk] [] (h1) (R) := by
  obtain ⟨k, p, b, k8, pe, p3, bN, b0, x190⟩ := lm_190 hL hN hi s
  obtain ⟨f, o, g, z9⟩ := s
  have c5 := o.ok.2.1
  have b3 : b ≤ 3 := by
    by_cases q : hasN k
    · have := bN q; omega
    · have := b0 q; omega
  have tl : told (nI k) (nI p) (nI b) := by
    refine ⟨(isLe_nI (by omega) (by omega)).mpr (by omega), ?_, ?_⟩
    · by_cases q : k = 1 ∨ k = 6
      · rw [if_pos (by rcases q with q | q <;> (rw [q]; decide))]
        rw [pe, if_pos q]
      · rw [if_neg (fun y => q (by rcases y with y | y; exact Or.inl ((nI_eq (by omega) (by omega)).mp y); exact Or.inr ((nI_eq (by omega) (by omega)).mp y)))]
        exact ⟨nI_le (Nat.zero_le _) (by omega), nI_le (by omega) (by decide)⟩
    · rw [ix_nI (by omega)]
      by_cases q : hasN k
      · rw [if_pos q]
        exact ⟨nI_le (by have := bN q; omega) (by omega), nI_le b3 (by decide)⟩
      · rw [if_neg q, b0 q]
  have oc := v_out_c o.ok n (Nat.le_refl _)
  -- up to the call
  have g210 : ∀ R, XX true 7 84 210 [.ref 64, .ref 48, ax_junk, .ref 153, .int (nI N), .int (nI i), ax_junk, .int (nI k), .int (nI p), .int (nI b), ax_junk] [.int (b2i (isCd k → v_out K n < c))] (h1) (R) → XX true 7 84 110 [.ref 64, .ref 48, ax_junk, .ref 153, .int (nI N), .int (nI i), ax_junk, ax_junk, ax_junk, ax_junk, ax_junk] [] (h1) (R) := by
    intro R x
    refine x190 R ?_
    refine wb_L_made_190 ?_
    by_cases q : k ≤ 1
    · rw [if_pos (nI_le q (by decide))]
      refine cl_L_made_199 rfl (by decide) (so_left o) ?_
      refine wb_L_made_202 ?_
      by_cases q2 : v_out K n < c
      · rw [if_neg (nI_p (show 0 < c - v_out K n by omega) (by omega))]
        refine wb_L_made_205 ?_
        rw [b2i_t (fun _ => q2)] at x
        exact x
      · rw [show c - v_out K n = 0 by omega, if_pos (Int32.le_refl _)]
        rw [b2i_f (fun y => q2 (y (by omega)))] at x
        exact x
    · rw [if_neg (Int32.not_le.mpr (nI_lt (by omega) (by omega)))]
      refine wb_L_made_205 ?_
      rw [b2i_t (fun y => by omega)] at x
      exact x
  have n6 : n ≠ 6 := by omega
  by_cases q : isCd k → v_out K n < c
  · have pu : puts c n K (nI k) (nI p) (nI b) := ⟨tl, n6, by rw [ix_nI (by omega)]; exact q⟩
    obtain ⟨h2, x2, f2, g2⟩ := lg_stage g (nI k) (nI p) (nI b) pu
    unfold a_stage at x2
    rw [if_pos tl, if_neg n6, if_pos pu.2.2] at x2
    rw [ix_nI (by omega), ix_nI (by omega), ix_nI (by omega)] at g2
    have o2 : oS c n K P B h2 := o.y f2 (fun a z => by omega)
    have al2 := o2.al
    have z2 : hI h2 153 9 = nI 0 := (f2.I (by have := o.al; omega) (by decide)).trans z9
    let h3 := ax_wr (ax_wr (ax_wr (ax_wr h2 155 n (.int (nI k))) 156 n (.int (nI p))) 157 n (.int (nI b))) 153 1 (.int (nI (n + 1)))
    have f3 : fy 0 (fun a => 153 ≤ a ∧ a < 158) h2 h3 := ((((fy.rf (fun a => 153 ≤ a ∧ a < 158) h2).wr (a := 155) (Or.inl (by decide))).wr (a := 156) (Or.inl (by decide))).wr (a := 157) (Or.inl (by decide))).wr (a := 153) (Or.inl (by decide))
    have g3 := g2.o f3 (fun a z => ⟨by omega, by omega⟩)
    refine ⟨n + 1, updN K n k, updN P n p, updN B n b, h3, by omega, ⟨?_, ⟨g3.ok, al2, ?_, ?_, fun j hj => ?_⟩, g3, ?_⟩, fun R x => g210 R ?_⟩
    · exact ((f.trans f2 (fun a z => by left; show a < 168; omega)).trans f3 (fun a z => by left; show a < 168; omega)).mono (fun _ z => z) (by omega)
    · exact (wr_Ij (by decide)).trans ((wr_Ia (by decide)).trans ((wr_Ia (by decide)).trans ((wr_Ia (by decide)).trans o2.mm)))
    · exact wr_I _ _ _ _
    · by_cases z : j = n
      · rw [z, updN_s, updN_s, updN_s]
        exact ⟨(wr_Ia (by decide)).trans ((wr_Ia (by decide)).trans ((wr_Ia (by decide)).trans (wr_I _ _ _ _))), (wr_Ia (by decide)).trans ((wr_Ia (by decide)).trans (wr_I _ _ _ _)), (wr_Ia (by decide)).trans (wr_I _ _ _ _)⟩
      · rw [updN_o z, updN_o z, updN_o z]
        have jn : j < n := by omega
        exact ⟨(wr_Ia (by decide)).trans ((wr_Ia (by decide)).trans ((wr_Ia (by decide)).trans ((wr_Ij z).trans (o2.KK jn)))), (wr_Ia (by decide)).trans ((wr_Ia (by decide)).trans ((wr_Ij z).trans ((wr_Ia (by decide)).trans (o2.PP jn)))), (wr_Ia (by decide)).trans ((wr_Ij z).trans ((wr_Ia (by decide)).trans ((wr_Ia (by decide)).trans (o2.BB jn))))⟩
    · exact (wr_Ij (by decide)).trans ((wr_Ia (by decide)).trans ((wr_Ia (by decide)).trans ((wr_Ia (by decide)).trans z2)))
    · rw [b2i_t q]
      refine wb_L_made_210 ?_
      refine cl_L_made_219 rfl (by decide) (x2) ?_
      refine wb_L_made_222 ?_
      rw [if_neg (by decide), o2.nn]
      refine wb_L_made_236 ?_
      rw [if_pos rfl, if_neg (by decide)]
      have e1 : ∀ {hh : AH}, hI hh 153 1 = nI n → ∀ a v, a ≠ 153 → hI (ax_wr hh a (ix (nI n)) v) 153 1 = nI n := fun e a v ha => (wr_Ia (fun z => ha z.symm)).trans e
      rw [o2.nn, e1 o2.nn 155 _ (by decide), e1 (e1 o2.nn 155 _ (by decide)) 156 _ (by decide), e1 (e1 (e1 o2.nn 155 _ (by decide)) 156 _ (by decide)) 157 _ (by decide), ix_nI (by omega), nI_s]
      refine ⟨in_nI (by omega) (by decide), in_nI (by omega) (by decide), in_nI (by omega) (by decide), ?_⟩
      refine wb_L_made_292 ?_
      rw [nI_s]
      exact x
  · have pu : ¬ puts c n K (nI k) (nI p) (nI b) := fun y => q (by have := y.2.2; rw [ix_nI (by omega)] at this; exact this)
    have x2 := lg_stage_no g (nI k) (nI p) (nI b) pu
    unfold a_stage at x2
    rw [if_pos tl, if_neg n6, if_neg (by rw [ix_nI (by omega)]; exact q)] at x2
    refine ⟨n, K, P, B, h1, by omega, ⟨f.mono (fun _ z => z) (by omega), o, g, z9⟩, fun R x => g210 R ?_⟩
    rw [b2i_f q]
    refine wb_L_made_210 ?_
    refine cl_L_made_219 rfl (by decide) (x2) ?_
    refine wb_L_made_222 ?_
    rw [if_pos rfl]
    refine wb_L_made_236 ?_
    rw [if_pos rfl, if_pos rfl]
    refine wb_L_made_292 ?_
    rw [nI_s]
    exact x
theorem lm_stages (hL : h.2.2.2.2 < 2 ^ 31) {N : Nat} (hN : N ≤ 5) : ∀ m i n K P B h1, i + m = N → n ≤ i → mS c n K P B nr U V W T C (3 * i) h h1 → ∃ n2 K2 P2 B2 h2, n2 ≤ N ∧ mS c n2 K2 P2 B2 nr U V W T C (3 * N) h h2 ∧ ∀ R, XX true 7 84 110 [.ref 64, .ref 48, ax_junk, .ref 153, .int (nI N), .int (nI N), ax_junk, ax_junk, ax_junk, ax_junk, ax_junk] [] (h2) (R) → XX true 7 84 110 [.ref 64, .ref 48, ax_junk, .ref 153, .int (nI N), .int (nI i), ax_junk, ax_junk, ax_junk, ax_junk, ax_junk] [] (h1) (R) := by
  intro m
  induction m with
  | zero =>
    intro i n K P B h1 hi hn s
    obtain rfl : i = N := hi
    exact ⟨n, K, P, B, h1, hn, s, fun R x => x⟩
  | succ m ih =>
    intro i n K P B h1 hi hn s
    obtain ⟨n2, K2, P2, B2, h2, hn2, s2, x2⟩ := lm_stage hL hN (by omega) hn s
    obtain ⟨n3, K3, P3, B3, h3, hn3, s3, x3⟩ := ih (i + 1) n2 K2 P2 B2 h2 (by omega) hn2 s2
    exact ⟨n3, K3, P3, B3, h3, hn3, s3, fun R x => x2 R (x3 R x)⟩
end S92
