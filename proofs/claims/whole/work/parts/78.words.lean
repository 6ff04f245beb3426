/-! TEXTS: words, tokens -/
def wL : List (List Nat) := [[100, 101, 97, 108], [116, 117, 114, 110], [97, 115, 107], [118, 101, 105, 108], [115, 104, 111, 119], [102, 111, 114, 103, 101, 116], [116, 111, 115, 115], [112, 101, 101, 107], [59]]
def wl (k : Nat) : Nat := (wL.getD k []).length
def wc (k i : Nat) : Nat := (wL.getD k []).getD i 0
theorem wl_6 : ∀ k, k < 9 → 1 ≤ wl k ∧ wl k ≤ 6 := by decide
theorem wc_C : ∀ k, k < 9 → ∀ i, i < wl k → toI ((ax_ccL.getD (20 + k) []).getD i .null) = nI (wc k i) := by decide +kernel
theorem wc_L : ∀ k, k < 8 → 97 ≤ wc k 0 ∧ wc k 0 ≤ 122 := by decide
theorem wc_a : ∀ k, k < 9 → ∀ i, i < wl k → wc k i < 128 := by decide
theorem wl_S : ∀ k, k < 9 → nI (wl k) >>> (nI 0 &&& 31) = nI (wl k) := by decide
theorem ch_1 : ∀ x, x < 128 → (nI x).toUInt32.toUInt16.toUInt32.toInt32 = nI x ∧ ((nI x &&& nI 255).toUInt32 % 65536).toInt32 = nI x := by decide +kernel
theorem wD : ∀ k, k < 9 → ∀ h : AH, dO h (10 + k) 13 ∧ gR h (10 + k) 0 = rf (20 + k) ∧ gI h (10 + k) 1 = nI 0 ∧ dB h (20 + k) (wl k)
  | 0, _, _ => ⟨⟨by decide, rfl, rfl⟩, rfl, rfl, ⟨by decide, rfl, rfl⟩⟩ | 1, _, _ => ⟨⟨by decide, rfl, rfl⟩, rfl, rfl, ⟨by decide, rfl, rfl⟩⟩ | 2, _, _ => ⟨⟨by decide, rfl, rfl⟩, rfl, rfl, ⟨by decide, rfl, rfl⟩⟩ | 3, _, _ => ⟨⟨by decide, rfl, rfl⟩, rfl, rfl, ⟨by decide, rfl, rfl⟩⟩ | 4, _, _ => ⟨⟨by decide, rfl, rfl⟩, rfl, rfl, ⟨by decide, rfl, rfl⟩⟩ | 5, _, _ => ⟨⟨by decide, rfl, rfl⟩, rfl, rfl, ⟨by decide, rfl, rfl⟩⟩ | 6, _, _ => ⟨⟨by decide, rfl, rfl⟩, rfl, rfl, ⟨by decide, rfl, rfl⟩⟩ | 7, _, _ => ⟨⟨by decide, rfl, rfl⟩, rfl, rfl, ⟨by decide, rfl, rfl⟩⟩ | 8, _, _ => ⟨⟨by decide, rfl, rfl⟩, rfl, rfl, ⟨by decide, rfl, rfl⟩⟩
  | n + 9, h, _ => absurd h (by omega)
theorem wB {k : Nat} (hk : k < 9) {i : Nat} (hi : i < wl k) (h : AH) : gI h (20 + k) i = nI (wc k i) := by
  rw [← wc_C k hk i hi]
  unfold gI ax_rd
  rw [if_pos (by omega)]
theorem sp_coder {k : Nat} (hk : k < 9) (h : AH) : XX true 1 117 0 [rf (10 + k)] [] (h) (some (.int (nI 0)), h) := by
  obtain ⟨d, r, i, b⟩ := wD k hk h
  refine wb_J0_coder_7d493_0 ?_
  rw [if_neg (by decide), i]
  exact ⟨d, by decide, rfl⟩
theorem sp_len {k : Nat} (hk : k < 9) (h : AH) : XX true 2 116 0 [rf (10 + k)] [] (h) (some (.int (nI (wl k))), h) := by
  obtain ⟨d, r, i, b⟩ := wD k hk h
  refine wb_J0_length_8abf5_0 ?_
  refine ⟨d, _, r, _, b, ?_⟩
  refine cl_J0_length_8abf5_6 rfl (by decide) (sp_coder hk h) ?_
  refine ⟨d, ?_⟩
  refine wb_J0_length_8abf5_9 ?_
  rw [wl_S k hk]
theorem sp_latin {k : Nat} (hk : k < 9) (h : AH) : XX true 1 119 0 [rf (10 + k)] [] (h) (some (.int (nI 1)), h) := by
  obtain ⟨d, r, i, b⟩ := wD k hk h
  refine wb_J0_isLatin1_aae02_0 ?_
  rw [if_neg (by decide), i, if_pos rfl]
  exact ⟨d, rfl⟩
theorem sp_chk3 {i m : Nat} (hi : i < m) (hm : m < 100) (h : AH) : XX true 1 122 0 [.int (nI i), .int (nI m), .ref 9] [] (h) (some (.int (nI i)), h) := by
  refine wb_J3_checkIndex_8e157_0 ?_
  rw [if_neg (nI_n0 (by omega)), if_pos (nI_lt hi (by omega))]
theorem sp_chk0 {i m : Nat} (hi : i < m) (hm : m < 100) (h : AH) : XX true 2 121 0 [.int (nI i), .int (nI m)] [] (h) (none, h) := by
  refine wb_J0_checkIndex_df160_0 ?_
  refine cl_J0_checkIndex_df160_5 rfl (by decide) (sp_chk3 hi hm h) ?_
  refine wb_J0_checkIndex_df160_8 ?_
  rfl
theorem sp_char1 {k : Nat} (hk : k < 9) {i : Nat} (hi : i < wl k) (h : AH) : XX true 3 120 0 [rf (20 + k), .int (nI i)] [] (h) (some (.int (nI (wc k i))), h) := by
  obtain ⟨d, r, z, b⟩ := wD k hk h
  have l6 := wl_6 k hk
  have a7 := ch_1 _ (wc_a k hk i hi)
  refine wb_J1_charAt_3b067_0 ?_
  refine ⟨_, b, ?_⟩
  refine cl_J1_charAt_3b067_3 rfl (by decide) (sp_chk0 hi (by omega) h) ?_
  refine wb_J1_charAt_3b067_6 ?_
  rw [ix_nI (by omega), wB hk hi h, a7.2]
  exact ⟨_, b, in_nI hi (by omega), a7.1, rfl⟩
theorem sp_char {k : Nat} (hk : k < 9) {i : Nat} (hi : i < wl k) (h : AH) : XX true 5 118 0 [rf (10 + k), .int (nI i)] [] (h) (some (.int (nI (wc k i))), h) := by
  obtain ⟨d, r, z, b⟩ := wD k hk h
  refine wb_J0_charAt_5068e_0 ?_
  refine cl_J0_charAt_5068e_1 rfl (by decide) (sp_latin hk h) ?_
  refine ⟨d, ?_⟩
  refine wb_J0_charAt_5068e_4 ?_
  rw [if_neg (by decide)]
  refine ⟨d, _, r, ?_⟩
  refine cl_J0_charAt_5068e_12 rfl (by decide) (sp_char1 hk hi h) ?_
  refine wb_J0_charAt_5068e_15 ?_
  exact ⟨(ch_1 _ (wc_a k hk i hi)).1, rfl⟩
/-- what sort a byte is: 0 none, 1 letter, 2 digit, 3 the sign, 4 strange -/
def v_cl (tb : Nat → Int32) (tn i : Nat) : Nat := if i < tn then (if nI 97 ≤ tb i ∧ tb i ≤ nI 122 then 1 else if nI 48 ≤ tb i ∧ tb i ≤ nI 57 then 2 else if tb i = nI 59 then 3 else 4) else 0
theorem v_cl_lt {tb : Nat → Int32} {tn i : Nat} (h : v_cl tb tn i ≠ 0) : i < tn := by
  unfold v_cl at h
  apply Classical.byContradiction
  intro q
  exact h (if_neg q)
theorem v_cl_0 {tb : Nat → Int32} {tn i : Nat} (h : v_cl tb tn i = 0) : ¬ i < tn := by
  unfold v_cl at h
  intro q
  rw [if_pos q] at h
  split at h
  · exact absurd h (by decide)
  · split at h
    · exact absurd h (by decide)
    · split at h <;> exact absurd h (by decide)
theorem v_cl_4 (tb : Nat → Int32) (tn i : Nat) : v_cl tb tn i ≤ 4 := by
  unfold v_cl
  split
  · split
    · decide
    · split
      · decide
      · split <;> decide
  · decide
def v_sk (tb : Nat → Int32) (tn : Nat) : Nat → Nat → Nat
  | 0, i => i
  | f + 1, i => if i < tn ∧ tb i = nI 32 then v_sk tb tn f (i + 1) else i
theorem v_sk_le (tb : Nat → Int32) (tn : Nat) : ∀ f i, i + f = tn → i ≤ v_sk tb tn f i ∧ v_sk tb tn f i ≤ tn
  | 0, i, h => ⟨Nat.le_refl _, by show i ≤ tn; omega⟩
  | f + 1, i, h => by
    have := v_sk_le tb tn f (i + 1) (by omega)
    unfold v_sk
    split <;> omega
/-- where a token begins, from a place on -/
def v_f (tb : Nat → Int32) (tn a : Nat) : Nat := v_sk tb tn (tn - a) a
theorem v_f_le {tb : Nat → Int32} {tn a : Nat} (h : a ≤ tn) : a ≤ v_f tb tn a ∧ v_f tb tn a ≤ tn := v_sk_le tb tn _ a (by omega)
def v_rn (tb : Nat → Int32) (tn s : Nat) : Nat → Nat → Nat
  | 0, i => i
  | f + 1, i => if v_cl tb tn i = s then v_rn tb tn s f (i + 1) else i
theorem v_rn_le (tb : Nat → Int32) (tn s : Nat) : ∀ f i, i + f = tn → i ≤ v_rn tb tn s f i ∧ v_rn tb tn s f i ≤ tn
  | 0, i, h => ⟨Nat.le_refl _, by show i ≤ tn; omega⟩
  | f + 1, i, h => by
    have := v_rn_le tb tn s f (i + 1) (by omega)
    unfold v_rn
    split <;> omega
theorem v_rn_all (tb : Nat → Int32) (tn s : Nat) : ∀ f i, ∀ j, i ≤ j → j < v_rn tb tn s f i → v_cl tb tn j = s
  | 0, i, j, h1, h2 => by
    have : v_rn tb tn s 0 i = i := rfl
    omega
  | f + 1, i, j, h1, h2 => by
    have e : v_rn tb tn s (f + 1) i = if v_cl tb tn i = s then v_rn tb tn s f (i + 1) else i := rfl
    rw [e] at h2
    by_cases q : v_cl tb tn i = s
    · rw [if_pos q] at h2
      by_cases z : j = i
      · rw [z]; exact q
      · exact v_rn_all tb tn s f (i + 1) j (by omega) h2
    · rw [if_neg q] at h2
      omega
/-- where the token that begins there ends -/
def v_e (tb : Nat → Int32) (tn f : Nat) : Nat := if v_cl tb tn f = 0 then f else if v_cl tb tn f ≤ 2 then v_rn tb tn (v_cl tb tn f) (tn - f) f else f + 1
theorem v_e_le {tb : Nat → Int32} {tn f : Nat} (h : f ≤ tn) : f ≤ v_e tb tn f ∧ v_e tb tn f ≤ tn := by
  unfold v_e
  by_cases q : v_cl tb tn f = 0
  · rw [if_pos q]; exact ⟨Nat.le_refl _, h⟩
  · rw [if_neg q]
    have := v_cl_lt q
    split
    · exact v_rn_le tb tn _ _ f (by omega)
    · omega
theorem v_e_gt {tb : Nat → Int32} {tn f : Nat} (q : v_cl tb tn f ≠ 0) : f < v_e tb tn f := by
  have l := v_cl_lt q
  unfold v_e
  rw [if_neg q]
  split
  · obtain ⟨k, e⟩ : ∃ k, tn - f = k + 1 := ⟨tn - f - 1, by omega⟩
    rw [e]
    show f < (if v_cl tb tn f = v_cl tb tn f then v_rn tb tn (v_cl tb tn f) k (f + 1) else f)
    rw [if_pos rfl]
    have := v_rn_le tb tn (v_cl tb tn f) k (f + 1) (by omega)
    omega
  · omega
/-- a number's value, as far as it matters -/
def v_nm (tb : Nat → Int32) (f : Nat) : Nat → Nat
  | 0 => 0
  | j + 1 => if v_nm tb f j ≤ 9 then 10 * v_nm tb f j + ((tb (f + j)).toInt.toNat - 48) else v_nm tb f j
theorem dig {x : Int32} (h1 : nI 48 ≤ x) (h2 : x ≤ nI 57) : ∃ d, d ≤ 9 ∧ x = nI (48 + d) ∧ x.toInt.toNat - 48 = d := by
  obtain ⟨k, hk, rfl⟩ := nI_of3 (x := x) (n := 57) (by decide) (Int32.le_trans (by decide) h1) h2
  have := (nI_leI (a := 48) (b := k) (by omega) (by omega)).mp h1
  refine ⟨k - 48, by omega, by rw [Nat.add_sub_cancel' this], ?_⟩
  have e : (nI k).toInt.toNat = k := ix_nI (n := k) (by omega)
  rw [e]
theorem v_cl_2 {tb : Nat → Int32} {tn i : Nat} (h : v_cl tb tn i = 2) : nI 48 ≤ tb i ∧ tb i ≤ nI 57 := by
  unfold v_cl at h
  split at h
  · split at h
    · exact absurd h (by decide)
    · split at h
      · assumption
      · split at h <;> exact absurd h (by decide)
  · exact absurd h (by decide)
theorem v_nm_99 {tb : Nat → Int32} {tn f : Nat} : ∀ j, (∀ i, i < j → v_cl tb tn (f + i) = 2) → v_nm tb f j ≤ 99
  | 0, _ => Nat.zero_le _
  | j + 1, h => by
    have ih := v_nm_99 (tb := tb) (tn := tn) (f := f) j (fun i hi => h i (by omega))
    obtain ⟨d, hd, e1, e2⟩ := dig (v_cl_2 (h j (Nat.lt_succ_self _))).1 (v_cl_2 (h j (Nat.lt_succ_self _))).2
    show (if v_nm tb f j ≤ 9 then 10 * v_nm tb f j + ((tb (f + j)).toInt.toNat - 48) else v_nm tb f j) ≤ 99
    rw [e2]
    split <;> omega
theorem v_e_dig {tb : Nat → Int32} {tn f : Nat} (h : v_cl tb tn f = 2) : ∀ i, i < v_e tb tn f - f → v_cl tb tn (f + i) = 2 := by
  intro i hi
  unfold v_e at hi
  rw [if_neg (by omega), if_pos (by omega), h] at hi
  exact v_rn_all tb tn 2 (tn - f) f (f + i) (by omega) (by omega)
/-- the token is the k-th word -/
abbrev isTk (tb : Nat → Int32) (f e k : Nat) : Prop := e = f + wl k ∧ ∀ i, i < wl k → tb (f + i) = nI (wc k i)
theorem isTk_cl {tb : Nat → Int32} {tn f k : Nat} (hk : k < 8) (hf : f ≤ tn) (h : isTk tb f (v_e tb tn f) k) : v_cl tb tn f = 1 := by
  have l := wl_6 k (by omega)
  have e := v_e_le (tb := tb) hf
  have b := h.2 0 (by omega)
  rw [Nat.add_zero] at b
  have c := wc_L k hk
  unfold v_cl
  rw [if_pos (by have := h.1; omega), if_pos]
  rw [b]
  exact ⟨nI_le (by omega) (by omega), nI_le (by omega) (by omega)⟩
/-- which word a token is: 8 none -/
def v_wd (tb : Nat → Int32) (f e : Nat) : Nat := v_at (fun k => decide (isTk tb f e k)) 8 0
theorem v_wd_8 {tb : Nat → Int32} {tn f : Nat} (hf : f ≤ tn) (h : v_cl tb tn f ≠ 1) : v_wd tb f (v_e tb tn f) = 8 := by
  unfold v_wd
  rw [v_at_none 8 0 (fun w hw => decide_eq_false fun z => h (isTk_cl (by omega) hf z))]
/-- a number that may follow: whether all is well, where then, its value -/
def v_arg (tb : Nat → Int32) (tn : Nat) (need : Prop) [Decidable need] (lo hi a : Nat) : Nat × Nat × Nat := if need then (if v_cl tb tn (v_f tb tn a) = 2 ∧ lo ≤ v_nm tb (v_f tb tn a) (v_e tb tn (v_f tb tn a) - v_f tb tn a) ∧ v_nm tb (v_f tb tn a) (v_e tb tn (v_f tb tn a) - v_f tb tn a) ≤ hi then (1, v_e tb tn (v_f tb tn a), v_nm tb (v_f tb tn a) (v_e tb tn (v_f tb tn a) - v_f tb tn a)) else (0, v_f tb tn a, 0)) else (1, a, 0)
/-- a statement: whether all is well, where then, its stage -/
def v_stm (tb : Nat → Int32) (tn c n : Nat) (K : Nat → Nat) (f : Nat) : Nat × Nat × Nat × Nat × Nat :=
  let k := v_wd tb f (v_e tb tn f)
  if k < 8 ∧ n < 6 ∧ (isCd k → v_out K n < c) then
    let x := v_arg tb tn (¬ (k = 1 ∨ k = 6)) 0 2 (v_e tb tn f)
    if x.1 = 1 then
      let y := v_arg tb tn (hasN k) 2 3 x.2.1
      if y.1 = 1 then (1, y.2.1, k, x.2.2, y.2.2) else (0, y.2.1, 0, 0, 0)
    else (0, x.2.1, 0, 0, 0)
  else (0, f, 0, 0, 0)
/-- a text: whether all is well, the fault's place or how many statements, the stages then -/
def v_txt (tb : Nat → Int32) (tn c : Nat) : Nat → Nat → Nat → (Nat → Nat) → (Nat → Nat) → (Nat → Nat) → Nat × Nat × (Nat → Nat) × (Nat → Nat) × (Nat → Nat)
  | 0, a, n, K, P, B => (0, a, K, P, B)
  | m + 1, a, n, K, P, B =>
    let s := v_stm tb tn c n K (v_f tb tn a)
    if s.1 = 1 then
      let f := v_f tb tn s.2.1
      let K' := updN K n s.2.2.1
      let P' := updN P n s.2.2.2.1
      let B' := updN B n s.2.2.2.2
      if v_cl tb tn f = 3 then v_txt tb tn c m (v_e tb tn f) (n + 1) K' P' B'
      else if f = tn then (1, n + 1, K', P', B') else (0, f, K', P', B')
    else (0, s.2.1, K, P, B)
