/-! WAYS: how many, what happened, who sees, views -/
def okO (h : AH) (j : Nat) (e : Nat → Nat) : Prop := ∀ i, i < j → hI h 160 i = nI (e i)
theorem v_pre_self (c : Nat) (K B : Nat → Nat) : ∀ j w, v_pre c K B j w j = w
  | 0, _ => rfl
  | j + 1, w => if_pos rfl
theorem v_pre_step (c : Nat) (K B : Nat → Nat) : ∀ j w i, i < j → v_pre c K B j w i = v_pre c K B j w (i + 1) / v_opt c K B i
  | 0, _, _, h => absurd h (Nat.not_lt_zero _)
  | j + 1, w, i, h => by
    show (if i = j + 1 then w else v_pre c K B j (w / v_opt c K B j) i) = (if i + 1 = j + 1 then w else v_pre c K B j (w / v_opt c K B j) (i + 1)) / _
    rw [if_neg (by omega)]
    by_cases q : i = j
    · subst q
      rw [if_pos rfl, v_pre_self]
    · rw [if_neg (by omega)]
      exact v_pre_step c K B j _ i (by omega)
theorem v_what_pre (c : Nat) (K B : Nat → Nat) : ∀ j w i, i < j → v_what c K B j w i = v_evt c K B i (v_pre c K B j w (i + 1))
  | 0, _, _, h => absurd h (Nat.not_lt_zero _)
  | j + 1, w, i, h => by
    show (if i = j then v_evt c K B j w else v_what c K B j (w / v_opt c K B j) i) = v_evt c K B i (if i + 1 = j + 1 then w else v_pre c K B j (w / v_opt c K B j) (i + 1))
    by_cases q : i = j
    · subst q
      rw [if_pos rfl, if_pos rfl]
    · rw [if_neg q, if_neg (by omega)]
      exact v_what_pre c K B j _ i (by omega)
/-- behind some stages: the same with fewer -/
theorem v_pre_pre (c : Nat) (K B : Nat → Nat) (j w : Nat) : ∀ k i, i + k ≤ j → v_pre c K B (i + k) (v_pre c K B j w (i + k)) i = v_pre c K B j w i
  | 0, i, _ => v_pre_self c K B i _
  | k + 1, i, h => by
    show (if i = i + k + 1 then _ else v_pre c K B (i + k) (v_pre c K B j w (i + k + 1) / v_opt c K B (i + k)) i) = _
    rw [if_neg (by omega), ← v_pre_step c K B j w (i + k) (by omega)]
    exact v_pre_pre c K B j w k i (by omega)
theorem v_pre_lt {c n : Nat} {K P B : Nat → Nat} (ok : okS c n K P B) {j w : Nat} (hj : j ≤ n) (hw : w < v_ways c K B j) : ∀ k i, i + k = j → v_pre c K B j w i < v_ways c K B i
  | 0, i, h => by
    obtain rfl : i = j := by omega
    rw [v_pre_self]
    exact hw
  | k + 1, i, h => by
    have ih := v_pre_lt ok hj hw k (i + 1) (by omega)
    rw [v_pre_step c K B j w i (by omega)]
    exact Nat.div_lt_of_lt_mul (by rw [Nat.mul_comm]; exact ih)
/-- cards that are gone, as bits -/
def v_pc (g : Nat) : Nat := g % 2 + g / 2 % 2 + g / 4 % 2 + g / 8 % 2 + g / 16 % 2
def v_selok (g : Nat) : Nat → Nat → Nat → Bool
  | 0, _, _ => false
  | f + 1, c, d => if g.testBit c = true then v_selok g f (c + 1) d else if d = 0 then true else v_selok g f (c + 1) (d - 1)
theorem v_selok_all : ∀ g, g < 32 → ∀ d, d < 5 → v_selok g 10 0 d = true := by decide +kernel
theorem v_sel_all : ∀ c, c < 6 → ∀ g, g < 2 ^ c → ∀ d, d < c - v_pc g → v_sel g 10 0 d < c ∧ g ||| 1 <<< (v_sel g 10 0 d) < 2 ^ c ∧ v_pc (g ||| 1 <<< (v_sel g 10 0 d)) = v_pc g + 1 := by decide +kernel
theorem v_gone_ok {c n : Nat} {K P B : Nat → Nat} (ok : okS c n K P B) : ∀ i w, i ≤ n → v_gone c K B i w < 2 ^ c ∧ v_pc (v_gone c K B i w) = v_out K i
  | 0, w, _ => ⟨Nat.two_pow_pos _, by show v_pc 0 = 0; decide⟩
  | i + 1, w, h => by
    have ih := v_gone_ok ok i (w / v_opt c K B i) (by omega)
    have hc := (ok.2.2.2 i (by omega)).2.2.2.2
    show (if isCd (K i) then _ else _) < _ ∧ v_pc (if isCd (K i) then _ else _) = v_out K i + (if isCd (K i) then 1 else 0)
    by_cases q : isCd (K i)
    · rw [if_pos q, if_pos q]
      have e : v_opt c K B i = c - v_out K i := if_pos q
      have hm : w % v_opt c K B i < c - v_pc (v_gone c K B i (w / v_opt c K B i)) := by
        rw [ih.2, e]
        exact Nat.mod_lt _ (by have := hc q; omega)
      have := v_sel_all c (by have := ok.2.1; omega) _ ih.1 _ hm
      exact ⟨this.2.1, by rw [this.2.2, ih.2]⟩
    · rw [if_neg q, if_neg q]
      exact ih
theorem v_evt_card {c n : Nat} {K P B : Nat → Nat} (ok : okS c n K P B) {i : Nat} (hi : i < n) (q : isCd (K i)) (w : Nat) : v_evt c K B i w < c ∧ v_selok (v_gone c K B i (w / v_opt c K B i)) 10 0 (w % v_opt c K B i) = true := by
  have ih := v_gone_ok ok i (w / v_opt c K B i) (by omega)
  have hc := (ok.2.2.2 i (by omega)).2.2.2.2 q
  have h5 := ok.2.1
  have e : v_opt c K B i = c - v_out K i := if_pos q
  have hm : w % v_opt c K B i < c - v_out K i := by
    rw [e]
    exact Nat.mod_lt _ (by omega)
  have hm' : w % v_opt c K B i < c - v_pc (v_gone c K B i (w / v_opt c K B i)) := by
    rw [ih.2]
    exact hm
  have hp : 2 ^ c ≤ 32 := Nat.le_trans (Nat.pow_le_pow_right (by decide) h5) (by decide)
  unfold v_evt
  rw [if_pos q]
  exact ⟨(v_sel_all c (by omega) _ ih.1 _ hm').1, v_selok_all _ (Nat.lt_of_lt_of_le ih.1 hp) _ (by omega)⟩
theorem v_evt_lt {c n : Nat} {K P B : Nat → Nat} (ok : okS c n K P B) {i : Nat} (hi : i < n) (w : Nat) : v_evt c K B i w < 5 := by
  by_cases q : isCd (K i)
  · exact Nat.lt_of_lt_of_le (v_evt_card ok hi q w).1 ok.2.1
  · unfold v_evt
    rw [if_neg q]
    have h1 := v_opt_pos ok hi
    have h2 := Nat.mod_lt w h1.1
    omega
theorem v_what_lt {c n : Nat} {K P B : Nat → Nat} (ok : okS c n K P B) {j : Nat} (hj : j ≤ n) (w : Nat) {i : Nat} (hi : i < j) : v_what c K B j w i < 5 := by
  rw [v_what_pre c K B j w i hi]
  exact v_evt_lt ok (by omega) _
theorem v_bit : ∀ g, g < 32 → ∀ c, c < 10 → ((nI g >>> (nI c &&& 31)) &&& nI 1) = if g.testBit c = true then nI 1 else nI 0 := by decide +kernel
theorem v_orb : ∀ g, g < 32 → ∀ c, c < 5 → (nI g ||| (nI 1 <<< (nI c &&& 31))) = nI (g ||| 1 <<< c) := by decide +kernel
section S23
variable {c n : Nat} {K P B : Nat → Nat} {h h' : AH}
theorem sp_options (s : mS c n K P B h) {i : Nat} (hi : i < n) : XX true 3 174 0 [.ref 153, .int (nI i)] [] (h) (some (.int (nI (v_opt c K B i))), h) := by
  have h6 := s.n6
  have hk := s.ok hi
  have hc := s.c5
  refine wb_X12_options_0 ?_
  rw [s.KK (by rw [ix_nI (by omega)]; exact hi), ix_nI (by omega)]
  refine ⟨in_nI (by omega) (by decide), ?_⟩
  refine (cl_X12_options_6 rfl (by decide) (sp_isCardOut hk.1 h)).mpr ?_
  refine wb_X12_options_9 ?_
  unfold v_opt
  by_cases q : isCd (K i)
  · rw [b2i_t q, if_neg (by decide), if_pos q, s.cc]
    refine (cl_X12_options_18 rfl (by decide) (sp_outAhead s (Nat.le_of_lt hi))).mpr ?_
    refine wb_X12_options_21 ?_
    rw [nI_subI (Nat.le_of_lt (hk.2.2.2.2 q))]
  · rw [b2i_f q, if_pos rfl, if_neg q, ix_nI (by omega), s.KK hi]
    refine ⟨in_nI (by omega) (by decide), ?_⟩
    refine (cl_X12_options_31 rfl (by decide) (sp_hasNumber hk.1 h)).mpr ?_
    refine wb_X12_options_34 ?_
    by_cases r : hasN (K i)
    · rw [b2i_t r, if_neg (by decide), if_pos r, ix_nI (by omega), s.BB hi]
      exact ⟨in_nI (by omega) (by decide), rfl⟩
    · rw [b2i_f r, if_pos rfl, if_neg r]
theorem sp_waysBehind (s : mS c n K P B h) {j : Nat} (hj : j ≤ n) : XX true 4 173 0 [.ref 153, .int (nI j), ax_junk, ax_junk] [] (h) (some (.int (nI (v_ways c K B j))), h) := by
  have h6 := s.n6
  have lp : ∀ k i, i + k = j → XX true 4 173 4 [.ref 153, .int (nI j), .int (nI (v_ways c K B i)), .int (nI i)] [] (h) ((some (.int (nI (v_ways c K B j))), h)) := by
    intro k
    induction k with
    | zero =>
      intro i hi
      obtain rfl : i = j := hi
      refine wb_X12_waysBehind_4 ?_
      rw [if_neg (nI_nlt (Nat.le_refl _) (by omega))]
    | succ k ih =>
      intro i hi
      refine wb_X12_waysBehind_4 ?_
      rw [if_pos (nI_lt (by omega) (by omega))]
      refine (cl_X12_waysBehind_12 rfl (by decide) (sp_options s (by omega))).mpr ?_
      refine wb_X12_waysBehind_15 ?_
      rw [nI_mulI, nI_s]
      exact ih (i + 1) (by omega)
  refine wb_X12_waysBehind_0 ?_
  exact lp j 0 (by omega)
theorem sp_isWay (s : mS c n K P B h) (w : Int32) : XX true 5 176 0 [.ref 153, .int (w)] [] (h) (some (.int (b2i (nI 0 ≤ w ∧ w < nI (v_ways c K B n)))), h) := by
  have h1 := v_ways_le s.1 (Nat.le_refl _)
  have h2 := v_ways_pos s.1 n (Nat.le_refl _)
  refine wb_X12_isWay_0 ?_
  rw [s.nn]
  refine (cl_X12_isWay_8 rfl (by decide) (sp_waysBehind s (Nat.le_refl _))).mpr ?_
  refine wb_X12_isWay_11 ?_
  refine (cl_X12_isWay_14 rfl (by decide) (sp_in _ _ _ _)).mpr ?_
  refine wb_X12_isWay_17 ?_
  refine ⟨b2i_01 _, ?_⟩
  rw [show nI 1 = nI (0 + 1) by rfl, nI_subI h2, lN_nI (by decide : 0 < 2 ^ 31)]
  rw [b2i_cong (and_congr (toI64_le _ _) (toI64_le _ _))]
  have e : w ≤ nI (v_ways c K B n - (0 + 1)) ↔ w < nI (v_ways c K B n) := by
    rw [Int32.le_iff_toInt_le, Int32.lt_iff_toInt_lt, nI_toInt (by omega), nI_toInt (by omega)]
    omega
  rw [b2i_cong (and_congr Iff.rfl e)]
/-- the way digit by digit, from the last on -/
theorem sp_lays1 (s : mS c n K P B h) {j : Nat} (hj : j ≤ n) {w : Nat} (hw : w < v_ways c K B j) : ∀ k, k ≤ j → ∀ h1, fr [(160, none)] h h1 → (∀ i, k ≤ i → i < j → hI h1 160 i = nI (v_pre c K B j w (i + 1) % v_opt c K B i)) → ∃ h2, fr [(160, none)] h h2 ∧ (∀ i, i < j → hI h2 160 i = nI (v_pre c K B j w (i + 1) % v_opt c K B i)) ∧ ∀ R, XX true 4 177 48 [.ref 153, ax_junk, .int (nI j), ax_junk, .int (nI 0), .int (nI 0), ax_junk, ax_junk] [] (h2) (R) → XX true 4 177 7 [.ref 153, ax_junk, .int (nI j), .int (nI (v_pre c K B j w k)), .int (nI k - nI 1), ax_junk, ax_junk, ax_junk] [] (h1) (R) := by
  have h6 := s.n6
  intro k
  induction k with
  | zero =>
    intro _ h1 f o
    refine ⟨h1, f, fun i hi => o i (Nat.zero_le _) hi, fun R z => ?_⟩
    refine wb_X12_lays_7 ?_
    rw [if_pos (by decide)]
    exact wk_X12_lays_48 z
  | succ k ih =>
    intro hk h1 f o
    have s1 : mS c n K P B h1 := s.fr f rfl
    have lt := v_pre_lt s.1 hj hw (j - (k + 1)) (k + 1) (by omega)
    have le := v_ways_le s.1 (j := k + 1) (by omega)
    have op := v_opt_pos s.1 (i := k) (by omega)
    have f2 : fr [(160, none)] h (ax_wr h1 160 k (.int (nI (v_pre c K B j w (k + 1) % v_opt c K B k)))) := f.wr' (by simp [inS])
    obtain ⟨h2, p, q, g⟩ := ih (by omega) _ f2 (fun i hi hij => by
      by_cases q : i = k
      · subst q
        exact wr_I _ _ _ _
      · rw [wr_Ij q]
        exact o i (by omega) hij)
    refine ⟨h2, p, q, fun R z => ?_⟩
    rw [nI_subI (by omega), Nat.add_sub_cancel]
    refine wb_X12_lays_7 ?_
    rw [if_neg (nI_n0 (by omega))]
    refine (cl_X12_lays_22 rfl (by decide) (sp_options s1 (by omega))).mpr ?_
    refine wb_X12_lays_25 ?_
    refine ⟨by simp; exact nI_ne0 op.1 (by omega), in_nI (by omega) (by decide), ?_⟩
    rw [ix_nI (by omega), nI_divI (by omega) (by omega), nI_mulI, nI_remI]
    refine (cl_X12_lays_31 rfl (by decide) (sp_options (s.fr f2 rfl) (by omega))).mpr ?_
    refine wb_X12_lays_34 ?_
    refine ⟨by simp; exact nI_ne0 op.1 (by omega), ?_⟩
    rw [nI_divI (by omega) (by omega), ← v_pre_step c K B j w k (by omega), nI_dec]
    exact g R z
/-- the place of the card -/
theorem sp_laysSel {j i g x d : Nat} (hi : i < 6) (hg : g < 32) {R : Option Value × AH} : ∀ f c0 d, c0 + f ≤ 10 → d < 5 → v_selok g f c0 d = true → v_sel g f c0 d < 5 → XX true 4 177 139 [.ref 153, ax_junk, .int (nI j), ax_junk, .int (nI (g ||| 1 <<< (v_sel g f c0 d))), .int (nI i), ax_junk, ax_junk] [] (ax_wr h 160 i (.int (nI (v_sel g f c0 d)))) (R) → XX true 4 177 79 [.ref 153, ax_junk, .int (nI j), ax_junk, .int (nI g), .int (nI i), .int (nI c0), .int (nI d)] [] (h) (R) := by
  intro f
  induction f with
  | zero => intro c0 d _ _ q; cases q
  | succ f ih =>
    intro c0 d hc hd q l5 z
    unfold v_selok at q
    unfold v_sel at z l5
    have vb := v_bit g hg c0 (by omega)
    by_cases t : g.testBit c0 = true
    · rw [if_pos t] at q z l5 vb
      have nxt : XX true 4 177 95 [.ref 153, ax_junk, .int (nI j), ax_junk, .int (nI g), .int (nI i), .int (nI c0), .int (nI d)] [] (h) (R) := by
        refine wb_X12_lays_95 ?_
        rw [vb, if_neg (by decide)]
        refine wb_X12_lays_112 ?_
        rw [nI_s, nI_subI (Nat.zero_le _)]
        exact ih (c0 + 1) d (by omega) hd q l5 z
      refine wb_X12_lays_79 ?_
      rw [vb]
      by_cases dd : nI d ≤ nI 0
      · rw [if_pos dd, if_pos rfl]
        exact nxt
      · rw [if_neg dd]
        exact nxt
    · rw [if_neg t] at q z l5 vb
      by_cases d0 : d = 0
      · subst d0
        rw [if_pos rfl] at z l5
        refine wb_X12_lays_79 ?_
        rw [if_pos (by decide), vb, if_neg (by decide)]
        refine ⟨in_nI hi (by decide), ?_⟩
        rw [ix_nI (by omega), v_orb g hg c0 l5]
        refine wk_X12_lays_139 ?_
        exact z
      · rw [if_neg d0] at q z l5
        refine wb_X12_lays_79 ?_
        rw [if_neg (nI_p (by omega) (by omega))]
        refine wb_X12_lays_95 ?_
        rw [vb, if_pos rfl]
        refine wb_X12_lays_112 ?_
        rw [nI_s, nI_subI (by omega)]
        exact ih (c0 + 1) (d - 1) (by omega) (by omega) q l5 z
theorem sp_lays (s : mS c n K P B h) {j : Nat} (hj : j ≤ n) {w : Nat} (hw : w < v_ways c K B j) : ∃ h', XX true 4 177 0 [.ref 153, .int (nI w), .int (nI j), ax_junk, ax_junk, ax_junk, ax_junk, ax_junk] [] (h) (none, h') ∧ fr [(160, none)] h h' ∧ okO h' j (v_what c K B j w) := by
  have h6 := s.n6
  have lp : ∀ k i, i + k = j → ∀ h1, fr [(160, none)] h h1 → (∀ a, i ≤ a → a < j → hI h1 160 a = nI (v_pre c K B j w (a + 1) % v_opt c K B a)) → (∀ a, a < i → hI h1 160 a = nI (v_what c K B j w a)) → ∃ h', XX true 4 177 48 [.ref 153, ax_junk, .int (nI j), ax_junk, .int (nI (v_gone c K B i (v_pre c K B j w i))), .int (nI i), ax_junk, ax_junk] [] (h1) ((none, h')) ∧ fr [(160, none)] h h' ∧ okO h' j (v_what c K B j w) := by
    intro k
    induction k with
    | zero =>
      intro i hi h1 f o o2
      obtain rfl : i = j := hi
      refine ⟨h1, ?_, f, o2⟩
      refine wb_X12_lays_48 ?_
      rw [if_neg (nI_nlt (Nat.le_refl _) (by omega))]
    | succ k ih =>
      intro i hi h1 f o o2
      have s1 : mS c n K P B h1 := s.fr f rfl
      have gk := v_gone_ok s.1 i (v_pre c K B j w i) (by omega)
      have hp : 2 ^ c ≤ 32 := Nat.le_trans (Nat.pow_le_pow_right (by decide) s.c5.2) (by decide)
      have st := v_pre_step c K B j w i (by omega)
      have hk8 := (s.ok (i := i) (by omega)).1
      by_cases q : isCd (K i)
      · have ev := v_evt_card s.1 (i := i) (by omega) q (v_pre c K B j w (i + 1))
        have ee : v_evt c K B i (v_pre c K B j w (i + 1)) = v_sel (v_gone c K B i (v_pre c K B j w i)) 10 0 (v_pre c K B j w (i + 1) % v_opt c K B i) := by
          unfold v_evt
          rw [if_pos q, ← st]
        rw [← st] at ev
        have eg : v_gone c K B (i + 1) (v_pre c K B j w (i + 1)) = v_gone c K B i (v_pre c K B j w i) ||| 1 <<< (v_sel (v_gone c K B i (v_pre c K B j w i)) 10 0 (v_pre c K B j w (i + 1) % v_opt c K B i)) := by
          show (if isCd (K i) then _ else _) = _
          rw [if_pos q, ← st]
        have f2 : fr [(160, none)] h (ax_wr h1 160 i (.int (nI (v_evt c K B i (v_pre c K B j w (i + 1)))))) := f.wr' (by simp [inS])
        obtain ⟨h', r, fz, oz⟩ := ih (i + 1) (by omega) _ f2 (fun a ha haj => by rw [wr_Ij (by omega)]; exact o a (by omega) haj) (fun a ha => by
          by_cases e : a = i
          · subst e
            rw [wr_I, v_what_pre c K B j w a (by omega)]
          · rw [wr_Ij e]
            exact o2 a (by omega))
        refine ⟨h', ?_, fz, oz⟩
        refine wb_X12_lays_48 ?_
        rw [if_pos (nI_lt (by omega) (by omega))]
        refine ⟨in_nI (by omega) (by decide), ?_⟩
        rw [ix_nI (by omega), s1.KK (by omega)]
        refine (cl_X12_lays_61 rfl (by decide) (sp_isCardOut hk8 h1)).mpr ?_
        refine wb_X12_lays_64 ?_
        rw [b2i_t q, if_neg (by decide)]
        refine ⟨in_nI (by omega) (by decide), ?_⟩
        rw [ix_nI (by omega), o i (Nat.le_refl _) (by omega)]
        have op := v_opt_pos s.1 (i := i) (by omega)
        have md := Nat.mod_lt (v_pre c K B j w (i + 1)) op.1
        refine sp_laysSel (x := 0) (d := 0) (by omega) (Nat.lt_of_lt_of_le gk.1 hp) 10 0 _ (by omega) (by omega) ev.2 (by have := ev.1; rw [ee] at this; have := s.c5; omega) ?_
        refine wb_X12_lays_139 ?_
        rw [nI_s, ← eg, ← ee]
        exact r
      · have ee : v_evt c K B i (v_pre c K B j w (i + 1)) = v_pre c K B j w (i + 1) % v_opt c K B i := if_neg q
        have eg : v_gone c K B (i + 1) (v_pre c K B j w (i + 1)) = v_gone c K B i (v_pre c K B j w i) := by
          show (if isCd (K i) then _ else _) = _
          rw [if_neg q, ← st]
        obtain ⟨h', r, fz, oz⟩ := ih (i + 1) (by omega) h1 f (fun a ha haj => o a (by omega) haj) (fun a ha => by
          by_cases e : a = i
          · subst e
            rw [o a (Nat.le_refl _) (by omega), v_what_pre c K B j w a (by omega), ee]
          · exact o2 a (by omega))
        refine ⟨h', ?_, fz, oz⟩
        refine wb_X12_lays_48 ?_
        rw [if_pos (nI_lt (by omega) (by omega))]
        refine ⟨in_nI (by omega) (by decide), ?_⟩
        rw [ix_nI (by omega), s1.KK (by omega)]
        refine (cl_X12_lays_61 rfl (by decide) (sp_isCardOut hk8 h1)).mpr ?_
        refine wb_X12_lays_64 ?_
        rw [b2i_f q, if_pos rfl]
        refine wk_X12_lays_139 ?_
        refine wb_X12_lays_139 ?_
        rw [nI_s, ← eg]
        exact r
  obtain ⟨h2, p, q, g⟩ := sp_lays1 s hj hw j (Nat.le_refl _) h fr.rfl' (fun i hi hij => absurd hi (by omega))
  obtain ⟨h', r, f, o⟩ := lp j 0 (by omega) h2 p (fun a _ ha => q a ha) (fun a ha => absurd ha (Nat.not_lt_zero _))
  refine ⟨h', ?_, f, o⟩
  refine wb_X12_lays_0 ?_
  rw [v_pre_self] at g
  exact wk_X12_lays_7 (g _ r)
theorem v_see1 : ∀ p, p < 3 → (nI 1 <<< (nI p &&& 31)) = nI (1 <<< p) := by decide
theorem v_see2 : ∀ g, g < 8 → ∀ p, p < 3 → ((nI g &&& nI (1 <<< p)) = nI 0 ↔ ¬ g.testBit p = true) := by decide +kernel
theorem v_see3 : ∀ g, g < 8 → ∀ p, p < 3 → (nI g &&& (nI (1 <<< p) ^^^ -nI 1)) = nI (if g.testBit p = true then g - 1 <<< p else g) := by decide +kernel
theorem v_see4 : ∀ g, g < 8 → ∀ p, p < 3 → (if g.testBit p = true then g - 1 <<< p else g) < 8 := by decide +kernel
theorem v_see5 : ∀ p, p < 3 → 1 <<< p < 8 := by decide
theorem v_seen_lt {K P : Nat → Nat} {i : Nat} : ∀ j, (∀ i, i < j → P i < 3) → v_seen K P i j < 8
  | 0, _ => by show 0 < 8; decide
  | j + 1, h => by
    have ih := v_seen_lt (K := K) (i := i) j (fun a ha => h a (by omega))
    show (if i = j then (if isSec (K i) then 1 <<< P i else 7) else if K j = 4 ∧ (v_seen K P i j).testBit (P j) = true then 7 else if K j = 5 then (if (v_seen K P i j).testBit (P j) = true then v_seen K P i j - 1 <<< P j else v_seen K P i j) else v_seen K P i j) < 8
    split
    · rename_i q
      split
      · exact v_see5 _ (h i (by omega))
      · decide
    · split
      · decide
      · split
        · exact v_see4 _ ih _ (h j (by omega))
        · exact ih
theorem v_seen_step {K P : Nat → Nat} {i j : Nat} (h : i < j) : v_seen K P i (j + 1) = if K j = 4 ∧ (v_seen K P i j).testBit (P j) = true then 7 else if K j = 5 then (if (v_seen K P i j).testBit (P j) = true then v_seen K P i j - 1 <<< P j else v_seen K P i j) else v_seen K P i j := by
  show (if i = j then _ else _) = _
  rw [if_neg (by omega)]
theorem sp_seenBy (s : mS c n K P B h) {i j : Nat} (hi : i < j) (hj : j ≤ n) : XX true 1 168 0 [.ref 153, .int (nI i), .int (nI j), ax_junk, ax_junk, ax_junk, ax_junk] [] (h) (some (.int (nI (v_seen K P i j))), h) := by
  have h6 := s.n6
  have lt : ∀ t, t ≤ n → v_seen K P i t < 8 := fun t ht => v_seen_lt t (fun a ha => (s.ok (by omega)).2.1)
  have lp : ∀ k t, i < t → t + k = j → XX true 1 168 52 [.ref 153, ax_junk, .int (nI j), ax_junk, .int (nI (v_seen K P i t)), .int (nI t), ax_junk] [] (h) ((some (.int (nI (v_seen K P i j))), h)) := by
    intro k
    induction k with
    | zero =>
      intro t _ ht
      obtain rfl : t = j := ht
      refine wb_X12_seenBy_52 ?_
      rw [if_neg (nI_nlt (Nat.le_refl _) (by omega))]
    | succ k ih =>
      intro t it ht
      have p3 := (s.ok (i := t) (by omega)).2.1
      have k8 := (s.ok (i := t) (by omega)).1
      have l8 := lt t (by omega)
      have nx := ih (t + 1) (by omega) (by omega)
      rw [v_seen_step it] at nx
      refine wb_X12_seenBy_52 ?_
      rw [if_pos (nI_lt (by omega) (by omega))]
      refine ⟨in_nI (by omega) (by decide), in_nI (by omega) (by decide), ?_⟩
      rw [ix_nI (by omega), s.KK (by omega), s.PP (by omega), v_see1 _ p3]
      have go : XX true 1 168 116 [.ref 153, ax_junk, .int (nI j), ax_junk, ax_junk, .int (nI t), ax_junk] [.int (nI (if K t = 4 ∧ (v_seen K P i t).testBit (P t) = true then 7 else if K t = 5 then (if (v_seen K P i t).testBit (P t) = true then v_seen K P i t - 1 <<< P t else v_seen K P i t) else v_seen K P i t))] (h) ((some (.int (nI (v_seen K P i j))), h)) := by
        refine wb_X12_seenBy_116 ?_
        rw [nI_s]
        exact nx
      have g5 : ¬ (K t = 4 ∧ (v_seen K P i t).testBit (P t) = true) → XX true 1 168 93 [.ref 153, ax_junk, .int (nI j), ax_junk, .int (nI (v_seen K P i t)), .int (nI t), .int (nI (1 <<< P t))] [] (h) ((some (.int (nI (v_seen K P i j))), h)) := by
        intro q
        rw [if_neg q] at go
        refine wb_X12_seenBy_93 ?_
        refine ⟨in_nI (by omega) (by decide), ?_⟩
        rw [ix_nI (by omega), s.KK (by omega)]
        by_cases r : K t = 5
        · rw [if_pos (congrArg nI r)]
          rw [if_pos r] at go
          rw [v_see3 _ l8 _ p3]
          exact wk_X12_seenBy_116 go
        · rw [if_neg (fun z => r ((nI_eq (by omega) (by omega)).mp z))]
          rw [if_neg r] at go
          exact wk_X12_seenBy_116 go
      by_cases q4 : K t = 4
      · rw [if_pos (congrArg nI q4)]
        by_cases qb : (v_seen K P i t).testBit (P t) = true
        · rw [if_neg (fun z => ((v_see2 _ l8 _ p3).mp z) qb)]
          rw [if_pos ⟨q4, qb⟩] at go
          exact wk_X12_seenBy_116 go
        · rw [if_pos ((v_see2 _ l8 _ p3).mpr qb)]
          exact g5 (fun z => qb z.2)
      · rw [if_neg (fun z => q4 ((nI_eq (by omega) (by omega)).mp z))]
        exact g5 (fun z => q4 z.1)
  have p3 := (s.ok (i := i) (by omega)).2.1
  have k8 := (s.ok (i := i) (by omega)).1
  have st := lp (j - (i + 1)) (i + 1) (by omega) (by omega)
  have e : v_seen K P i (i + 1) = if isSec (K i) then 1 <<< P i else 7 := if_pos rfl
  rw [e] at st
  have go : XX true 1 168 45 [.ref 153, .int (nI i), .int (nI j), ax_junk, ax_junk, ax_junk, ax_junk] [.int (nI (if isSec (K i) then 1 <<< P i else 7))] (h) ((some (.int (nI (v_seen K P i j))), h)) := by
    refine wb_X12_seenBy_45 ?_
    rw [nI_s]
    exact wk_X12_seenBy_52 st
  have g39 : isSec (K i) → XX true 1 168 39 [.ref 153, .int (nI i), .int (nI j), .int (nI (1 <<< P i)), ax_junk, ax_junk, ax_junk] [] (h) ((some (.int (nI (v_seen K P i j))), h)) := by
    intro q
    rw [if_pos q] at go
    refine wb_X12_seenBy_39 ?_
    exact wk_X12_seenBy_45 go
  refine wb_X12_seenBy_0 ?_
  have b1 : ax_in (nI i) 6 = true := in_nI (by omega) (by decide)
  refine ⟨b1, b1, ?_⟩
  rw [ix_nI (by omega), s.KK (by omega), s.PP (by omega), v_see1 _ p3]
  by_cases q0 : K i = 0
  · rw [if_pos (congrArg nI q0)]
    exact g39 (Or.inl q0)
  · rw [if_neg (fun z => q0 ((nI_eq (by omega) (by omega)).mp z))]
    refine ⟨b1, ?_⟩
    by_cases q3 : K i = 3
    · rw [if_pos (congrArg nI q3)]
      exact g39 (Or.inr (Or.inl q3))
    · rw [if_neg (fun z => q3 ((nI_eq (by omega) (by omega)).mp z))]
      refine ⟨b1, ?_⟩
      by_cases q7 : K i = 7
      · rw [if_pos (congrArg nI q7)]
        exact g39 (Or.inr (Or.inr q7))
      · rw [if_neg (fun z => q7 ((nI_eq (by omega) (by omega)).mp z))]
        rw [if_neg (by omega)] at go
        exact wk_X12_seenBy_45 go
theorem v_vbit : ∀ g, g < 8 → ∀ p, p < 3 → ((nI g >>> (nI p &&& 31)) &&& nI 1) = if g.testBit p = true then nI 1 else nI 0 := by decide +kernel
theorem sp_viewOf (s : mS c n K P B h) {j p : Nat} (hj : j ≤ n) (hp : p < 3) {m : Nat} {e : Nat → Nat} (o : okO h m e) (hm : j ≤ m) : XX true 2 184 0 [.ref 153, .int (nI p), .int (nI j), ax_junk, ax_junk] [] (h) (some (.int (nI (v_view K P p j e j))), h) := by
  have h6 := s.n6
  have lp : ∀ k i, i + k = j → XX true 2 184 5 [.ref 153, .int (nI p), .int (nI j), .int (nI (v_view K P p j e i)), .int (nI i)] [] (h) ((some (.int (nI (v_view K P p j e j))), h)) := by
    intro k
    induction k with
    | zero =>
      intro i hi
      obtain rfl : i = j := hi
      refine wb_X12_viewOf_5 ?_
      rw [if_neg (nI_nlt (Nat.le_refl _) (by omega))]
    | succ k ih =>
      intro i hi
      have nx := ih (i + 1) (by omega)
      have e1 : v_view K P p j e (i + 1) = 8 * v_view K P p j e i + (if (v_seen K P i j).testBit p = true then e i + 1 else 0) := rfl
      rw [e1] at nx
      refine wb_X12_viewOf_5 ?_
      rw [if_pos (nI_lt (by omega) (by omega))]
      refine (cl_X12_viewOf_19 rfl (by decide) (sp_seenBy s (by omega) hj)).mpr ?_
      refine wb_X12_viewOf_22 ?_
      rw [v_vbit _ (v_seen_lt j (fun a ha => (s.ok (by omega)).2.1)) _ hp]
      by_cases q : (v_seen K P i j).testBit p = true
      · rw [if_pos q] at nx
        rw [if_pos q, if_pos rfl]
        refine ⟨in_nI (by omega) (by decide), ?_⟩
        refine wb_X12_viewOf_43 ?_
        rw [ix_nI (by omega), o i (by omega), nI_s, nI_mulI, nI_add, nI_s]
        exact nx
      · rw [if_neg q] at nx
        rw [if_neg q, if_neg (by decide)]
        refine wb_X12_viewOf_43 ?_
        rw [nI_mulI, nI_add, nI_s]
        exact nx
  refine wb_X12_viewOf_0 ?_
  exact lp j 0 (by omega)
theorem v_view_lt {K P : Nat → Nat} {p j : Nat} {e : Nat → Nat} : ∀ i, (∀ a, a < i → e a < 5) → 1 ≤ v_view K P p j e i ∧ v_view K P p j e i < 2 * 8 ^ i
  | 0, _ => ⟨Nat.le_refl _, by show 1 < 2; decide⟩
  | i + 1, h => by
    have ih := v_view_lt (K := K) (P := P) (p := p) (j := j) i (fun a ha => h a (by omega))
    have h1 := h i (by omega)
    have h2 : (if (v_seen K P i j).testBit p = true then e i + 1 else 0) ≤ 5 := by split <;> omega
    show 1 ≤ 8 * v_view K P p j e i + (if (v_seen K P i j).testBit p = true then e i + 1 else 0) ∧ 8 * v_view K P p j e i + (if (v_seen K P i j).testBit p = true then e i + 1 else 0) < _
    rw [Nat.pow_succ]
    omega
/-- the view of a way behind j stages -/
abbrev v_vw (c : Nat) (K P B : Nat → Nat) (p j w : Nat) : Nat := v_view K P p j (v_what c K B j w) j
theorem v_vw_lt (s : okS c n K P B) {j : Nat} (hj : j ≤ n) (p w : Nat) : 1 ≤ v_vw c K P B p j w ∧ v_vw c K P B p j w < 524288 := by
  have h6 := s.2.2.1
  have h1 := v_view_lt (K := K) (P := P) (p := p) (j := j) (e := v_what c K B j w) j (fun a ha => v_what_lt s hj w ha)
  have : 8 ^ j ≤ 8 ^ 6 := Nat.pow_le_pow_right (by decide) (by omega)
  exact ⟨h1.1, by have := h1.2; show v_view K P p j (v_what c K B j w) j < _; omega⟩
/-- how many of the first are so -/
def cntN (q : Nat → Bool) : Nat → Nat
  | 0 => 0
  | m + 1 => cntN q m + (if q m = true then 1 else 0)
theorem cntN_le (q : Nat → Bool) : ∀ m, cntN q m ≤ m
  | 0 => Nat.le_refl _
  | m + 1 => by
    have := cntN_le q m
    show cntN q m + (if q m = true then 1 else 0) ≤ _
    split <;> omega
theorem sp_worldsOf (s : mS c n K P B h) {j p : Nat} (hj : j ≤ n) (hp : p < 3) (V : Int64) : ∃ h', XX true 5 186 0 [.ref 153, .int (nI p), .int (nI j), .long (V), ax_junk, ax_junk, ax_junk, ax_junk] [] (h) (some (.int (nI (cntN (fun w => decide ((nI (v_vw c K P B p j w)).toInt64 = V)) (v_ways c K B j)))), h') ∧ fr [(160, none)] h h' := by
  have h6 := s.n6
  have wl := v_ways_le s.1 hj
  have lp : ∀ k w, w + k = v_ways c K B j → ∀ h1, fr [(160, none)] h h1 → ∃ h', XX true 5 186 13 [.ref 153, .int (nI p), .int (nI j), .long (V), ax_junk, .int (nI (cntN (fun w => decide ((nI (v_vw c K P B p j w)).toInt64 = V)) w)), .int (nI (v_ways c K B j)), .int (nI w)] [] (h1) ((some (.int (nI (cntN (fun w => decide ((nI (v_vw c K P B p j w)).toInt64 = V)) (v_ways c K B j)))), h')) ∧ fr [(160, none)] h h' := by
    intro k
    induction k with
    | zero =>
      intro w hw h1 f
      obtain rfl : w = v_ways c K B j := hw
      refine ⟨h1, ?_, f⟩
      refine wb_X12_worldsOf_13 ?_
      rw [if_neg (nI_nlt (Nat.le_refl _) (by omega))]
    | succ k ih =>
      intro w hw h1 f
      obtain ⟨h2, r, f2, o⟩ := sp_lays (s.fr f rfl) hj (w := w) (by omega)
      have s2 : mS c n K P B h2 := (s.fr f rfl).fr f2 rfl
      obtain ⟨h', r', f'⟩ := ih (w + 1) (by omega) h2 (f.trans f2)
      refine ⟨h', ?_, f'⟩
      have e1 : cntN (fun w => decide ((nI (v_vw c K P B p j w)).toInt64 = V)) (w + 1) = cntN (fun w => decide ((nI (v_vw c K P B p j w)).toInt64 = V)) w + (if decide ((nI (v_vw c K P B p j w)).toInt64 = V) = true then 1 else 0) := rfl
      rw [e1] at r'
      refine wb_X12_worldsOf_13 ?_
      rw [if_pos (nI_lt (by omega) (by omega))]
      refine (cl_X12_worldsOf_24 rfl (by decide) (r)).mpr ?_
      refine wb_X12_worldsOf_27 ?_
      refine (cl_X12_worldsOf_32 rfl (by decide) (sp_viewOf s2 hj hp o (Nat.le_refl _))).mpr ?_
      refine wb_X12_worldsOf_35 ?_
      by_cases q : (nI (v_vw c K P B p j w)).toInt64 = V
      · rw [if_pos (decide_eq_true q)] at r'
        rw [if_pos ((lg_eq0 _ _).mpr q)]
        refine wb_X12_worldsOf_46 ?_
        rw [nI_s, nI_s]
        exact r'
      · rw [if_neg (by simpa using q)] at r'
        rw [if_neg (fun z => q ((lg_eq0 _ _).mp z))]
        refine wb_X12_worldsOf_46 ?_
        rw [nI_add, nI_s]
        exact r'
  obtain ⟨h', r, f⟩ := lp _ 0 (Nat.zero_add _) h fr.rfl'
  refine ⟨h', ?_, f⟩
  refine wb_X12_worldsOf_0 ?_
  refine (cl_X12_worldsOf_5 rfl (by decide) (sp_waysBehind s hj)).mpr ?_
  refine wb_X12_worldsOf_8 ?_
  exact wk_X12_worldsOf_13 r
theorem v_chn_le (s : okS c n K P B) : ∀ j, j ≤ n → 1 ≤ v_chn c K B j ∧ v_chn c K B j ≤ v_ways c K B j
  | 0, _ => ⟨Nat.le_refl _, Nat.le_refl _⟩
  | j + 1, hj => by
    have ih := v_chn_le s j (by omega)
    have op := v_opt_pos s (i := j) (by omega)
    show 1 ≤ v_chn c K B j * (if isCha (K j) then v_opt c K B j else 1) ∧ v_chn c K B j * (if isCha (K j) then v_opt c K B j else 1) ≤ v_ways c K B j * v_opt c K B j
    have h1 : 1 ≤ (if isCha (K j) then v_opt c K B j else 1) ∧ (if isCha (K j) then v_opt c K B j else 1) ≤ v_opt c K B j := by split <;> omega
    exact ⟨Nat.mul_pos ih.1 h1.1, Nat.mul_le_mul ih.2 h1.2⟩
theorem sp_chanceBelow (s : mS c n K P B h) : XX true 4 181 0 [.ref 153, ax_junk, ax_junk, ax_junk] [] (h) (some (.long (lN (v_chn c K B n))), h) := by
  have h6 := s.n6
  have lp : ∀ k i, i + k = n → XX true 4 181 4 [.ref 153, .long (lN (v_chn c K B i)), ax_junk, .int (nI i)] [] (h) ((some (.long (lN (v_chn c K B n))), h)) := by
    intro k
    induction k with
    | zero =>
      intro i hi
      obtain rfl : i = n := hi
      refine wb_X12_chanceBelow_4 ?_
      rw [s.nn, if_neg (nI_nlt (Nat.le_refl _) (by omega))]
    | succ k ih =>
      intro i hi
      have nx := ih (i + 1) (by omega)
      have op := v_opt_pos s.1 (i := i) (by omega)
      have e1 : v_chn c K B (i + 1) = v_chn c K B i * (if isCha (K i) then v_opt c K B i else 1) := rfl
      rw [e1] at nx
      refine wb_X12_chanceBelow_4 ?_
      rw [s.nn, if_pos (nI_lt (by omega) (by omega))]
      refine ⟨in_nI (by omega) (by decide), ?_⟩
      rw [ix_nI (by omega), s.KK (by omega)]
      refine (cl_X12_chanceBelow_19 rfl (by decide) (sp_isChance (s.ok (i := i) (by omega)).1 h)).mpr ?_
      refine wb_X12_chanceBelow_22 ?_
      by_cases q : isCha (K i)
      · rw [if_pos q] at nx
        rw [b2i_t q, if_neg (by decide)]
        refine (cl_X12_chanceBelow_27 rfl (by decide) (sp_options s (by omega))).mpr ?_
        refine wb_X12_chanceBelow_30 ?_
        refine wb_X12_chanceBelow_35 ?_
        rw [nI_l (by omega), lN_mul, nI_s]
        exact wk_X12_chanceBelow_4 nx
      · rw [if_neg q] at nx
        rw [b2i_f q, if_pos rfl]
        refine wb_X12_chanceBelow_35 ?_
        rw [lN_mul, nI_s]
        exact wk_X12_chanceBelow_4 nx
  refine wb_X12_chanceBelow_0 ?_
  exact wk_X12_chanceBelow_4 (lp n 0 (by omega))
end S23
