/-! THE CLASS: courses, and what tries make of them -/
theorem lN_shl {a k : Nat} (hk : k < 64) : lN a <<< (lN k) = lN (a * 2 ^ k) := by
  apply Int64.toBitVec.inj
  rw [Int64.toBitVec_shiftLeft]
  show BitVec.ofNat 64 a <<< ((BitVec.ofNat 64 k).smod 64) = BitVec.ofNat 64 (a * 2 ^ k)
  have e : (BitVec.ofNat 64 k).smod 64 = BitVec.ofNat 64 k := by
    have : ∀ k, k < 64 → (BitVec.ofNat 64 k).smod 64 = BitVec.ofNat 64 k := by decide +kernel
    exact this k hk
  rw [e]
  apply BitVec.eq_of_toNat_eq
  simp [BitVec.toNat_shiftLeft, Nat.shiftLeft_eq]
  rw [Nat.mod_eq_of_lt (show k < 18446744073709551616 by omega)]
theorem lN_shr {a : Nat} (ha : a < 2 ^ 62) : lN a >>> lN 6 = lN (a / 64) := by
  apply Int64.toBitVec.inj
  rw [Int64.toBitVec_shiftRight]
  show (BitVec.ofNat 64 a).sshiftRight' ((BitVec.ofNat 64 6).smod 64) = BitVec.ofNat 64 (a / 64)
  rw [show (BitVec.ofNat 64 6).smod 64 = BitVec.ofNat 64 6 by decide]
  show (BitVec.ofNat 64 a).sshiftRight 6 = _
  have hm : (BitVec.ofNat 64 a).msb = false := by
    rw [BitVec.msb_eq_decide]
    simp
    omega
  rw [BitVec.sshiftRight_eq_of_msb_false hm]
  apply BitVec.eq_of_toNat_eq
  simp [BitVec.toNat_ushiftRight, Nat.shiftRight_eq_div_pow]
  omega
theorem lN_or {a b : Nat} : lN a ||| lN b = lN (a ||| b) := by
  apply Int64.toBitVec.inj
  rw [Int64.toBitVec_or]
  show BitVec.ofNat 64 a ||| BitVec.ofNat 64 b = BitVec.ofNat 64 (a ||| b)
  apply BitVec.eq_of_toNat_eq
  simp [BitVec.toNat_or, Nat.or_mod_two_pow]
theorem lN_and63 {a : Nat} (ha : a < 2 ^ 62) : lN a &&& lN 63 = lN (a % 64) := by
  apply Int64.toBitVec.inj
  rw [Int64.toBitVec_and]
  show BitVec.ofNat 64 a &&& BitVec.ofNat 64 63 = BitVec.ofNat 64 (a % 64)
  apply BitVec.eq_of_toNat_eq
  simp [BitVec.toNat_and]
  rw [Nat.mod_eq_of_lt (show a < 18446744073709551616 by omega), Nat.mod_eq_of_lt (show a % 64 < 18446744073709551616 by omega)]
  exact Nat.and_two_pow_sub_one_eq_mod a 6
theorem c_mark {C s e : Nat} (hC : C < 2 ^ 40) (hs : s < 16) (he : e < 4) : ((lN C <<< ((nI 6).toInt64 &&& 63)) ||| (nI s <<< (nI 2 &&& 31)).toInt64) ||| (nI e).toInt64 = lN (C * 64 + (s * 4 + e)) := by
  rw [show ((nI 6).toInt64 &&& 63 : Int64) = lN 6 by decide, lN_shl (by decide), show (nI 2 &&& 31 : Int32) = nI 2 by decide, nI_shl (by decide) (by omega), nI_l (by omega), nI_l (by omega), lN_or, lN_or]
  have e1 : C * 2 ^ 6 ||| s * 2 ^ 2 = C * 64 + s * 4 := by
    have := Nat.shiftLeft_add_eq_or_of_lt (b := s * 4) (i := 6) (by omega) C
    rw [Nat.shiftLeft_eq] at this
    rw [show s * 2 ^ 2 = s * 4 by omega, ← this]
  rw [e1]
  have e2 : C * 64 + s * 4 ||| e = C * 64 + (s * 4 + e) := by
    have := Nat.shiftLeft_add_eq_or_of_lt (b := e) (i := 2) (by omega) (C * 16 + s)
    rw [Nat.shiftLeft_eq, show (C * 16 + s) * 2 ^ 2 = C * 64 + s * 4 by omega] at this
    omega
  rw [e2]
theorem m_idx : ∀ m, m < 64 → (lN m).toInt32 >>> (nI 2 &&& 31) = nI (m / 4) ∧ (lN m).toInt32 &&& nI 3 = nI (m % 4) := by decide +kernel
/-- how many stages a player chooses in -/
def v_mk (K P : Nat → Nat) (p : Nat) : Nat → Nat
  | 0 => 0
  | i + 1 => v_mk K P p i + (if picks K P p i then 1 else 0)
theorem v_mk_le (K P : Nat → Nat) (p : Nat) : ∀ i, v_mk K P p i ≤ i
  | 0 => Nat.le_refl _
  | i + 1 => by
    have := v_mk_le K P p i
    show v_mk K P p i + (if picks K P p i then 1 else 0) ≤ i + 1
    split <;> omega
theorem v_mk_mono (K P : Nat → Nat) (p i : Nat) : ∀ k, v_mk K P p i ≤ v_mk K P p (i + k)
  | 0 => Nat.le_refl _
  | k + 1 => Nat.le_trans (v_mk_mono K P p i k) (Nat.le_add_right _ _)
/-- the course of a way -/
noncomputable def v_crs (c n : Nat) (K P B : Nat → Nat) (p w : Nat) : Nat → Nat
  | 0 => 0
  | i + 1 => if picks K P p i then v_crs c n K P B p w i * 64 + (v_wix c n K P B p w i * 4 + v_what c K B n w i) else v_crs c n K P B p w i
section S70
variable {c n np nr : Nat} {K P B S T C TA AA : Nat → Nat} {U : Nat → Nat → Nat} {V W : Nat → Int} {h h' : AH}
theorem pick3 (s : okS c n K P B) {p i w : Nat} (hi : i < n) (q : picks K P p i) : v_what c K B n w i < 3 := by
  rw [v_what_pre c K B n w i hi]
  have oc := chc_opt s hi q.1
  unfold v_evt
  rw [if_neg (fun z => by rcases q.1 with q | q <;> rcases z with z | z <;> omega)]
  have := Nat.mod_lt (v_pre c K B n w (i + 1)) (show 0 < v_opt c K B i by omega)
  omega
theorem v_crs_lt (s : okS c n K P B) {p w : Nat} (hw : w < v_ways c K B n) (hM : v_sM c n K P B p ≤ 9) : ∀ i, i ≤ n → v_crs c n K P B p w i < 64 ^ i
  | 0, _ => Nat.one_pos
  | i + 1, hi => by
    have ih := v_crs_lt s hw hM i (by omega)
    have e : (64 : Nat) ^ (i + 1) = 64 * 64 ^ i := by rw [Nat.pow_succ, Nat.mul_comm]
    show (if picks K P p i then v_crs c n K P B p w i * 64 + (v_wix c n K P B p w i * 4 + v_what c K B n w i) else v_crs c n K P B p w i) < _
    by_cases q : picks K P p i
    · rw [if_pos q]
      have a := (v_wix_is s (by omega) q hw).1
      have b := pick3 s (w := w) (i := i) (by omega) q
      omega
    · rw [if_neg q]
      omega
theorem v_crs36 (s : okS c n K P B) {p w : Nat} (hw : w < v_ways c K B n) (hM : v_sM c n K P B p ≤ 9) {i : Nat} (hi : i ≤ n) : v_crs c n K P B p w i < 2 ^ 36 := by
  have a := v_crs_lt s hw hM i hi
  have n6 := s.2.2.1
  have : (64 : Nat) ^ i ≤ 64 ^ 6 := Nat.pow_le_pow_right (by decide) (by omega)
  have e : (64 : Nat) ^ 6 = 2 ^ 36 := by decide
  omega
/-- whether marks go by the choices -/
def v_tri (tr : Nat → Nat) : Nat → Nat → Bool
  | 0, _ => true
  | m + 1, x => v_tri tr m (x / 64) && decide (tr (x % 64 / 4) = x % 64 % 4)
theorem v_tri_crs (s : okS c n K P B) {p w : Nat} (hw : w < v_ways c K B n) (hM : v_sM c n K P B p ≤ 9) (tr : Nat → Nat) : ∀ i, i ≤ n → v_tri tr (v_mk K P p i) (v_crs c n K P B p w i) = v_mt c n K P B p w tr i
  | 0, _ => rfl
  | i + 1, hi => by
    have ih := v_tri_crs s hw hM tr i (by omega)
    have e1 : v_crs c n K P B p w (i + 1) = if picks K P p i then v_crs c n K P B p w i * 64 + (v_wix c n K P B p w i * 4 + v_what c K B n w i) else v_crs c n K P B p w i := rfl
    have e2 : v_mk K P p (i + 1) = v_mk K P p i + (if picks K P p i then 1 else 0) := rfl
    have e3 : v_mt c n K P B p w tr (i + 1) = (v_mt c n K P B p w tr i && (decide (¬ picks K P p i) || decide (tr (v_wix c n K P B p w i) = v_what c K B n w i))) := rfl
    rw [e1, e2, e3]
    by_cases q : picks K P p i
    · have a := (v_wix_is s (by omega) q hw).1
      have b := pick3 s (w := w) (i := i) (by omega) q
      rw [if_pos q, if_pos q, decide_eq_false (fun z => z q), Bool.false_or]
      show (v_tri tr (v_mk K P p i) ((v_crs c n K P B p w i * 64 + (v_wix c n K P B p w i * 4 + v_what c K B n w i)) / 64) && decide (tr ((v_crs c n K P B p w i * 64 + (v_wix c n K P B p w i * 4 + v_what c K B n w i)) % 64 / 4) = (v_crs c n K P B p w i * 64 + (v_wix c n K P B p w i * 4 + v_what c K B n w i)) % 64 % 4)) = _
      generalize v_crs c n K P B p w i = X at *
      generalize v_wix c n K P B p w i = Y at *
      generalize v_what c K B n w i = Z at *
      rw [show (X * 64 + (Y * 4 + Z)) / 64 = X by omega, show (X * 64 + (Y * 4 + Z)) % 64 / 4 = Y by omega, show (X * 64 + (Y * 4 + Z)) % 64 % 4 = Z by omega, ih]
    · rw [if_neg q, if_neg q, Nat.add_zero, decide_eq_true q, Bool.true_or, Bool.and_true, ih]
theorem sp_courseOf (s : tS 0 c n K P B S h) {p w : Nat} (hp : p < 3) (z : cSets c n K P B p h) (hM : v_sM c n K P B p ≤ 9) (hw : w < v_ways c K B n) (o : okX 0 h n (v_what c K B n w)) : XX true 3 67 0 [.ref 129, .ref 66, .ref 123, .int (nI p), ax_junk, ax_junk, ax_junk, ax_junk] [] (h) (some (.long (lN (v_crs c n K P B p w n))), h) := by
  have h6 := s.n6
  have lp : ∀ k i, i + k = n → XX true 3 67 6 [ax_junk, .ref 66, .ref 123, .int (nI p), .long (lN (v_crs c n K P B p w i)), ax_junk, .int (nI i), ax_junk] [] (h) ((some (.long (lN (v_crs c n K P B p w n))), h)) := by
    intro k
    induction k with
    | zero =>
      intro i hi
      obtain rfl : i = n := hi
      refine wb_X4_courseOf_6 ?_
      rw [s.nn, if_neg (nI_nlt (Nat.le_refl _) (by omega))]
    | succ k ih =>
      intro i hi
      have g := ih (i + 1) (by omega)
      have e1 : v_crs c n K P B p w (i + 1) = if picks K P p i then v_crs c n K P B p w i * 64 + (v_wix c n K P B p w i * 4 + v_what c K B n w i) else v_crs c n K P B p w i := rfl
      rw [e1] at g
      refine wb_X4_courseOf_6 ?_
      rw [s.nn, if_pos (nI_lt (by omega) (by omega))]
      refine cl_X4_courseOf_19 rfl (by decide) (sp_picksN s hp (by omega)) ?_
      refine wb_X4_courseOf_22 ?_
      by_cases q : isChc (K i) ∧ P i = p
      · have a := v_wix_is s.ok (p := p) (i := i) (by omega) q hw
        have b := pick3 s.ok (p := p) (w := w) (i := i) (by omega) q
        have fnd := sp_sfind s.ok z a.1
        rw [a.2.1, a.2.2] at fnd
        have sgt := sp_sight s (j := i) (by omega) hp o (by omega)
        have c36 := v_crs36 s.ok hw hM (i := i) (by omega)
        rw [if_pos q] at g
        rw [b2i_t q, if_neg (by decide)]
        refine cl_X4_courseOf_35 rfl (by decide) (sgt) ?_
        refine cl_X4_courseOf_38 rfl (by decide) (fnd) ?_
        refine wb_X4_courseOf_41 ?_
        rw [ix_nI (by omega), o i (by omega), c_mark (by omega) (by omega) (by omega)]
        refine ⟨in_nI (by omega) (by decide), ?_⟩
        refine wb_X4_courseOf_65 ?_
        rw [nI_s]
        exact g
      · rw [if_neg q] at g
        rw [b2i_f q, if_pos rfl]
        refine wb_X4_courseOf_65 ?_
        rw [nI_s]
        exact g
  refine wb_X4_courseOf_0 ?_
  exact lp n 0 (by omega)
/-- the tries -/
def cTr (M : Nat) (tr : Nat → Nat) (h : AH) : Prop := ∀ t, t < M → hI h 134 t = nI (tr t)
theorem sp_isTried (s : okS c n K P B) {p w : Nat} (hM : v_sM c n K P B p ≤ 9) (hw : w < v_ways c K B n) {tr : Nat → Nat} (t : cTr (v_sM c n K P B p) tr h) (ht : ∀ t, t < v_sM c n K P B p → tr t < 4) (mk : hI h 129 6 = nI (v_mk K P p n)) : XX true 1 70 0 [.ref 129, .long (lN (v_crs c n K P B p w n)), ax_junk, ax_junk, ax_junk, ax_junk, ax_junk] [] (h) (some (.int (b2i (v_mt c n K P B p w tr n = true))), h) := by
  have n6 := s.2.2.1
  have ml := v_mk_le K P p n
  have lp : ∀ i, i ≤ n → XX true 1 70 5 [.ref 129, ax_junk, ax_junk, .long (lN (v_crs c n K P B p w i)), ax_junk, .int (nI (v_mk K P p n - v_mk K P p i)), ax_junk] [] (h) ((some (.int (b2i (v_mt c n K P B p w tr i = true))), h)) := by
    intro i
    induction i with
    | zero =>
      intro hi
      refine wb_X4_isTried_5 ?_
      rw [mk, show v_mk K P p 0 = 0 from rfl, Nat.sub_zero, if_neg (nI_nlt (Nat.le_refl _) (by omega))]
      rfl
    | succ i ih =>
      intro hi
      have g := ih (by omega)
      have e1 : v_crs c n K P B p w (i + 1) = if picks K P p i then v_crs c n K P B p w i * 64 + (v_wix c n K P B p w i * 4 + v_what c K B n w i) else v_crs c n K P B p w i := rfl
      have e2 : v_mk K P p (i + 1) = v_mk K P p i + (if picks K P p i then 1 else 0) := rfl
      have e3 : v_mt c n K P B p w tr (i + 1) = (v_mt c n K P B p w tr i && (decide (¬ picks K P p i) || decide (tr (v_wix c n K P B p w i) = v_what c K B n w i))) := rfl
      rw [e1, e2, e3]
      by_cases q : picks K P p i
      · have a := (v_wix_is s (p := p) (i := i) (by omega) q hw).1
        have b := pick3 s (p := p) (w := w) (i := i) (by omega) q
        have c36 := v_crs36 s hw hM (i := i) (by omega)
        have mono := v_mk_mono K P p (i + 1) (n - (i + 1))
        rw [show i + 1 + (n - (i + 1)) = n by omega, e2, if_pos q] at mono
        rw [if_pos q, if_pos q, decide_eq_false (fun z => z q), Bool.false_or]
        have tv := t _ a
        have tl := ht _ a
        generalize v_crs c n K P B p w i = X at *
        generalize v_wix c n K P B p w i = Y at *
        generalize v_what c K B n w i = Z at *
        have mi := m_idx (Y * 4 + Z) (by omega)
        rw [show (Y * 4 + Z) / 4 = Y by omega, show (Y * 4 + Z) % 4 = Z by omega] at mi
        refine wb_X4_isTried_5 ?_
        rw [mk, if_pos (nI_lt (by omega) (by omega)), lN_and63 (by omega), show (X * 64 + (Y * 4 + Z)) % 64 = Y * 4 + Z by omega, mi.1, mi.2, ix_nI (by omega), tv]
        refine ⟨in_nI (by omega) (by decide), ?_⟩
        by_cases y : tr Y = Z
        · rw [if_pos (congrArg nI y), decide_eq_true y, Bool.and_true, show ((nI 6).toInt64 &&& 63 : Int64) = lN 6 by decide, lN_shr (by omega), show (X * 64 + (Y * 4 + Z)) / 64 = X by omega, nI_s, show v_mk K P p n - (v_mk K P p i + 1) + 1 = v_mk K P p n - v_mk K P p i by omega]
          exact g
        · rw [if_neg (fun z => y ((nI_eq (by omega) (by omega)).mp z)), decide_eq_false y, Bool.and_false, b2i_f (by decide)]
      · rw [if_neg q, if_neg q, Nat.add_zero, decide_eq_true q, Bool.true_or, Bool.and_true]
        exact g
  have g := lp n (Nat.le_refl _)
  rw [Nat.sub_self] at g
  refine wb_X4_isTried_0 ?_
  exact g
/-- the courses and what is won in them -/
def cCo (cd : Nat) (X : Nat → Nat) (Y : Nat → Int) (h : AH) : Prop := hI h 129 5 = nI cd ∧ ∀ k, k < cd → hL h 132 k = lN (X k) ∧ hI h 133 k = iI (Y k)
theorem sp_sumTried (s : okS c n K P B) {p cd : Nat} (hM : v_sM c n K P B p ≤ 9) {X : Nat → Nat} {Y : Nat → Int} (co : cCo cd X Y h) (hcd : cd ≤ 1620) (wit : ∀ k, k < cd → ∃ w, w < v_ways c K B n ∧ X k = v_crs c n K P B p w n) {tr : Nat → Nat} (t : cTr (v_sM c n K P B p) tr h) (ht : ∀ t, t < v_sM c n K P B p → tr t < 4) (mk : hI h 129 6 = nI (v_mk K P p n)) : XX true 2 69 0 [.ref 129, ax_junk, ax_junk] [] (h) (some (.int (iI (sumZ (fun k => if v_tri tr (v_mk K P p n) (X k) = true then Y k else 0) cd))), h) := by
  have lp : ∀ k i, i + k = cd → XX true 2 69 4 [.ref 129, .int (iI (sumZ (fun k => if v_tri tr (v_mk K P p n) (X k) = true then Y k else 0) i)), .int (nI i)] [] (h) ((some (.int (iI (sumZ (fun k => if v_tri tr (v_mk K P p n) (X k) = true then Y k else 0) cd))), h)) := by
    intro k
    induction k with
    | zero =>
      intro i hi
      obtain rfl : i = cd := hi
      refine wb_X4_sumTried_4 ?_
      rw [co.1, if_neg (nI_nlt (Nat.le_refl _) (by omega))]
    | succ k ih =>
      intro i hi
      have g := ih (i + 1) (by omega)
      obtain ⟨w, hw, ew⟩ := wit i (by omega)
      have tc := v_tri_crs s hw hM tr n (Nat.le_refl _)
      rw [← ew] at tc
      have e1 : sumZ (fun k => if v_tri tr (v_mk K P p n) (X k) = true then Y k else 0) (i + 1) = sumZ (fun k => if v_tri tr (v_mk K P p n) (X k) = true then Y k else 0) i + (if v_tri tr (v_mk K P p n) (X i) = true then Y i else 0) := rfl
      rw [e1] at g
      have it := sp_isTried s hM hw t ht mk
      rw [← ew, ← tc] at it
      refine wb_X4_sumTried_4 ?_
      rw [co.1, if_pos (nI_lt (by omega) (by omega)), ix_nI (by omega), (co.2 i (by omega)).1]
      refine ⟨in_nI (by omega) (by decide), ?_⟩
      refine cl_X4_sumTried_19 rfl (by decide) (it) ?_
      refine wb_X4_sumTried_22 ?_
      by_cases q : v_tri tr (v_mk K P p n) (X i) = true
      · rw [if_pos q] at g
        rw [b2i_t q, if_neg (by decide), ix_nI (by omega), (co.2 i (by omega)).2, iI_add]
        refine ⟨in_nI (by omega) (by decide), ?_⟩
        refine wb_X4_sumTried_34 ?_
        rw [nI_s]
        exact g
      · rw [if_neg q, Int.add_zero] at g
        rw [b2i_f q, if_pos rfl]
        refine wb_X4_sumTried_34 ?_
        rw [nI_s]
        exact g
  have g := lp cd 0 (by omega)
  refine wb_X4_sumTried_0 ?_
  rw [nI_iI 0]
  exact g
theorem sp_tryNext (s : tS 0 c n K P B S h) {p : Nat} (z : cSets c n K P B p h) (hM : v_sM c n K P B p ≤ 9) {tr : Nat → Nat} (t : cTr (v_sM c n K P B p) tr h) (ht : ∀ t, t < v_sM c n K P B p → tr t < B (v_sJ c n K P B p t)) : ∃ h', XX true 1 71 0 [.ref 129, .ref 66, .ref 123, ax_junk] [] (h) (some (.int (b2i ((v_nxt (fun t => B (v_sJ c n K P B p t)) (v_sM c n K P B p) tr).2 = true))), h') ∧ fr [(134, none)] h h' ∧ cTr (v_sM c n K P B p) (v_nxt (fun t => B (v_sJ c n K P B p t)) (v_sM c n K P B p) tr).1 h' := by
  have h6 := s.n6
  have b3 : ∀ t, t < v_sM c n K P B p → B (v_sJ c n K P B p t) = 2 ∨ B (v_sJ c n K P B p t) = 3 := fun t ht => v_setB s.ok ht
  have lp : ∀ m, m ≤ v_sM c n K P B p → ∀ tr h1, fr [(134, none)] h h1 → cTr (v_sM c n K P B p) tr h1 → (∀ t, t < m → tr t < B (v_sJ c n K P B p t)) → ∃ h', XX true 1 71 12 [.ref 129, .ref 66, .ref 123, .int (nI m - nI 1)] [] (h1) ((some (.int (b2i ((v_nxt (fun t => B (v_sJ c n K P B p t)) m tr).2 = true))), h')) ∧ fr [(134, none)] h h' ∧ cTr (v_sM c n K P B p) (v_nxt (fun t => B (v_sJ c n K P B p t)) m tr).1 h' := by
    intro m
    induction m with
    | zero =>
      intro _ tr h1 f t1 _
      refine ⟨h1, ?_, f, t1⟩
      refine wb_X4_tryNext_12 ?_
      rw [if_pos (by decide)]
      rfl
    | succ m ih =>
      intro hm tr h1 f t1 v1
      have zm := z.2 m (by omega)
      have si := v_set_is s.ok (p := p) (t := m) (by omega)
      have oc := chc_opt s.ok si.1 si.2.1.1
      have bm := b3 m (by omega)
      have vm := v1 m (by omega)
      have s1 : tS 0 c n K P B S h1 := s.fr f rfl rfl
      have e124 : hI h1 124 m = nI (v_sJ c n K P B p m) := (f.I rfl).trans zm.1
      have f69 : hI h1 69 (v_sJ c n K P B p m) = nI (B (v_sJ c n K P B p m)) := by rw [s1.fan _ si.1, oc.1]
      have w1 : fr [(134, none)] h1 (ax_wr h1 134 m (.int (nI (tr m + 1)))) := fr.wr (by simp [inS])
      rw [nI_subI (by omega), Nat.add_sub_cancel]
      unfold v_nxt
      by_cases q : tr m + 1 < B (v_sJ c n K P B p m)
      · rw [if_pos q]
        refine ⟨ax_wr h1 134 m (.int (nI (tr m + 1))), ?_, f.trans w1, fun t ht => ?_⟩
        · refine wb_X4_tryNext_12 ?_
          rw [if_neg (nI_n0 (by omega)), ix_nI (by omega), t1 m (by omega), nI_s, wr_Ia (by decide), e124, ix_nI (by omega), wr_I, wr_Ia (by decide), f69, if_pos (nI_lt q (by omega))]
          exact ⟨in_nI (by omega) (by decide), in_nI (by omega) (by decide), in_nI (by omega) (by decide), in_nI (by omega) (by decide), in_nI (by omega) (by decide), rfl⟩
        · by_cases e : t = m
          · rw [e, wr_I]
            show _ = nI (updN tr m (tr m + 1) m)
            rw [updN_s]
          · rw [wr_Ij e]
            show _ = nI (updN tr m (tr m + 1) t)
            rw [updN_o e]
            exact t1 t ht
      · rw [if_neg q]
        obtain ⟨h', x, y⟩ := ih (by omega) (updN tr m 0) (ax_wr (ax_wr h1 134 m (.int (nI (tr m + 1)))) 134 m (.int (nI 0))) ((f.trans w1).wr' (by simp [inS])) (fun t ht => by
          by_cases e : t = m
          · rw [e, wr_I, updN_s]
          · rw [wr_Ij e, wr_Ij e, updN_o e]
            exact t1 t ht) (fun t ht => by
          rw [updN_o (by omega)]
          exact v1 t (by omega))
        refine ⟨h', ?_, y⟩
        refine wb_X4_tryNext_12 ?_
        rw [if_neg (nI_n0 (by omega)), ix_nI (by omega), t1 m (by omega), nI_s, wr_Ia (by decide), e124, ix_nI (by omega), wr_I, wr_Ia (by decide), f69, if_neg (nI_nlt (by omega) (by omega)), nI_dec]
        exact ⟨in_nI (by omega) (by decide), in_nI (by omega) (by decide), in_nI (by omega) (by decide), in_nI (by omega) (by decide), in_nI (by omega) (by decide), in_nI (by omega) (by decide), x⟩
  obtain ⟨h', x, y⟩ := lp (v_sM c n K P B p) (Nat.le_refl _) tr h fr.rfl' t ht
  refine ⟨h', ?_, y⟩
  refine wb_X4_tryNext_0 ?_
  rw [z.1]
  by_cases e : v_sM c n K P B p = 9
  · rw [e] at x ⊢
    rw [if_neg (nI_nlt (Nat.le_refl _) (by omega))]
    exact x
  · rw [if_neg (nI_nlt (by omega) (by omega))]
    exact x
end S70
