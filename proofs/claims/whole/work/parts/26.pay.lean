/-! AMOUNTS, pay, sums over ways -/
section S26
variable {c n np nr fm : Nat} {K P B T C : Nat → Nat} {U : Nat → Nat → Nat} {V W : Nat → Int} {h h' : AH}
theorem sp_amountA_s (s : mS c n K P B h) (w : mW W h) (r : rwR 159 fm nr U V h) (hfm : fm + 7 * nr ≤ 56) {e : Nat → Nat} (o : okO h n e) (he : ∀ i, i < n → e i < 5) {f i : Nat} (hi : i < nr) (ih : ∀ x, x < i → XX true (f+3) 207 0 [.ref 153, .ref 159, .int (nI fm), .int (nI x), ax_junk, ax_junk, ax_junk, ax_junk] [] (h) (some (.int (iI (v_am U V W c n e f x))), h)) : XX true (f+4) 207 0 [.ref 153, .ref 159, .int (nI fm), .int (nI i), ax_junk, ax_junk, ax_junk, ax_junk] [] (h) (some (.int (iI (v_am U V W c n e (f + 1) i))), h) := by
  have h6 := s.n6
  have hc := s.c5
  have h8 := r.1.1
  obtain ⟨a0, a1, a2, a3, a4, a5, a6, v1, v2⟩ := r.1.2 i hi
  obtain ⟨cl, cv⟩ := r.2 i hi
  have c1 := cl 1 (by decide)
  have c2 := cl 2 (by decide)
  have c5 := cl 5 (by decide)
  refine wb_X12_amountOfA_0 ?_
  rw [nI_mulI, nI_add, nI_add, nI_add, nI_add, nI_add, ix_nI (by omega), ix_nI (by omega), ix_nI (by omega), ix_nI (by omega), c1, c2, c5, cv]
  refine ⟨in_nI (by omega) (by decide), in_nI (by omega) (by decide), in_nI (by omega) (by decide), in_nI (by omega) (by decide), ?_⟩
  unfold v_am
  by_cases k0 : U i 5 = 0
  · rw [if_pos k0]
    refine (sw_X12_amountOfA_39_0 (congrArg nI k0)).mpr ?_
    refine wb_X12_amountOfA_68 ?_
    rfl
  · rw [if_neg k0]
    by_cases k1 : U i 5 = 1
    · rw [if_pos k1]
      refine (sw_X12_amountOfA_39_1 (congrArg nI k1)).mpr ?_
      refine wb_X12_amountOfA_71 ?_
      refine (cl_X12_amountOfA_74 rfl (by omega) (sp_isStageN s (by omega))).mpr ?_
      refine wb_X12_amountOfA_77 ?_
      by_cases st : U i 1 < n
      · have e1 := he _ st
        rw [b2i_t st, if_neg (by decide), ix_nI (by omega), o _ st, s.cc]
        refine ⟨in_nI (by omega) (by decide), ?_⟩
        by_cases q : e (U i 1) < c
        · rw [if_pos (nI_lt q (by omega)), if_pos ⟨st, q⟩, ix_nI (by omega), (w _ e1).1, iI_mul]
          exact ⟨in_nI (by omega) (by decide), in_nI (by omega) (by decide), rfl⟩
        · rw [if_neg (nI_nlt (by omega) (by omega)), if_neg (fun z => q z.2), nI_iI]
          rfl
      · rw [b2i_f st, if_pos rfl, if_neg (fun z => st z.1), nI_iI]
        rfl
    · rw [if_neg k1]
      by_cases k2 : U i 5 = 2
      · rw [if_pos k2]
        refine (sw_X12_amountOfA_39_2 (congrArg nI k2)).mpr ?_
        refine wb_X12_amountOfA_114 ?_
        refine (cl_X12_amountOfA_117 rfl (by omega) (sp_isStageN s (by omega))).mpr ?_
        refine wb_X12_amountOfA_120 ?_
        by_cases st : U i 1 < n
        · rw [b2i_t st, if_neg (by decide)]
          refine (cl_X12_amountOfA_126 rfl (by omega) (sp_isStageN s (by omega))).mpr ?_
          refine wb_X12_amountOfA_129 ?_
          by_cases st2 : U i 2 < n
          · rw [b2i_t st2, if_neg (by decide), ix_nI (by omega), ix_nI (by omega), o _ st, o _ st2, if_pos ⟨st, st2⟩, nI_iI (e (U i 1)), nI_iI (e (U i 2)), iI_sub, iI_mul]
            refine ⟨in_nI (by omega) (by decide), in_nI (by omega) (by decide), rfl⟩
          · rw [b2i_f st2, if_pos rfl, if_neg (fun z => st2 z.2), nI_iI]
            rfl
        · rw [b2i_f st, if_pos rfl, if_neg (fun z => st z.1), nI_iI]
          rfl
      · rw [if_neg k2]
        by_cases k3 : U i 5 = 3
        · rw [if_pos k3]
          refine (sw_X12_amountOfA_39_3 (congrArg nI k3)).mpr ?_
          refine wb_X12_amountOfA_155 ?_
          by_cases q : U i 1 < i
          · rw [if_pos (nI_lt q (by omega)), if_pos q]
            refine (cl_X12_amountOfA_166 rfl (by omega) (ih _ q)).mpr ?_
            refine wb_X12_amountOfA_169 ?_
            rw [iI_add]
          · rw [if_neg (nI_nlt (by omega) (by omega)), if_neg q, nI_iI]
            rfl
        · rw [if_neg k3]
          refine (sw_X12_amountOfA_39_d (Or.inr (by rw [nI_toInt (by omega)]; omega))).mpr ?_
          refine wb_X12_amountOfA_177 ?_
          refine (cl_X12_amountOfA_180 rfl (by omega) (sp_isStageN s (by omega))).mpr ?_
          refine wb_X12_amountOfA_183 ?_
          by_cases st : U i 1 < n
          · have e1 := he _ st
            rw [b2i_t st, if_neg (by decide), ix_nI (by omega), o _ st, if_pos st]
            refine ⟨in_nI (by omega) (by decide), ?_⟩
            by_cases q : e (U i 1) = 0
            · rw [if_pos (congrArg nI q), if_pos q, nI_iI, iI_mul]
              rfl
            · rw [if_neg (fun z => q ((nI_eq (by omega) (by omega)).mp z)), if_neg q]
          · rw [b2i_f st, if_pos rfl, if_neg st, nI_iI]
            rfl
theorem sp_amountA_f (s : mS c n K P B h) (w : mW W h) (r : rwR 159 fm nr U V h) (hfm : fm + 7 * nr ≤ 56) {e : Nat → Nat} (o : okO h n e) (he : ∀ i, i < n → e i < 5) : ∀ (f i : Nat), i ≤ f → i < nr → XX true (f+4) 207 0 [.ref 153, .ref 159, .int (nI fm), .int (nI i), ax_junk, ax_junk, ax_junk, ax_junk] [] (h) (some (.int (iI (v_am U V W c n e (f + 1) i))), h) := by
  intro f
  induction f with
  | zero =>
    intro i hi hn
    obtain rfl : i = 0 := by omega
    exact sp_amountA_s s w r hfm o he (f := 0) hn (fun x hx => absurd hx (Nat.not_lt_zero _))
  | succ f ih =>
    intro i hi hn
    exact sp_amountA_s s w r hfm o he (f := f + 1) hn (fun x hx => (ih x (by omega) (by omega)).mono (by omega))
theorem sp_amountA (s : mS c n K P B h) (w : mW W h) (r : rwR 159 fm nr U V h) (hfm : fm + 7 * nr ≤ 56) {e : Nat → Nat} (o : okO h n e) (he : ∀ i, i < n → e i < 5) {i : Nat} (hi : i < nr) : XX true 15 207 0 [.ref 153, .ref 159, .int (nI fm), .int (nI i), ax_junk, ax_junk, ax_junk, ax_junk] [] (h) (some (.int (iI (v_am U V W c n e 9 i))), h) := (sp_amountA_f s w r hfm o he 8 i (by have := r.1.1; omega) hi).mono (by decide)
theorem sp_amountB_s (s : mS c n K P B h) (w : mW W h) (r : rwR 179 fm nr U V h) (hfm : fm + 7 * nr ≤ 224) {e : Nat → Nat} (o : okO h n e) (he : ∀ i, i < n → e i < 5) {f i : Nat} (hi : i < nr) (ih : ∀ x, x < i → XX true (f+3) 207 0 [.ref 153, .ref 179, .int (nI fm), .int (nI x), ax_junk, ax_junk, ax_junk, ax_junk] [] (h) (some (.int (iI (v_am U V W c n e f x))), h)) : XX true (f+4) 207 0 [.ref 153, .ref 179, .int (nI fm), .int (nI i), ax_junk, ax_junk, ax_junk, ax_junk] [] (h) (some (.int (iI (v_am U V W c n e (f + 1) i))), h) := by
  have h6 := s.n6
  have hc := s.c5
  have h8 := r.1.1
  obtain ⟨a0, a1, a2, a3, a4, a5, a6, v1, v2⟩ := r.1.2 i hi
  obtain ⟨cl, cv⟩ := r.2 i hi
  have c1 := cl 1 (by decide)
  have c2 := cl 2 (by decide)
  have c5 := cl 5 (by decide)
  refine wb_X12_amountOfB_0 ?_
  rw [nI_mulI, nI_add, nI_add, nI_add, nI_add, nI_add, ix_nI (by omega), ix_nI (by omega), ix_nI (by omega), ix_nI (by omega), c1, c2, c5, cv]
  refine ⟨in_nI (by omega) (by decide), in_nI (by omega) (by decide), in_nI (by omega) (by decide), in_nI (by omega) (by decide), ?_⟩
  unfold v_am
  by_cases k0 : U i 5 = 0
  · rw [if_pos k0]
    refine (sw_X12_amountOfB_39_0 (congrArg nI k0)).mpr ?_
    refine wb_X12_amountOfB_68 ?_
    rfl
  · rw [if_neg k0]
    by_cases k1 : U i 5 = 1
    · rw [if_pos k1]
      refine (sw_X12_amountOfB_39_1 (congrArg nI k1)).mpr ?_
      refine wb_X12_amountOfB_71 ?_
      refine (cl_X12_amountOfB_74 rfl (by omega) (sp_isStageN s (by omega))).mpr ?_
      refine wb_X12_amountOfB_77 ?_
      by_cases st : U i 1 < n
      · have e1 := he _ st
        rw [b2i_t st, if_neg (by decide), ix_nI (by omega), o _ st, s.cc]
        refine ⟨in_nI (by omega) (by decide), ?_⟩
        by_cases q : e (U i 1) < c
        · rw [if_pos (nI_lt q (by omega)), if_pos ⟨st, q⟩, ix_nI (by omega), (w _ e1).1, iI_mul]
          exact ⟨in_nI (by omega) (by decide), in_nI (by omega) (by decide), rfl⟩
        · rw [if_neg (nI_nlt (by omega) (by omega)), if_neg (fun z => q z.2), nI_iI]
          rfl
      · rw [b2i_f st, if_pos rfl, if_neg (fun z => st z.1), nI_iI]
        rfl
    · rw [if_neg k1]
      by_cases k2 : U i 5 = 2
      · rw [if_pos k2]
        refine (sw_X12_amountOfB_39_2 (congrArg nI k2)).mpr ?_
        refine wb_X12_amountOfB_114 ?_
        refine (cl_X12_amountOfB_117 rfl (by omega) (sp_isStageN s (by omega))).mpr ?_
        refine wb_X12_amountOfB_120 ?_
        by_cases st : U i 1 < n
        · rw [b2i_t st, if_neg (by decide)]
          refine (cl_X12_amountOfB_126 rfl (by omega) (sp_isStageN s (by omega))).mpr ?_
          refine wb_X12_amountOfB_129 ?_
          by_cases st2 : U i 2 < n
          · rw [b2i_t st2, if_neg (by decide), ix_nI (by omega), ix_nI (by omega), o _ st, o _ st2, if_pos ⟨st, st2⟩, nI_iI (e (U i 1)), nI_iI (e (U i 2)), iI_sub, iI_mul]
            refine ⟨in_nI (by omega) (by decide), in_nI (by omega) (by decide), rfl⟩
          · rw [b2i_f st2, if_pos rfl, if_neg (fun z => st2 z.2), nI_iI]
            rfl
        · rw [b2i_f st, if_pos rfl, if_neg (fun z => st z.1), nI_iI]
          rfl
      · rw [if_neg k2]
        by_cases k3 : U i 5 = 3
        · rw [if_pos k3]
          refine (sw_X12_amountOfB_39_3 (congrArg nI k3)).mpr ?_
          refine wb_X12_amountOfB_155 ?_
          by_cases q : U i 1 < i
          · rw [if_pos (nI_lt q (by omega)), if_pos q]
            refine (cl_X12_amountOfB_166 rfl (by omega) (ih _ q)).mpr ?_
            refine wb_X12_amountOfB_169 ?_
            rw [iI_add]
          · rw [if_neg (nI_nlt (by omega) (by omega)), if_neg q, nI_iI]
            rfl
        · rw [if_neg k3]
          refine (sw_X12_amountOfB_39_d (Or.inr (by rw [nI_toInt (by omega)]; omega))).mpr ?_
          refine wb_X12_amountOfB_177 ?_
          refine (cl_X12_amountOfB_180 rfl (by omega) (sp_isStageN s (by omega))).mpr ?_
          refine wb_X12_amountOfB_183 ?_
          by_cases st : U i 1 < n
          · have e1 := he _ st
            rw [b2i_t st, if_neg (by decide), ix_nI (by omega), o _ st, if_pos st]
            refine ⟨in_nI (by omega) (by decide), ?_⟩
            by_cases q : e (U i 1) = 0
            · rw [if_pos (congrArg nI q), if_pos q, nI_iI, iI_mul]
              rfl
            · rw [if_neg (fun z => q ((nI_eq (by omega) (by omega)).mp z)), if_neg q]
          · rw [b2i_f st, if_pos rfl, if_neg st, nI_iI]
            rfl
theorem sp_amountB_f (s : mS c n K P B h) (w : mW W h) (r : rwR 179 fm nr U V h) (hfm : fm + 7 * nr ≤ 224) {e : Nat → Nat} (o : okO h n e) (he : ∀ i, i < n → e i < 5) : ∀ (f i : Nat), i ≤ f → i < nr → XX true (f+4) 207 0 [.ref 153, .ref 179, .int (nI fm), .int (nI i), ax_junk, ax_junk, ax_junk, ax_junk] [] (h) (some (.int (iI (v_am U V W c n e (f + 1) i))), h) := by
  intro f
  induction f with
  | zero =>
    intro i hi hn
    obtain rfl : i = 0 := by omega
    exact sp_amountB_s s w r hfm o he (f := 0) hn (fun x hx => absurd hx (Nat.not_lt_zero _))
  | succ f ih =>
    intro i hi hn
    exact sp_amountB_s s w r hfm o he (f := f + 1) hn (fun x hx => (ih x (by omega) (by omega)).mono (by omega))
theorem sp_amountB (s : mS c n K P B h) (w : mW W h) (r : rwR 179 fm nr U V h) (hfm : fm + 7 * nr ≤ 224) {e : Nat → Nat} (o : okO h n e) (he : ∀ i, i < n → e i < 5) {i : Nat} (hi : i < nr) : XX true 15 207 0 [.ref 153, .ref 179, .int (nI fm), .int (nI i), ax_junk, ax_junk, ax_junk, ax_junk] [] (h) (some (.int (iI (v_am U V W c n e 9 i))), h) := (sp_amountB_f s w r hfm o he 8 i (by have := r.1.1; omega) hi).mono (by decide)
theorem sp_isSo (s : mS c n K P B h) (r : rwR 159 0 nr U V h) {e : Nat → Nat} (o : okO h n e) (he : ∀ i, i < n → e i < 5) {i : Nat} (hi : i < nr) : XX true 15 206 0 [.ref 153, .int (nI i), ax_junk, ax_junk, ax_junk] [] (h) (some (.int (b2i (v_so U n e 9 i = true))), h) := (sp_isSo_f s r o he 8 i (by have := r.1.1; omega) hi).mono (by decide)
/-- what a player gets by the first rules -/
def v_pay (U : Nat → Nat → Nat) (V W : Nat → Int) (c n : Nat) (e : Nat → Nat) (p : Nat) : Nat → Int
  | 0 => 0
  | i + 1 => v_pay U V W c n e p i + (if U i 4 = p then (if v_so U n e 9 i = true then v_am U V W c n e 9 i else 0) else if U i 3 = p then (if v_so U n e 9 i = true then -v_am U V W c n e 9 i else 0) else 0)
theorem v_pay_le {e : Nat → Nat} (r : okR nr U V) (w : ∀ i, i < 5 → -9 ≤ W i ∧ W i ≤ 9) (he : ∀ i, i < n → e i < 5) (hc : c ≤ 5) (p : Nat) : ∀ m : Nat, m ≤ nr → -(1782 * m : Int) ≤ v_pay U V W c n e p m ∧ v_pay U V W c n e p m ≤ 1782 * m
  | 0, _ => by show -(1782 * ((0 : Nat) : Int)) ≤ 0 ∧ 0 ≤ 1782 * ((0 : Nat) : Int); omega
  | m + 1, hm => by
    have ih := v_pay_le r w he hc p m (by omega)
    have a := v_am_le (n := n) (c := c) (e := e) r w he hc 9 m (by omega)
    show _ ≤ v_pay U V W c n e p m + (if U m 4 = p then (if v_so U n e 9 m = true then v_am U V W c n e 9 m else 0) else if U m 3 = p then (if v_so U n e 9 m = true then -v_am U V W c n e 9 m else 0) else 0) ∧ v_pay U V W c n e p m + (if U m 4 = p then (if v_so U n e 9 m = true then v_am U V W c n e 9 m else 0) else if U m 3 = p then (if v_so U n e 9 m = true then -v_am U V W c n e 9 m else 0) else 0) ≤ _
    repeat' split
    all_goals omega
theorem sp_payOf (s : mS c n K P B h) (w : mW W h) (r : mR nr U V h) {e : Nat → Nat} (o : okO h n e) (he : ∀ i, i < n → e i < 5) {p : Nat} (hp : p < 3) : XX true 16 210 0 [.ref 153, .int (nI p), ax_junk, ax_junk, ax_junk] [] (h) (some (.int (iI (v_pay U V W c n e p nr))), h) := by
  have h8 := r.2.1.1
  have lp : ∀ k i, i + k = nr → XX true 16 210 4 [.ref 153, .int (nI p), .int (iI (v_pay U V W c n e p i)), .int (nI i), ax_junk] [] (h) ((some (.int (iI (v_pay U V W c n e p nr))), h)) := by
    intro k
    induction k with
    | zero =>
      intro i hi
      obtain rfl : i = nr := hi
      refine wb_X12_payOf_4 ?_
      rw [r.1, if_neg (nI_nlt (Nat.le_refl _) (by omega))]
    | succ k ih =>
      intro i hi
      have nx := ih (i + 1) (by omega)
      obtain ⟨a0, a1, a2, a3, a4, a5, a6, v1, v2⟩ := r.2.1.2 i (by omega)
      obtain ⟨cl, cv⟩ := r.2.2 i (by omega)
      have c3 : hI h 159 (7 * i + 3) = nI (U i 3) := by have := cl 3 (by decide); rwa [Nat.zero_add] at this
      have c4 : hI h 159 (7 * i + 4) = nI (U i 4) := by have := cl 4 (by decide); rwa [Nat.zero_add] at this
      have e1 : v_pay U V W c n e p (i + 1) = v_pay U V W c n e p i + (if U i 4 = p then (if v_so U n e 9 i = true then v_am U V W c n e 9 i else 0) else if U i 3 = p then (if v_so U n e 9 i = true then -v_am U V W c n e 9 i else 0) else 0) := rfl
      rw [e1] at nx
      have go : ∀ z : Int, (if U i 4 = p then (if v_so U n e 9 i = true then v_am U V W c n e 9 i else 0) else if U i 3 = p then (if v_so U n e 9 i = true then -v_am U V W c n e 9 i else 0) else 0) = z → XX true 16 210 84 [.ref 153, .int (nI p), ax_junk, .int (nI i), ax_junk] [.int (iI z), .int (iI (v_pay U V W c n e p i))] (h) ((some (.int (iI (v_pay U V W c n e p nr))), h)) := by
        intro z hz
        rw [hz] at nx
        refine wb_X12_payOf_84 ?_
        rw [iI_add, nI_s]
        exact wk_X12_payOf_4 nx
      have g0 : (if U i 4 = p then (if v_so U n e 9 i = true then v_am U V W c n e 9 i else 0) else if U i 3 = p then (if v_so U n e 9 i = true then -v_am U V W c n e 9 i else 0) else 0) = 0 → XX true 16 210 83 [.ref 153, .int (nI p), ax_junk, .int (nI i), ax_junk] [.int (iI (v_pay U V W c n e p i))] (h) ((some (.int (iI (v_pay U V W c n e p nr))), h)) := by
        intro q
        refine wb_X12_payOf_83 ?_
        rw [nI_iI]
        exact go 0 q
      have g1 : ∀ sg : Int, sg ≠ 0 → -2 ≤ sg → sg ≤ 2 → (if U i 4 = p then (if v_so U n e 9 i = true then v_am U V W c n e 9 i else 0) else if U i 3 = p then (if v_so U n e 9 i = true then -v_am U V W c n e 9 i else 0) else 0) = (if v_so U n e 9 i = true then sg * v_am U V W c n e 9 i else 0) → XX true 16 210 51 [.ref 153, .int (nI p), .int (iI (v_pay U V W c n e p i)), .int (nI i), ax_junk] [.int (iI sg)] (h) ((some (.int (iI (v_pay U V W c n e p nr))), h)) := by
        intro sg s0 sl sh q
        refine wb_X12_payOf_51 ?_
        rw [if_neg (fun z => s0 (by have := congrArg Int32.toInt z; rw [iI_toInt (by omega) (by omega), nI_toInt (by decide)] at this; omega))]
        refine (cl_X12_payOf_61 rfl (by decide) (sp_isSo s r.2 o he (by omega))).mpr ?_
        refine wb_X12_payOf_64 ?_
        by_cases so : v_so U n e 9 i = true
        · rw [b2i_t so, if_neg (by decide)]
          refine (cl_X12_payOf_76 rfl (by decide) (sp_amountA s w r.2 (by show 0 + 7 * nr ≤ 56; omega) o he (by omega))).mpr ?_
          refine wb_X12_payOf_79 ?_
          rw [iI_mul]
          refine wk_X12_payOf_84 (go _ (q.trans (if_pos so)))
        · rw [b2i_f so, if_pos rfl]
          exact wk_X12_payOf_83 (g0 (q.trans (if_neg so)))
      refine wb_X12_payOf_4 ?_
      rw [r.1, if_pos (nI_lt (by omega) (by omega)), nI_mulI, nI_add, nI_add, ix_nI (by omega), ix_nI (by omega), c3, c4]
      refine ⟨in_nI (by omega) (by decide), ?_⟩
      by_cases q4 : U i 4 = p
      · rw [if_pos (congrArg nI q4), nI_iI 1]
        refine wk_X12_payOf_51 (g1 1 (by decide) (by decide) (by decide) ?_)
        rw [if_pos q4, Int.one_mul]
      · rw [if_neg (fun z => q4 ((nI_eq (by omega) (by omega)).mp z))]
        refine ⟨in_nI (by omega) (by decide), ?_⟩
        by_cases q3 : U i 3 = p
        · rw [if_pos (congrArg nI q3), show -nI 1 = iI (-1) by decide]
          refine wk_X12_payOf_51 (g1 (-1) (by decide) (by decide) (by decide) ?_)
          rw [if_neg q4, if_pos q3, Int.neg_one_mul]
        · rw [if_neg (fun z => q3 ((nI_eq (by omega) (by omega)).mp z))]
          refine wk_X12_payOf_51 ?_
          refine wb_X12_payOf_51 ?_
          rw [if_pos rfl]
          refine wk_X12_payOf_83 (g0 ?_)
          rw [if_neg q4, if_neg q3]
  refine wb_X12_payOf_0 ?_
  rw [nI_iI 0]
  exact wk_X12_payOf_4 (lp nr 0 (by omega))
/-- the sum over the first ways -/
def sumZ (f : Nat → Int) : Nat → Int
  | 0 => 0
  | m + 1 => sumZ f m + f m
theorem sumZ_le {f : Nat → Int} {b : Nat} (hf : ∀ i, -(b : Int) ≤ f i ∧ f i ≤ b) : ∀ m : Nat, -((b * m : Nat) : Int) ≤ sumZ f m ∧ sumZ f m ≤ ((b * m : Nat) : Int)
  | 0 => by show -((b * 0 : Nat) : Int) ≤ 0 ∧ 0 ≤ ((b * 0 : Nat) : Int); omega
  | m + 1 => by
    have ih := sumZ_le hf m
    have h1 := hf m
    show _ ≤ sumZ f m + f m ∧ sumZ f m + f m ≤ _
    rw [Nat.mul_succ]
    omega
/-- what a player gets in all ways that go by plans -/
abbrev v_sumf (c n : Nat) (K P B : Nat → Nat) (ch : Nat → Nat → Nat → Nat) (U : Nat → Nat → Nat) (V W : Nat → Int) (nr but p : Nat) (w : Nat) : Int := if v_pl K P ch but (v_what c K B n w) n = true then v_pay U V W c n (v_what c K B n w) p nr else 0
theorem v_sumf_le (s : okS c n K P B) (r : okR nr U V) (w : ∀ i, i < 5 → -9 ≤ W i ∧ W i ≤ 9) (ch : Nat → Nat → Nat → Nat) (but p i : Nat) : -((14256 : Nat) : Int) ≤ v_sumf c n K P B ch U V W nr but p i ∧ v_sumf c n K P B ch U V W nr but p i ≤ ((14256 : Nat) : Int) := by
  have h1 := v_pay_le (n := n) (c := c) (e := v_what c K B n i) r w (fun a ha => v_what_lt s (Nat.le_refl _) i ha) s.2.1 p nr (Nat.le_refl _)
  have h8 := r.1
  unfold v_sumf
  split <;> omega
theorem sp_sumOf (s : mS c n K P B h) (t : mP np T C h) (w : mW W h) (r : mR nr U V h) {p : Nat} (hp : p < 3) : ∃ h', XX true 17 213 0 [.ref 153, .int (nI p), ax_junk, ax_junk, ax_junk, ax_junk] [] (h) (some (.long (lI (sumZ (v_sumf c n K P B (v_chs np T C B) U V W nr 3 p) (v_ways c K B n)))), h') ∧ fr [(160, none)] h h' := by
  have h6 := s.n6
  have wl := v_ways_le s.1 (Nat.le_refl n)
  have lp : ∀ k i, i + k = v_ways c K B n → ∀ h1, fr [(160, none)] h h1 → ∃ h', XX true 17 213 15 [.ref 153, .int (nI p), .long (lI (sumZ (v_sumf c n K P B (v_chs np T C B) U V W nr 3 p) i)), ax_junk, .int (nI (v_ways c K B n)), .int (nI i)] [] (h1) ((some (.long (lI (sumZ (v_sumf c n K P B (v_chs np T C B) U V W nr 3 p) (v_ways c K B n)))), h')) ∧ fr [(160, none)] h h' := by
    intro k
    induction k with
    | zero =>
      intro i hi h1 f
      obtain rfl : i = v_ways c K B n := hi
      refine ⟨h1, ?_, f⟩
      refine wb_X12_sumOf_15 ?_
      rw [if_neg (nI_nlt (Nat.le_refl _) (by omega))]
    | succ k ih =>
      intro i hi h1 f
      have s1 : mS c n K P B h1 := s.fr f rfl
      obtain ⟨h2, r2, f2, o⟩ := sp_lays s1 (Nat.le_refl _) (w := i) (by omega)
      have s2 : mS c n K P B h2 := s1.fr f2 rfl
      have ft := f.trans f2
      obtain ⟨h', r', f'⟩ := ih (i + 1) (by omega) h2 ft
      refine ⟨h', ?_, f'⟩
      have e1 : sumZ (v_sumf c n K P B (v_chs np T C B) U V W nr 3 p) (i + 1) = sumZ (v_sumf c n K P B (v_chs np T C B) U V W nr 3 p) i + v_sumf c n K P B (v_chs np T C B) U V W nr 3 p i := rfl
      have he : ∀ a, a < n → v_what c K B n i a < 5 := fun a ha => v_what_lt s.1 (Nat.le_refl _) i ha
      rw [e1] at r'
      refine wb_X12_sumOf_15 ?_
      rw [if_pos (nI_lt (by omega) (by omega)), s1.nn]
      refine (cl_X12_sumOf_29 rfl (by decide) (r2)).mpr ?_
      refine wb_X12_sumOf_32 ?_
      rw [s2.nn]
      refine (cl_X12_sumOf_39 rfl (by decide) (sp_isPlayed s2 (t.fr ft rfl) (Nat.le_refl _) o (Nat.le_refl _) he (but := 3) (b := -nI 1) (fun x hx => ⟨fun z => absurd z (nI_ne1 (by omega)), fun z => absurd z (by omega)⟩))).mpr ?_
      refine wb_X12_sumOf_42 ?_
      by_cases q : v_pl K P (v_chs np T C B) 3 (v_what c K B n i) n = true
      · unfold v_sumf at r'
        rw [if_pos q] at r'
        rw [b2i_t q, if_neg (by decide)]
        refine (cl_X12_sumOf_47 rfl (by decide) (sp_payOf s2 (w.fr ft (fun _ => rfl)) (r.fr ft (fun _ => rfl) rfl) o he hp)).mpr ?_
        refine wb_X12_sumOf_50 ?_
        refine wb_X12_sumOf_55 ?_
        have pl := v_pay_le (n := n) (c := c) (e := v_what c K B n i) r.2.1 (fun i hi => (w i hi).2) he s.c5.2 p nr (Nat.le_refl _)
        have h8 := r.2.1.1
        rw [iI_l (by omega) (by omega), lI_add, nI_s]
        exact wk_X12_sumOf_15 r'
      · unfold v_sumf at r'
        rw [if_neg q] at r'
        rw [b2i_f q, if_pos rfl]
        refine wb_X12_sumOf_55 ?_
        rw [lN_lI 0, lI_add, nI_s]
        exact wk_X12_sumOf_15 r'
  obtain ⟨h', r', f⟩ := lp _ 0 (Nat.zero_add _) h fr.rfl'
  refine ⟨h', ?_, f⟩
  refine wb_X12_sumOf_0 ?_
  rw [s.nn]
  refine (cl_X12_sumOf_7 rfl (by decide) (sp_waysBehind s (Nat.le_refl _))).mpr ?_
  refine wb_X12_sumOf_10 ?_
  rw [lN_lI 0]
  exact wk_X12_sumOf_15 r'
end S26
