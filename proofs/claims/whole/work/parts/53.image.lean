/-! THE REFERENCE'S CALLS: an image -/
/-- which cell goes to place k of what is kept -/
def mpA (k : Nat) : Nat := if k < 4 then 153 else if k < 9 then 154 else if k < 15 then 155 else if k < 21 then 156 else if k < 27 then 157 else if k < 187 then 158 else 159
def mpI (k : Nat) : Nat := if k = 0 then 0 else if k = 1 then 2 else if k = 2 then 6 else if k = 3 then 8 else if k < 9 then k - 4 else if k < 15 then k - 9 else if k < 21 then k - 15 else if k < 27 then k - 21 else if k < 187 then k - 27 else k - 187
def mpQ (a i : Nat) : Nat := if a = 153 then (if i = 0 then 0 else if i = 2 then 1 else if i = 6 then 2 else 3) else if a = 154 then i + 4 else if a = 155 then i + 9 else if a = 156 then i + 15 else if a = 157 then i + 21 else if a = 158 then i + 27 else i + 187
theorem mpQ_p : ∀ k, k < 243 → mpQ (mpA k) (mpI k) = k ∧ mpA k < 160 ∧ ¬ (mpA k = 153 ∧ mpI k = 43) ∧ ¬ (mpA k = 153 ∧ mpI k = 44) := by decide +kernel
theorem mp_ne {j k : Nat} (hj : j < 243) (hk : k < 243) (h : j ≠ k) : ¬ (mpA j = mpA k ∧ mpI j = mpI k) := by
  intro z
  apply h
  rw [← (mpQ_p j hj).1, ← (mpQ_p k hk).1, z.1, z.2]
abbrev frIm : List (Nat × Option Nat) := [(153, some 0), (153, some 2), (153, some 6), (153, some 8), (154, none), (155, none), (156, none), (157, none), (158, none), (159, none), (180, none), (153, some 43), (153, some 44)]
theorem mp_fr : ∀ k, k < 243 → inS frIm (mpA k) (mpI k) = true := by decide +kernel
/-- the content that place k has behind -/
def v_kp (b : Nat) (h : AH) (k : Nat) : Int32 := if b = 1 then hI h (mpA k) (mpI k) else hI h 180 k
def v_inv (b : Nat) (h : AH) (k : Nat) (h1 : AH) : Prop := hI h1 153 43 = nI k ∧ hI h1 153 44 = nI b ∧ fr frIm h h1 ∧ ∀ j, j < 243 → (j < k → hI h1 (mpA j) (mpI j) = v_kp b h j ∧ hI h1 180 j = v_kp b h j) ∧ (¬ j < k → hI h1 (mpA j) (mpI j) = hI h (mpA j) (mpI j) ∧ hI h1 180 j = hI h 180 j)
section S53
variable {c n np nr : Nat} {K P B T C : Nat → Nat} {U : Nat → Nat → Nat} {V W : Nat → Int} {h h' : AH}
abbrev v_nx (h1 : AH) (k : Nat) (v : Int32) : AH := ax_wr (ax_wr h1 180 k (.int v)) 153 43 (.int (nI (k + 1)))
theorem sp_passes {b k : Nat} {h1 : AH} (i : v_inv b h k h1) (hb : b < 2) (hk : k < 243) {v : Int32} (hv : v = hI h1 (mpA k) (mpI k)) : XX true 1 252 0 [.ref 153, .int (v), ax_junk] [] (h1) (some (.int (v_kp b h k)), v_nx h1 k (v_kp b h k)) := by
  obtain ⟨i1, i2, i3, i4⟩ := i
  have g := (i4 k hk).2 (Nat.lt_irrefl _)
  have go : XX true 1 252 20 [.ref 153, ax_junk, ax_junk] [.int (v_kp b h k)] (h1) ((some (.int (v_kp b h k)), v_nx h1 k (v_kp b h k))) := by
    refine wb_X12_passes_20 ?_
    rw [i1, ix_nI (by omega)]
    refine ⟨in_nI hk (by decide), ?_⟩
    rw [wr_Ia (by decide), i1, nI_s]
  have e : v_kp b h k = if b = 1 then v else hI h1 180 k := by
    unfold v_kp
    rw [hv, g.1, g.2]
  refine wb_X12_passes_0 ?_
  rw [i1, i2]
  by_cases z : b = 1
  · rw [if_pos z] at e
    rw [if_neg (nI_z (by omega) (by omega)), ← e]
    exact wk_X12_passes_20 go
  · rw [if_neg z] at e
    rw [if_pos (by rw [show b = 0 by omega]), ix_nI (by omega), ← e]
    exact ⟨in_nI hk (by decide), wk_X12_passes_20 go⟩
theorem v_inv.put {b k : Nat} {h1 : AH} (i : v_inv b h k h1) (hk : k < 243) : v_inv b h (k + 1) (ax_wr (v_nx h1 k (v_kp b h k)) (mpA k) (mpI k) (.int (v_kp b h k))) := by
  obtain ⟨i1, i2, i3, i4⟩ := i
  have q := mpQ_p k hk
  refine ⟨?_, ?_, ((i3.wr' rfl).wr' rfl).wr' (mp_fr k hk), fun j hj => ?_⟩
  · rw [wr_In (fun z => q.2.2.1 ⟨z.1.symm, z.2.symm⟩), wr_I]
  · rw [wr_In (fun z => q.2.2.2 ⟨z.1.symm, z.2.symm⟩), wr_Ij (by decide), wr_Ia (by decide), i2]
  · have qj := mpQ_p j hj
    have ea : hI (ax_wr (v_nx h1 k (v_kp b h k)) (mpA k) (mpI k) (.int (v_kp b h k))) 180 j = if j = k then v_kp b h k else hI h1 180 j := by
      rw [wr_Ia (by omega), wr_Ia (by decide)]
      by_cases z : j = k
      · rw [z, wr_I, if_pos rfl]
      · rw [wr_Ij z, if_neg z]
    have eb : hI (ax_wr (v_nx h1 k (v_kp b h k)) (mpA k) (mpI k) (.int (v_kp b h k))) (mpA j) (mpI j) = if j = k then v_kp b h k else hI h1 (mpA j) (mpI j) := by
      by_cases z : j = k
      · rw [z, wr_I, if_pos rfl]
      · rw [wr_In (mp_ne hj hk z), wr_In (fun y => qj.2.2.1 y), wr_Ia (by omega), if_neg z]
    rw [ea, eb]
    have g := i4 j hj
    refine ⟨fun z => ?_, fun z => ?_⟩
    · by_cases y : j = k
      · rw [if_pos y, if_pos y, y]
        exact ⟨rfl, rfl⟩
      · rw [if_neg y, if_neg y]
        exact g.1 (by omega)
    · rw [if_neg (by omega), if_neg (by omega)]
      exact g.2 (by omega)
theorem mp_154 : ∀ i, i < 5 → mpA (4 + i) = 154 ∧ mpI (4 + i) = i := by decide +kernel
theorem sp_passesRow154 {b : Nat} {h1 : AH} (i : v_inv b h 4 h1) (hb : b < 2) : ∃ h', XX true 2 253 0 [.ref 153, .ref 154, ax_junk] [] (h1) (none, h') ∧ v_inv b h (4 + 5) h' := by
  have lp : ∀ k i, i + k = 5 → ∀ h1, v_inv b h (4 + i) h1 → ∃ h', XX true 2 253 2 [.ref 153, .ref 154, .int (nI i)] [] (h1) ((none, h')) ∧ v_inv b h (4 + 5) h' := by
    intro k
    induction k with
    | zero =>
      intro i hi h1 v
      obtain rfl : i = 5 := hi
      refine ⟨h1, ?_, v⟩
      refine wb_X12_passesRowR154_2 ?_
      rw [if_neg (by decide)]
    | succ k ih =>
      intro i hi h1 v
      have e := mp_154 i (by omega)
      have sp := sp_passes v hb (by omega) rfl
      have p := v.put (by omega)
      rw [e.1, e.2] at sp p
      obtain ⟨h', x, y⟩ := ih (i + 1) (by omega) _ p
      refine ⟨h', ?_, y⟩
      refine wb_X12_passesRowR154_2 ?_
      rw [if_pos (nI_lt (by omega) (by omega)), ix_nI (by omega)]
      refine ⟨in_nI (by omega) (by decide), ?_⟩
      refine (cl_X12_passesRowR154_14 rfl (by decide) (sp)).mpr ?_
      refine wb_X12_passesRowR154_17 ?_
      rw [ix_nI (by omega), nI_s]
      exact ⟨in_nI (by omega) (by decide), x⟩
  obtain ⟨h', x, y⟩ := lp 5 0 (by omega) h1 i
  refine ⟨h', ?_, y⟩
  refine wb_X12_passesRowR154_0 ?_
  exact x
theorem mp_155 : ∀ i, i < 6 → mpA (9 + i) = 155 ∧ mpI (9 + i) = i := by decide +kernel
theorem sp_passesRow155 {b : Nat} {h1 : AH} (i : v_inv b h 9 h1) (hb : b < 2) : ∃ h', XX true 2 253 0 [.ref 153, .ref 155, ax_junk] [] (h1) (none, h') ∧ v_inv b h (9 + 6) h' := by
  have lp : ∀ k i, i + k = 6 → ∀ h1, v_inv b h (9 + i) h1 → ∃ h', XX true 2 253 2 [.ref 153, .ref 155, .int (nI i)] [] (h1) ((none, h')) ∧ v_inv b h (9 + 6) h' := by
    intro k
    induction k with
    | zero =>
      intro i hi h1 v
      obtain rfl : i = 6 := hi
      refine ⟨h1, ?_, v⟩
      refine wb_X12_passesRowR155_2 ?_
      rw [if_neg (by decide)]
    | succ k ih =>
      intro i hi h1 v
      have e := mp_155 i (by omega)
      have sp := sp_passes v hb (by omega) rfl
      have p := v.put (by omega)
      rw [e.1, e.2] at sp p
      obtain ⟨h', x, y⟩ := ih (i + 1) (by omega) _ p
      refine ⟨h', ?_, y⟩
      refine wb_X12_passesRowR155_2 ?_
      rw [if_pos (nI_lt (by omega) (by omega)), ix_nI (by omega)]
      refine ⟨in_nI (by omega) (by decide), ?_⟩
      refine (cl_X12_passesRowR155_14 rfl (by decide) (sp)).mpr ?_
      refine wb_X12_passesRowR155_17 ?_
      rw [ix_nI (by omega), nI_s]
      exact ⟨in_nI (by omega) (by decide), x⟩
  obtain ⟨h', x, y⟩ := lp 6 0 (by omega) h1 i
  refine ⟨h', ?_, y⟩
  refine wb_X12_passesRowR155_0 ?_
  exact x
theorem mp_156 : ∀ i, i < 6 → mpA (15 + i) = 156 ∧ mpI (15 + i) = i := by decide +kernel
theorem sp_passesRow156 {b : Nat} {h1 : AH} (i : v_inv b h 15 h1) (hb : b < 2) : ∃ h', XX true 2 253 0 [.ref 153, .ref 156, ax_junk] [] (h1) (none, h') ∧ v_inv b h (15 + 6) h' := by
  have lp : ∀ k i, i + k = 6 → ∀ h1, v_inv b h (15 + i) h1 → ∃ h', XX true 2 253 2 [.ref 153, .ref 156, .int (nI i)] [] (h1) ((none, h')) ∧ v_inv b h (15 + 6) h' := by
    intro k
    induction k with
    | zero =>
      intro i hi h1 v
      obtain rfl : i = 6 := hi
      refine ⟨h1, ?_, v⟩
      refine wb_X12_passesRowR156_2 ?_
      rw [if_neg (by decide)]
    | succ k ih =>
      intro i hi h1 v
      have e := mp_156 i (by omega)
      have sp := sp_passes v hb (by omega) rfl
      have p := v.put (by omega)
      rw [e.1, e.2] at sp p
      obtain ⟨h', x, y⟩ := ih (i + 1) (by omega) _ p
      refine ⟨h', ?_, y⟩
      refine wb_X12_passesRowR156_2 ?_
      rw [if_pos (nI_lt (by omega) (by omega)), ix_nI (by omega)]
      refine ⟨in_nI (by omega) (by decide), ?_⟩
      refine (cl_X12_passesRowR156_14 rfl (by decide) (sp)).mpr ?_
      refine wb_X12_passesRowR156_17 ?_
      rw [ix_nI (by omega), nI_s]
      exact ⟨in_nI (by omega) (by decide), x⟩
  obtain ⟨h', x, y⟩ := lp 6 0 (by omega) h1 i
  refine ⟨h', ?_, y⟩
  refine wb_X12_passesRowR156_0 ?_
  exact x
theorem mp_157 : ∀ i, i < 6 → mpA (21 + i) = 157 ∧ mpI (21 + i) = i := by decide +kernel
theorem sp_passesRow157 {b : Nat} {h1 : AH} (i : v_inv b h 21 h1) (hb : b < 2) : ∃ h', XX true 2 253 0 [.ref 153, .ref 157, ax_junk] [] (h1) (none, h') ∧ v_inv b h (21 + 6) h' := by
  have lp : ∀ k i, i + k = 6 → ∀ h1, v_inv b h (21 + i) h1 → ∃ h', XX true 2 253 2 [.ref 153, .ref 157, .int (nI i)] [] (h1) ((none, h')) ∧ v_inv b h (21 + 6) h' := by
    intro k
    induction k with
    | zero =>
      intro i hi h1 v
      obtain rfl : i = 6 := hi
      refine ⟨h1, ?_, v⟩
      refine wb_X12_passesRowR157_2 ?_
      rw [if_neg (by decide)]
    | succ k ih =>
      intro i hi h1 v
      have e := mp_157 i (by omega)
      have sp := sp_passes v hb (by omega) rfl
      have p := v.put (by omega)
      rw [e.1, e.2] at sp p
      obtain ⟨h', x, y⟩ := ih (i + 1) (by omega) _ p
      refine ⟨h', ?_, y⟩
      refine wb_X12_passesRowR157_2 ?_
      rw [if_pos (nI_lt (by omega) (by omega)), ix_nI (by omega)]
      refine ⟨in_nI (by omega) (by decide), ?_⟩
      refine (cl_X12_passesRowR157_14 rfl (by decide) (sp)).mpr ?_
      refine wb_X12_passesRowR157_17 ?_
      rw [ix_nI (by omega), nI_s]
      exact ⟨in_nI (by omega) (by decide), x⟩
  obtain ⟨h', x, y⟩ := lp 6 0 (by omega) h1 i
  refine ⟨h', ?_, y⟩
  refine wb_X12_passesRowR157_0 ?_
  exact x
theorem mp_158 : ∀ i, i < 160 → mpA (27 + i) = 158 ∧ mpI (27 + i) = i := by decide +kernel
theorem sp_passesRow158 {b : Nat} {h1 : AH} (i : v_inv b h 27 h1) (hb : b < 2) : ∃ h', XX true 2 253 0 [.ref 153, .ref 158, ax_junk] [] (h1) (none, h') ∧ v_inv b h (27 + 160) h' := by
  have lp : ∀ k i, i + k = 160 → ∀ h1, v_inv b h (27 + i) h1 → ∃ h', XX true 2 253 2 [.ref 153, .ref 158, .int (nI i)] [] (h1) ((none, h')) ∧ v_inv b h (27 + 160) h' := by
    intro k
    induction k with
    | zero =>
      intro i hi h1 v
      obtain rfl : i = 160 := hi
      refine ⟨h1, ?_, v⟩
      refine wb_X12_passesRowR158_2 ?_
      rw [if_neg (by decide)]
    | succ k ih =>
      intro i hi h1 v
      have e := mp_158 i (by omega)
      have sp := sp_passes v hb (by omega) rfl
      have p := v.put (by omega)
      rw [e.1, e.2] at sp p
      obtain ⟨h', x, y⟩ := ih (i + 1) (by omega) _ p
      refine ⟨h', ?_, y⟩
      refine wb_X12_passesRowR158_2 ?_
      rw [if_pos (nI_lt (by omega) (by omega)), ix_nI (by omega)]
      refine ⟨in_nI (by omega) (by decide), ?_⟩
      refine (cl_X12_passesRowR158_14 rfl (by decide) (sp)).mpr ?_
      refine wb_X12_passesRowR158_17 ?_
      rw [ix_nI (by omega), nI_s]
      exact ⟨in_nI (by omega) (by decide), x⟩
  obtain ⟨h', x, y⟩ := lp 160 0 (by omega) h1 i
  refine ⟨h', ?_, y⟩
  refine wb_X12_passesRowR158_0 ?_
  exact x
theorem mp_159 : ∀ i, i < 56 → mpA (187 + i) = 159 ∧ mpI (187 + i) = i := by decide +kernel
theorem sp_passesRow159 {b : Nat} {h1 : AH} (i : v_inv b h 187 h1) (hb : b < 2) : ∃ h', XX true 2 253 0 [.ref 153, .ref 159, ax_junk] [] (h1) (none, h') ∧ v_inv b h (187 + 56) h' := by
  have lp : ∀ k i, i + k = 56 → ∀ h1, v_inv b h (187 + i) h1 → ∃ h', XX true 2 253 2 [.ref 153, .ref 159, .int (nI i)] [] (h1) ((none, h')) ∧ v_inv b h (187 + 56) h' := by
    intro k
    induction k with
    | zero =>
      intro i hi h1 v
      obtain rfl : i = 56 := hi
      refine ⟨h1, ?_, v⟩
      refine wb_X12_passesRowR159_2 ?_
      rw [if_neg (by decide)]
    | succ k ih =>
      intro i hi h1 v
      have e := mp_159 i (by omega)
      have sp := sp_passes v hb (by omega) rfl
      have p := v.put (by omega)
      rw [e.1, e.2] at sp p
      obtain ⟨h', x, y⟩ := ih (i + 1) (by omega) _ p
      refine ⟨h', ?_, y⟩
      refine wb_X12_passesRowR159_2 ?_
      rw [if_pos (nI_lt (by omega) (by omega)), ix_nI (by omega)]
      refine ⟨in_nI (by omega) (by decide), ?_⟩
      refine (cl_X12_passesRowR159_14 rfl (by decide) (sp)).mpr ?_
      refine wb_X12_passesRowR159_17 ?_
      rw [ix_nI (by omega), nI_s]
      exact ⟨in_nI (by omega) (by decide), x⟩
  obtain ⟨h', x, y⟩ := lp 56 0 (by omega) h1 i
  refine ⟨h', ?_, y⟩
  refine wb_X12_passesRowR159_0 ?_
  exact x
theorem sp_passesAll {b : Nat} (hb : b < 2) : ∃ h', XX true 3 251 0 [.ref 153, .int (nI b)] [] (h) (none, h') ∧ v_inv b h 243 h' := by
  have v0 : v_inv b h 0 (ax_wr (ax_wr h 153 44 (.int (nI b))) 153 43 (.int (nI 0))) := by
    refine ⟨wr_I _ _ _ _, by rw [wr_Ij (by decide), wr_I], (fr.wr rfl).wr' rfl, fun j hj => ⟨fun z => absurd z (Nat.not_lt_zero _), fun _ => ?_⟩⟩
    have q := mpQ_p j hj
    refine ⟨?_, ?_⟩
    · rw [wr_In q.2.2.1, wr_In q.2.2.2]
    · rw [wr_Ia (by decide), wr_Ia (by decide)]
  have v1 := v0.put (by decide)
  have v2 := v1.put (by decide)
  have v3 := v2.put (by decide)
  have v4 := v3.put (by decide)
  have s0 := sp_passes v0 hb (by decide) rfl
  have s1 := sp_passes v1 hb (by decide) rfl
  have s2 := sp_passes v2 hb (by decide) rfl
  have s3 := sp_passes v3 hb (by decide) rfl
  obtain ⟨h5, r5, v5⟩ := sp_passesRow154 v4 hb
  obtain ⟨h6, r6, v6⟩ := sp_passesRow155 v5 hb
  obtain ⟨h7, r7, v7⟩ := sp_passesRow156 v6 hb
  obtain ⟨h8, r8, v8⟩ := sp_passesRow157 v7 hb
  obtain ⟨h9, r9, v9⟩ := sp_passesRow158 v8 hb
  obtain ⟨h10, r10, v10⟩ := sp_passesRow159 v9 hb
  refine ⟨h10, ?_, v10⟩
  refine wb_X12_passesAll_0 (by have : b = 0 ∨ b = 1 := by omega
                                rcases this with rfl | rfl
                                · exact Or.inl rfl
                                · exact Or.inr rfl) ?_
  refine (cl_X12_passesAll_16 rfl (by decide) (s0)).mpr ?_
  refine wb_X12_passesAll_19 ?_
  refine (cl_X12_passesAll_28 rfl (by decide) (s1)).mpr ?_
  refine wb_X12_passesAll_31 ?_
  refine (cl_X12_passesAll_40 rfl (by decide) (s2)).mpr ?_
  refine wb_X12_passesAll_43 ?_
  refine (cl_X12_passesAll_52 rfl (by decide) (s3)).mpr ?_
  refine wb_X12_passesAll_55 ?_
  refine (cl_X12_passesAll_63 rfl (by decide) (r5)).mpr ?_
  refine wb_X12_passesAll_66 ?_
  refine (cl_X12_passesAll_71 rfl (by decide) (r6)).mpr ?_
  refine wb_X12_passesAll_74 ?_
  refine (cl_X12_passesAll_79 rfl (by decide) (r7)).mpr ?_
  refine wb_X12_passesAll_82 ?_
  refine (cl_X12_passesAll_87 rfl (by decide) (r8)).mpr ?_
  refine wb_X12_passesAll_90 ?_
  refine (cl_X12_passesAll_95 rfl (by decide) (r9)).mpr ?_
  refine wb_X12_passesAll_98 ?_
  refine (cl_X12_passesAll_103 rfl (by decide) (r10)).mpr ?_
  refine wb_X12_passesAll_106 ?_
  rfl
/-- the same words in all that is kept -/
def sameM (g h : AH) : Prop := (∀ k, k < 243 → hI h (mpA k) (mpI k) = hI g (mpA k) (mpI k)) ∧ hL h 153 10 = hL g 153 10
theorem sameM.a {g : AH} (s : sameM g h) {k a i : Nat} (hk : k < 243) (e : mpA k = a ∧ mpI k = i) : hI h a i = hI g a i := by
  have := s.1 k hk
  rw [e.1, e.2] at this
  exact this
theorem mS.sm (s : mS c n K P B h) (q : sameM h h') : mS c n K P B h' := by
  have h6 := s.n6
  exact ⟨s.1, (q.a (k := 0) (by decide) ⟨rfl, rfl⟩).trans s.cc, (q.a (k := 1) (by decide) ⟨rfl, rfl⟩).trans s.nn, fun i hi => ⟨(q.a (by omega) (mp_155 i (by omega))).trans (s.KK hi), (q.a (by omega) (mp_156 i (by omega))).trans (s.PP hi), (q.a (by omega) (mp_157 i (by omega))).trans (s.BB hi)⟩⟩
theorem mW.sm (s : mW W h) (q : sameM h h') : mW W h' := fun i hi => ⟨(q.a (by omega) (mp_154 i (by omega))).trans (s i hi).1, (s i hi).2⟩
theorem mP.sm (s : mP np T C h) (q : sameM h h') : mP np T C h' := by
  have h40 := s.1
  refine ⟨s.1, (q.a (k := 2) (by decide) ⟨rfl, rfl⟩).trans s.2.1, fun k hk => ?_⟩
  have g := s.2.2 k hk
  exact ⟨g.1, g.2.1, (q.a (by omega) (mp_158 _ (by omega))).trans g.2.2.1, (q.a (by omega) (mp_158 _ (by omega))).trans g.2.2.2.1, (q.a (by omega) (mp_158 _ (by omega))).trans g.2.2.2.2.1, (q.a (by omega) (mp_158 _ (by omega))).trans g.2.2.2.2.2⟩
theorem mR.sm (s : mR nr U V h) (q : sameM h h') : mR nr U V h' := by
  have h8 := s.2.1.1
  refine ⟨(q.a (k := 3) (by decide) ⟨rfl, rfl⟩).trans s.1, s.2.1, fun i hi => ⟨fun f hf => ?_, ?_⟩⟩
  · exact (q.a (by omega) (mp_159 _ (by omega))).trans ((s.2.2 i hi).1 f hf)
  · exact (q.a (by omega) (mp_159 _ (by omega))).trans (s.2.2 i hi).2
theorem mK.sm {sk : Nat} (s : mK sk h) (q : sameM h h') : mK sk h' := ⟨q.2.trans s.1, s.2⟩
/-- what is kept is what lay there in heap g -/
def mIm (g h : AH) : Prop := (∀ k, k < 243 → hI h 180 k = hI g (mpA k) (mpI k)) ∧ hL h 153 42 = hL g 153 10
theorem mIm.fr {g : AH} (s : mIm g h) {L : List (Nat × Option Nat)} (f : fr L h h') (q1 : ∀ j, inS L 180 j = false) (q2 : inS L 153 42 = false) : mIm g h' := ⟨fun k hk => (f.I (q1 _)).trans (s.1 k hk), (f.L q2).trans s.2⟩
abbrev frIn : List (Nat × Option Nat) := [(153, some 0), (153, some 2), (153, some 6), (153, some 8), (154, none), (155, none), (156, none), (157, none), (158, none), (159, none), (180, none), (153, some 43), (153, some 44), (153, some 40), (153, some 42), (153, some 10)]
theorem mo_image (s : mS c n K P B h) : ∃ h', XX true 4 250 0 [.ref 153] [] (h) (some (.int (nI n)), h') ∧ fr frIn h h' ∧ hI h' 153 40 = nI 1 ∧ sameM h h' ∧ mIm h h' := by
  have e1 : ∀ j, j < 243 → hI (ax_wr h 153 40 (.int (nI 1))) (mpA j) (mpI j) = hI h (mpA j) (mpI j) := by
    intro j hj
    refine wr_In ?_
    have : ∀ k, k < 243 → ¬ (mpA k = 153 ∧ mpI k = 40) := by decide +kernel
    exact this j hj
  obtain ⟨h1, r, v⟩ := sp_passesAll (h := ax_wr h 153 40 (.int (nI 1))) (b := 1) (by decide)
  obtain ⟨v1, v2, v3, v4⟩ := v
  have e2 : ∀ j, j < 243 → hI h1 (mpA j) (mpI j) = hI h (mpA j) (mpI j) ∧ hI h1 180 j = hI h (mpA j) (mpI j) := by
    intro j hj
    have g := (v4 j hj).1 hj
    unfold v_kp at g
    rw [if_pos rfl, e1 j hj] at g
    exact g
  have e3 : hL h1 153 10 = hL h 153 10 := (v3.L rfl).trans (wr_Ln (by decide))
  have e4 : hI h1 153 2 = nI n := (e2 1 (by decide)).1.trans s.nn
  have e5 : ∀ j, j < 243 → ¬ (mpA j = 153 ∧ mpI j = 42) := by decide +kernel
  refine ⟨ax_wr h1 153 42 (.long (hL h 153 10)), ?_, (((fr.wr rfl).trans (v3.mono rfl)).wr' rfl), ?_, ⟨fun k hk => ?_, ?_⟩, ⟨fun k hk => ?_, ?_⟩⟩
  · refine wb_X12_image_0 ?_
    refine (cl_X12_image_7 rfl (by decide) (r)).mpr ?_
    refine wb_X12_image_10 ?_
    rw [e3, wr_Ij (by decide), e4]
  · rw [wr_Ij (by decide), v3.I rfl, wr_I]
  · rw [wr_In (e5 k hk)]
    exact (e2 k hk).1
  · rw [wr_Ln (by decide), e3]
  · rw [wr_Ia (by decide)]
    exact (e2 k hk).2
  · rw [wr_L]
theorem mo_back0 (z : hI h 153 40 = nI 0) : XX true 4 254 0 [.ref 153] [] (h) (some (.int (-nI 3)), h) := by
  refine wb_X12_back_0 ?_
  rw [z, if_pos rfl]
theorem mo_back {g : AH} (z : hI h 153 40 = nI 1) (i : mIm g h) (s : mS c n K P B g) : ∃ h', XX true 4 254 0 [.ref 153] [] (h) (some (.int (nI n)), h') ∧ fr frIn h h' ∧ hI h' 153 40 = nI 1 ∧ sameM g h' ∧ mIm g h' := by
  obtain ⟨h1, r, v⟩ := sp_passesAll (h := h) (b := 0) (by decide)
  obtain ⟨v1, v2, v3, v4⟩ := v
  have e2 : ∀ j, j < 243 → hI h1 (mpA j) (mpI j) = hI g (mpA j) (mpI j) ∧ hI h1 180 j = hI g (mpA j) (mpI j) := by
    intro j hj
    have g := (v4 j hj).1 hj
    unfold v_kp at g
    rw [if_neg (by decide), i.1 j hj] at g
    exact g
  have e3 : hL h1 153 42 = hL g 153 10 := (v3.L rfl).trans i.2
  have e4 : hI h1 153 2 = nI n := (e2 1 (by decide)).1.trans s.nn
  have e5 : ∀ j, j < 243 → ¬ (mpA j = 153 ∧ mpI j = 10) := by decide +kernel
  refine ⟨ax_wr h1 153 10 (.long (hL g 153 10)), ?_, (v3.mono rfl).wr' rfl, ?_, ⟨fun k hk => ?_, ?_⟩, ⟨fun k hk => ?_, ?_⟩⟩
  · refine wb_X12_back_0 ?_
    rw [z, if_neg (by decide)]
    refine (cl_X12_back_12 rfl (by decide) (r)).mpr ?_
    refine wb_X12_back_15 ?_
    rw [e3, wr_Ij (by decide), e4]
  · rw [wr_Ij (by decide), v3.I rfl, z]
  · rw [wr_In (e5 k hk)]
    exact (e2 k hk).1
  · rw [wr_L]
  · rw [wr_Ia (by decide)]
    exact (e2 k hk).2
  · rw [wr_Ln (by decide), e3]
end S53
