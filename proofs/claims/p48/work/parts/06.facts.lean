/-! THE TABLES ARE THE STATEMENT's: each link of ax_* is a word of lw_tbl -/
/-- the words of the first list stand in the second, in this order -/
def ax_sub : List Cond → List Cond → Bool
  | [], _ => true
  | _ :: _, [] => false
  | x :: l, y :: r => if x = y then ax_sub l r else ax_sub (x :: l) r
theorem ax_sub_mem : ∀ (r l : List Cond), ax_sub l r = true → ∀ w ∈ l, w ∈ r
  | _, [], _, w, hw => absurd hw List.not_mem_nil
  | [], _ :: _, h, _, _ => by cases h
  | y :: r, x :: l, h, w, hw => by
    unfold ax_sub at h
    split at h
    · rename_i he
      rcases List.mem_cons.mp hw with q | q
      · rw [q, he]; exact List.mem_cons_self
      · exact List.mem_cons_of_mem _ (ax_sub_mem r l h w q)
    · exact List.mem_cons_of_mem _ (ax_sub_mem r (x :: l) h w hw)
theorem ax_lookup_mem {α β : Type} [BEq α] [LawfulBEq α] {l : List (α × β)} {a : α} {b : β} (h : l.lookup a = some b) : (a, b) ∈ l := by
  induction l with
  | nil => cases h
  | cons x t ih =>
    obtain ⟨x1, x2⟩ := x
    simp only [List.lookup] at h
    split at h
    · rename_i he
      have := eq_of_beq he
      cases h
      subst this
      exact List.mem_cons_self
    · exact List.mem_cons_of_mem _ (ih h)
def ax_fldW (q : (Nat × Nat) × (Nat × Nat)) : Cond := .fieldLink (ax_nm q.1.1) q.1.2 (ax_fT q.2.1 q.2.2).1 (ax_fT q.2.1 q.2.2).2.1 (ax_fT q.2.1 q.2.2).2.2.1
set_option maxRecDepth 100000 in
theorem ax_fldT_ok : ax_sub (ax_fldT.map ax_fldW) lw_tbl = true := by decide +kernel
theorem ax_fldT_ok2 : (ax_fldT.all fun q => (decide (q.2.1 < 14) && decide (q.2.2 < ax_nf q.2.1))) = true := by decide +kernel
theorem ax_fld_in {o i : Nat} {q : Nat × Nat} (h : ax_fld o i = some q) : Cond.fieldLink (ax_nm o) i (ax_fT q.1 q.2).1 (ax_fT q.1 q.2).2.1 (ax_fT q.1 q.2).2.2.1 ∈ lw_tbl ∧ q.1 < 14 ∧ q.2 < ax_nf q.1 := by
  have hm := ax_lookup_mem h
  have h1 := List.all_eq_true.mp ax_fldT_ok2 _ hm
  simp only [Bool.and_eq_true, decide_eq_true_eq] at h1
  exact ⟨ax_sub_mem _ _ ax_fldT_ok _ (List.mem_map.mpr ⟨_, hm, rfl⟩), h1⟩
def ax_stW (q : (Nat × Nat) × (String × String × String)) : Cond := .fieldLink (ax_nm q.1.1) q.1.2 q.2.1 q.2.2.1 q.2.2.2
set_option maxRecDepth 100000 in
theorem ax_stN_ok : ax_sub (ax_stN.map ax_stW) lw_tbl = true := by decide +kernel
theorem ax_stT_ok : (ax_stT.all fun q => (ax_stN.lookup q.1).isSome) = true := by decide +kernel
theorem ax_sta_in {o i : Nat} {v : Value} (h : ax_sta o i = some v) : ((o, i), v) ∈ ax_stT ∧ ∃ n, ax_stN.lookup (o, i) = some n ∧ Cond.fieldLink (ax_nm o) i n.1 n.2.1 n.2.2 ∈ lw_tbl := by
  have hm := ax_lookup_mem h
  have h1 := List.all_eq_true.mp ax_stT_ok _ hm
  refine ⟨hm, ?_⟩
  obtain ⟨n, hn⟩ := Option.isSome_iff_exists.mp h1
  refine ⟨n, hn, ?_⟩
  have hm2 := ax_lookup_mem hn
  exact ax_sub_mem _ _ ax_stN_ok _ (List.mem_map.mpr ⟨_, hm2, rfl⟩)
def ax_ldW (q : (Nat × Nat) × Value) : Option Cond := match q.2 with
  | .int v => some (.constant (ax_nm q.1.1) q.1.2 v)
  | .long v => some (.constantLong (ax_nm q.1.1) q.1.2 v)
  | .double v => some (.constantDouble (ax_nm q.1.1) q.1.2 v)
  | _ => none
set_option maxRecDepth 100000 in
theorem ax_ldT_ok : ax_sub (ax_ldT.filterMap ax_ldW) lw_tbl = true := by decide +kernel
theorem ax_ldT_ok2 : (ax_ldT.all fun q => (match q.2 with
  | .ref k => decide (k < 49 ∧ k ≠ 9)
  | _ => true)) = true := by decide +kernel
theorem ax_ldc_in {o i : Nat} {v : Value} (h : ax_ldc o i = some v) : ((o, i), v) ∈ ax_ldT ∧ (∀ x, v = .int x → Cond.constant (ax_nm o) i x ∈ lw_tbl) ∧ (∀ x, v = .long x → Cond.constantLong (ax_nm o) i x ∈ lw_tbl) ∧ (∀ x, v = .double x → Cond.constantDouble (ax_nm o) i x ∈ lw_tbl) ∧ (∀ k, v = .ref k → k < 49 ∧ k ≠ 9) := by
  have hm := ax_lookup_mem h
  have h1 := List.all_eq_true.mp ax_ldT_ok2 _ hm
  refine ⟨hm, fun x e => ?_, fun x e => ?_, fun x e => ?_, fun x e => ?_⟩ <;> subst e
  · exact ax_sub_mem _ _ ax_ldT_ok _ (List.mem_filterMap.mpr ⟨_, hm, rfl⟩)
  · exact ax_sub_mem _ _ ax_ldT_ok _ (List.mem_filterMap.mpr ⟨_, hm, rfl⟩)
  · exact ax_sub_mem _ _ ax_ldT_ok _ (List.mem_filterMap.mpr ⟨_, hm, rfl⟩)
  · simpa using h1
set_option maxRecDepth 100000 in
theorem ax_newT_ok : ax_sub (ax_newT.map fun q => Cond.classLink (ax_nm q.1.1) q.1.2 (ax_nm q.2)) lw_tbl = true := by decide +kernel
theorem ax_new_in {o i c : Nat} (h : ax_new o i = some c) : Cond.classLink (ax_nm o) i (ax_nm c) ∈ lw_tbl :=
  ax_sub_mem _ _ ax_newT_ok _ (List.mem_map.mpr ⟨_, ax_lookup_mem h, rfl⟩)
set_option maxRecDepth 100000 in
theorem ax_ins_ok : ax_sub ([10, 1, 7, 2, 4, 3, 8, 5, 9, 0, 11, 6].map fun c => Cond.instantiable (ax_nm c) (ax_nf c)) lw_tbl = true ∧ ax_sub ([18, 10, 1, 7, 2, 4, 3, 8, 5, 11, 13, 12, 6, 14, 9, 0].map fun c => Cond.initialized (ax_nm c)) lw_tbl = true := by decide +kernel
theorem ax_ins_in {c : Nat} (hc : c < 12) : Cond.instantiable (ax_nm c) (ax_nf c) ∈ lw_tbl := ax_sub_mem _ _ ax_ins_ok.1 _ (List.mem_map.mpr ⟨c, (by decide : ∀ c, c < 12 → c ∈ ([10, 1, 7, 2, 4, 3, 8, 5, 9, 0, 11, 6] : List Nat)) c hc, rfl⟩)
theorem ax_ini_in {c : Nat} (hc : c < 15 ∨ c = 18) : Cond.initialized (ax_nm c) ∈ lw_tbl := ax_sub_mem _ _ ax_ins_ok.2 _ (List.mem_map.mpr ⟨c, (by rcases hc with h | h; exact (by decide : ∀ c, c < 15 → c ∈ ([18, 10, 1, 7, 2, 4, 3, 8, 5, 11, 13, 12, 6, 14, 9, 0] : List Nat)) c h; subst h; decide), rfl⟩)
set_option maxRecDepth 100000 in
theorem ax_arr_ok : ax_sub [.arrayOver (.object "VeiledTable$Stage"), .classLink (ax_nm 7) 34 "[[I", .arrayOver (.array .int), .arrayClass .int, .arrayOver (.object "VeiledTable$Test"), .arrayOver (.object "VeiledTable$Amount"), .arrayClass .long, .arrayOver (.object "VeiledTable$Sheet"), .classLink (ax_nm 11) 31 "[I", .classLink (ax_nm 11) 26 "[[I"] lw_tbl = true := by decide +kernel
theorem ax_arr_in : Cond.arrayClass .int ∈ lw_tbl ∧ Cond.arrayClass .long ∈ lw_tbl ∧ Cond.classLink (ax_nm 7) 34 "[[I" ∈ lw_tbl ∧ Cond.arrayOver (.array .int) ∈ lw_tbl ∧ Cond.arrayOver (.object RX0) ∈ lw_tbl ∧ Cond.arrayOver (.object RX6) ∈ lw_tbl ∧ Cond.arrayOver (.object RX7) ∈ lw_tbl ∧ Cond.arrayOver (.object RX10) ∈ lw_tbl ∧ Cond.classLink (ax_nm 11) 26 "[[I" ∈ lw_tbl ∧ Cond.classLink (ax_nm 11) 31 "[I" ∈ lw_tbl := by
  have h := ax_sub_mem _ _ ax_arr_ok
  refine ⟨h _ ?_, h _ ?_, h _ ?_, h _ ?_, h _ ?_, h _ ?_, h _ ?_, h _ ?_, h _ ?_, h _ ?_⟩ <;> decide +kernel
theorem ax_mna_in {o i : Nat} (h : ax_mna o i = true) : Cond.classLink (ax_nm o) i "[[I" ∈ lw_tbl := by
  have h2 : (o, i) ∈ ([(7, 34), (11, 26)] : List (Nat × Nat)) := of_decide_eq_true h
  simp only [List.mem_cons, Prod.mk.injEq, List.not_mem_nil, or_false] at h2
  rcases h2 with ⟨rfl, rfl⟩ | ⟨rfl, rfl⟩
  · exact ax_arr_in.2.2.1
  · exact ax_arr_in.2.2.2.2.2.2.2.2.1
/-- the link of new int[n][] -/
theorem ax_new17 {o i : Nat} (h : ax_new o i = some 17) : o = 11 ∧ i = 31 := by
  have hm := ax_lookup_mem h
  have : ∀ q ∈ ax_newT, q.2 = 17 → q.1 = (11, 31) := by decide +kernel
  have := this _ hm rfl
  exact Prod.mk.inj this
-- classes
def ax_fy (c k : Nat) : FieldType := (parseFieldDescriptor (ax_fT c k).2.2.1).getD .int
theorem ax_fy_ok : ((List.range 12).all fun c => (List.range (ax_nf c)).all fun k => decide (parseFieldDescriptor (ax_fT c k).2.2.1 = some (ax_fy c k)) && decide ((ax_fT c k).1 = ax_nm c) && decide ((ax_fT c k).2.2.2 = ax_ff c k) && (if ax_fc c k = 0 then decide (ax_fy c k = .int) else if ax_fc c k = 1 then decide (ax_fy c k = .long) else if ax_fc c k = 2 then (ax_fy c k).isReference else if ax_fc c k = 3 then decide (ax_fy c k = .boolean) else false)) = true := by decide +kernel
theorem ax_fy_in {c k : Nat} (hc : c < 12) (hk : k < ax_nf c) : parseFieldDescriptor (ax_fT c k).2.2.1 = some (ax_fy c k) ∧ (ax_fT c k).1 = ax_nm c ∧ (ax_fT c k).2.2.2 = ax_ff c k ∧ ((ax_fc c k = 0 ∧ ax_fy c k = .int) ∨ (ax_fc c k = 1 ∧ ax_fy c k = .long) ∨ (ax_fc c k = 2 ∧ (ax_fy c k).isReference = true) ∨ (ax_fc c k = 3 ∧ ax_fy c k = .boolean)) := by
  have h1 := List.all_eq_true.mp (List.all_eq_true.mp ax_fy_ok c (List.mem_range.mpr hc)) k (List.mem_range.mpr hk)
  simp only [Bool.and_eq_true, decide_eq_true_eq] at h1
  refine ⟨h1.1.1.1, h1.1.1.2, h1.1.2, ?_⟩
  have h2 := h1.2
  split at h2
  · exact Or.inl ⟨by assumption, by simpa using h2⟩
  · split at h2
    · exact Or.inr (Or.inl ⟨by assumption, by simpa using h2⟩)
    · split at h2
      · exact Or.inr (Or.inr (Or.inl ⟨by assumption, h2⟩))
      · split at h2
        · exact Or.inr (Or.inr (Or.inr ⟨by assumption, by simpa using h2⟩))
        · cases h2
/-- a class: its row of ax_cl, its words -/
theorem ax_cl_in : ∀ c, c < 12 → ax_cl[c]? = some (ax_nm c, ax_fT c, ax_nf c) ∧ (∀ w ∈ u_ws (ax_nm c) (ax_fT c) (ax_nf c), w ∈ lw_tbl) ∧ (∀ a, a < ax_nf c → ∀ b, b < ax_nf c → a ≠ b → (ax_fT c a).2.1 ≠ (ax_fT c b).2.1)
  | 0, _ => ⟨rfl, inX0, nmX0⟩
  | 1, _ => ⟨rfl, inX1, nmX1⟩
  | 2, _ => ⟨rfl, inX3, nmX3⟩
  | 3, _ => ⟨rfl, inX4, nmX4⟩
  | 4, _ => ⟨rfl, inX5, nmX5⟩
  | 5, _ => ⟨rfl, inX6, nmX6⟩
  | 6, _ => ⟨rfl, inX7, nmX7⟩
  | 7, _ => ⟨rfl, inX8, nmX8⟩
  | 8, _ => ⟨rfl, inX9, nmX9⟩
  | 9, _ => ⟨rfl, inX10, nmX10⟩
  | 10, _ => ⟨rfl, inX11, nmX11⟩
  | 11, _ => ⟨rfl, inX12, nmX12⟩
  | n + 12, h => absurd h (by omega)
/-- a value of a field's sort stays as it is, and fits -/
theorem ax_nfit {base : Nat} {av : Nat → Value} (hv : ax_vok av) {c k : Nat} (hc : c < 12) (hk : k < ax_nf c) {v : Value} (h1 : ax_kd v = ax_fk (ax_fc c k)) (h2 : ax_fc c k = 3 → toI v = 0 ∨ toI v = 1) : narrow (ax_fy c k) (ax_cv base av v) = ax_cv base av v ∧ fits (ax_fy c k) (ax_cv base av v) = true := by
  rcases (ax_fy_in hc hk).2.2.2 with ⟨e1, e2⟩ | ⟨e1, e2⟩ | ⟨e1, e2⟩ | ⟨e1, e2⟩
  · rw [e1] at h1
    obtain ⟨x, rfl⟩ := ax_kd_int h1
    rw [e2]
    exact ⟨rfl, rfl⟩
  · rw [e1] at h1
    obtain ⟨x, rfl⟩ := ax_kd_long h1
    rw [e2]
    exact ⟨rfl, rfl⟩
  · rw [e1] at h1
    obtain ⟨r, hr⟩ := ax_cv_rf (base := base) hv (v := v) h1
    rw [hr]
    cases hf : ax_fy c k <;> rw [hf] at e2 <;> first | (cases r <;> exact ⟨rfl, rfl⟩) | (exact absurd e2 (by decide))
  · rw [e1] at h1
    obtain ⟨x, rfl⟩ := ax_kd_int h1
    rw [e2]
    have h3 : x = 0 ∨ x = 1 := h2 e1
    rcases h3 with rfl | rfl <;> exact ⟨rfl, rfl⟩
