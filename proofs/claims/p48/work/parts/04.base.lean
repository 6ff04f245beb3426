/-! THE SMALL MACHINE AND THE REAL ONE: what a state of the small one says of a state of the real one -/
/-- a reference of the small machine in the real one: constants where they lie; the program's own behind each other -/
def ax_adr (base : Nat) (av : Nat → Value) (k : Nat) : Value := if k < 64 then av k else .ref (base + (k - 64))
def ax_cv (base : Nat) (av : Nat → Value) : Value → Value
  | .ref k => ax_adr base av k
  | v => v
def ax_nm (o : Nat) : String := ax_cn.getD o ""
/-- of an array's class the element -/
def ax_aty (c : Nat) : Option FieldType := if c = 20 then some .int else if c = 21 then some .long else if c = 24 then some (.array .int) else if c = 30 then some (.object RX0) else if c = 35 then some (.object RX6) else if c = 36 then some (.object RX7) else if c = 39 then some (.object RX10) else none
def ax_ev (c : Nat) (v : Value) : Value := if c = 20 then .int (toI v) else if c = 21 then .long (toL v) else if c = 22 then .int (toI v) else toR v
def ax_cty (Ls k : Nat) : Nat × Nat := if k = 48 then (20, Ls) else ax_ctyL.getD k (99, 0)
def ax_cc (xs : Nat → Int32) (k j : Nat) : Value := if k = 48 then .int (xs j) else (ax_ccL.getD k []).getD j .null
def ax_cel (c : Nat) : FieldType := if c = 20 then .int else if c = 22 then .byte else .object "VeiledTable$Kind"
def ax_A (base : Nat) : Nat → Prop := fun q => base ≤ q
/-- the constants, in the heap at the law's start -/
def ax_CK (base : Nat) (av : Nat → Value) (Hs : Heap) (Ls : Nat) (xs : Nat → Int32) (U : State) : Prop :=
  (∀ k, k < 49 → (ax_cty Ls k).1 < 14 → ∃ a, av k = .ref a ∧ va_O (ax_nm (ax_cty Ls k).1) a (ax_A base) U Hs ∧ ∀ j, j < ax_nf (ax_cty Ls k).1 → va_OF (ax_fT (ax_cty Ls k).1 j).1 (ax_fT (ax_cty Ls k).1 j).2.1 (ax_fT (ax_cty Ls k).1 j).2.2.1 (ax_cv base av (ax_tv (ax_fc (ax_cty Ls k).1 j) (ax_cc xs k j))) a (ax_A base) U Hs) ∧
  (∀ k, k < 49 → 20 ≤ (ax_cty Ls k).1 → (ax_cty Ls k).1 ≠ 99 → ∃ a, av k = .ref a ∧ va_T (ax_cel (ax_cty Ls k).1) a (ax_cty Ls k).2 (fun j => ax_cv base av (ax_ev (ax_cty Ls k).1 (ax_cc xs k j))) (ax_A base) U Hs) ∧
  (∀ i j, i < 8 → j < 8 → av i = av j → i = j) ∧
  (∃ r, av 9 = va_rf r) ∧
  (∀ q ∈ ax_stT, ∀ n, ax_stN.lookup q.1 = some n → va_Z n.1 n.2.1 n.2.2 (ax_cv base av q.2) (ax_A base) U Hs) ∧
  (∀ q ∈ ax_ldT, ∀ k, q.2 = .ref k → ∃ a tx, av k = .ref a ∧ vk_R (ax_nm q.1.1) q.1.2 tx a U)
/-- words that hold as they are, but are no 'good' ones -/
def ax_AOA (U : State) : Prop := (Cond.arrayOver (.array .int)).before #[] U = true
theorem ax_AOA.moved {u U : State} (hvm : u.vm.Alike U.vm) (h : ax_AOA u) : ax_AOA U := by
  obtain ⟨comp, c, k, h1, h2, h3, h4, h5⟩ := arrayOver_specB h
  obtain ⟨k', hk', he⟩ := hvm.2.2 _ _ h3
  have hi : (U.vm.classes.findIdx? fun (x : Class) => match x.kind with | .array component _ => component == comp | _ => false) = some c := by
    have e3 : U.vm.bare = u.vm.bare := by first | exact hvm.bare_eq | exact hvm.bare_eq.symm
    have e1 := va_idx_bare U.vm comp
    rw [e3] at e1
    exact e1.symm.trans ((va_idx_bare u.vm comp).trans h2)
  have hkind : k'.kind = .array comp (.array .int) := by rw [he]; exact h4
  have f1 : U.vm.findClass (FieldType.array .int).toString = some comp := by rw [hvm.findClass]; exact h1
  have f2 : U.vm.findClass ("[" ++ (FieldType.array .int).toString) = some c := by rw [hvm.findClass]; exact h5
  unfold ax_AOA Cond.before Cond.holds
  simp only [Cond.value]
  rw [f1, Option.bind_some]
  refine (congrArg (fun o : Option Nat => (o.bind (fun c => (U.vm.classes[c]?).map fun (k : Class) => match k.kind with | .array _ ty => decide (ty = FieldType.array .int) && decide (U.vm.findClass ("[" ++ (FieldType.array .int).toString) = some c) | _ => false) == some true)) hi).trans ?_
  simp [hk', hkind, f2]
def ax_aoL : List String := [RX0, RX6, RX7, RX10]
def ax_host (o : Nat) : String := if o = 11 ∨ o = 18 then "VeiledTableLaw" else "VeiledTable"
def ax_NW (U : State) : Prop := (∀ C ∈ ax_aoL, va_AO C U) ∧ ax_AOA U ∧ va_Nw (.castable "[I" "java/lang/Cloneable") U ∧ ∀ q ∈ ax_caT, q.2.1 = 3 ∨ q.2.1 = 10 → va_Nw (.methodLinkNest (ax_nm q.1.1) q.1.2 (ax_y q.2.2.1) (ax_host q.1.1)) U
theorem ax_NW.warm {u U : State} (hW : u.WarmedH U.vm) (h : ax_NW u) : ax_NW U := ⟨fun C hC => (h.1 C hC).moved hW.alike, h.2.1.moved hW.alike, va_Nw.warmC hW h.2.2.1, fun q hq hk => va_Nw.warmM hW (h.2.2.2 q hq hk)⟩
theorem ax_NW.same {u U : State} (hv : U.vm = u.vm) (h : ax_NW u) : ax_NW U := by
  have hA : u.vm.Alike U.vm := by rw [hv]; exact Vm.Alike.refl u.vm
  exact ⟨fun C hC => (h.1 C hC).moved hA, h.2.1.moved hA, va_tabs rfl hv.symm h.2.2.1, fun q hq hk => va_tabs rfl hv.symm (h.2.2.2 q hq hk)⟩
def ax_KC (base : Nat) (av : Nat → Value) (D : va_G) (cA : Nat → ClassId) (Hs : Heap) (Ls : Nat) (xs : Nat → Int32) (U : State) : Prop :=
  (∀ (c : Nat) (q : vw_C), ax_cl[c]? = some q → u_Kn U q.1 q.2.1 q.2.2 (D.1 c) (D.2 c)) ∧ (∀ (c : Nat) (ty : FieldType), ax_aty c = some ty → ArrOfT U (cA c) ty ∧ va_RA U (cA c) ty) ∧ True ∧ ax_NW U ∧ ax_CK base av Hs Ls xs U
/-- one cell of the program's own -/
def ax_at (base : Nat) (av : Nat → Value) (D : va_G) (cA : Nat → ClassId) (h : AH) (k : Nat) (H : Heap) : Prop :=
  ((ax_ty h k).1 < 12 → t_OB (base + (k - 64)) (D.1 (ax_ty h k).1) (ax_nf (ax_ty h k).1) (D.2 (ax_ty h k).1) H (fun j => ax_cv base av (ax_tv (ax_fc (ax_ty h k).1 j) (h.1 k j)))) ∧
  (20 ≤ (ax_ty h k).1 → H[base + (k - 64)]? = some (arrV (cA (ax_ty h k).1) (ax_ty h k).2 (fun j => ax_cv base av (ax_ev (ax_ty h k).1 (h.1 k j)))))
/-- the real heap holds the small one -/
def ax_Rep (base : Nat) (av : Nat → Value) (D : va_G) (cA : Nat → ClassId) (Hs : Heap) (Ls : Nat) (xs : Nat → Int32) (ph : Bool) (h : AH) (H : Heap) : Prop :=
  Hs.size = base ∧ 64 ≤ h.2.2.1 ∧ H.size + 64 = base + h.2.2.1 ∧ (∀ q, q < base → H[q]? = Hs[q]?) ∧ (∀ k, 64 ≤ k → k < h.2.2.1 → ax_at base av D cA h k H) ∧ (∀ k, 168 ≤ k → k < h.2.2.1 → ax_dok (h.2.1 k)) ∧ (∀ j, h.1 48 j = .int (xs j)) ∧ h.2.2.2.2 = Ls ∧ (ph = true → 168 ≤ h.2.2.1) ∧ (ph = true → ∀ a j q, 64 ≤ a → (ax_cfL.getD (a - 64) []).getD j none = some q → h.1 a j = .ref q)
/-- the locals -/
def ax_Lr (base : Nat) (av : Nat → Value) (ls : List Value) (cls : Array Slot) : Prop := cls.size = ls.length ∧ lv_wf cls ∧ ∀ (i : Nat) (v : Value), ls[i]? = some v → ax_kd v ≠ 3 → cls[i]? = some (.val (ax_cv base av v))
/-- the method that runs -/
def ax_Cx (base : Nat) (av : Nat → Value) (D : va_G) (cA : Nat → ClassId) (Hs : Heap) (Ls : Nat) (xs : Nat → Int32) (p : Program) (s : State) (mth : MethodId) (args : Array Value) (meth : Method) (c : Code) (m : Nat) : Prop :=
  p.tables.exec = Jvm.exec ∧ c.code = ax_code m ∧ c.maxLocals = ax_L m ∧ s.vm.findClass (ax_nm (ax_own m)) = some mth.cls ∧ (∀ w ∈ lw_tbl, goodWord w = true → w.before args s = true) ∧ meth.name = (ax_y m).name ∧ ax_KC base av D cA Hs Ls xs s
-- moved states
theorem ax_CK.warm {base : Nat} {av : Nat → Value} {Hs : Heap} {Ls : Nat} {xs : Nat → Int32} {u U : State} (hW : u.WarmedH U.vm) (h : ax_CK base av Hs Ls xs u) : ax_CK base av Hs Ls xs U := by
  obtain ⟨h1, h2, h3, h4, h5, h6⟩ := h
  refine ⟨fun k hk hc => ?_, fun k hk hc hc2 => ?_, h3, h4, fun q hq n hn => va_Z.moved hW.alike (h5 q hq n hn), fun q hq k hk => ?_⟩
  · obtain ⟨a, e, o, f⟩ := h1 k hk hc
    exact ⟨a, e, va_O.moved hW.alike o, fun j hj => va_OF.moved hW.alike (f j hj)⟩
  · obtain ⟨a, e, t⟩ := h2 k hk hc hc2
    exact ⟨a, e, va_T.moved hW.alike t⟩
  · obtain ⟨a, tx, e, r⟩ := h6 q hq k hk
    exact ⟨a, tx, e, vk_R.warm hW r⟩
theorem ax_KC.warm {base : Nat} {av : Nat → Value} {D : va_G} {cA : Nat → ClassId} {Hs : Heap} {Ls : Nat} {xs : Nat → Int32} {u U : State} (hW : u.WarmedH U.vm) (h : ax_KC base av D cA Hs Ls xs u) : ax_KC base av D cA Hs Ls xs U :=
  ⟨fun c q hq => u_Kn_moved hW.alike (h.1 c q hq), fun c ty hc => ⟨arrOfT_moved hW.alike (h.2.1 c ty hc).1, (h.2.1 c ty hc).2.moved hW.alike⟩, trivial, h.2.2.2.1.warm hW, ax_CK.warm hW h.2.2.2.2⟩
theorem ax_KC.same {base : Nat} {av : Nat → Value} {D : va_G} {cA : Nat → ClassId} {Hs : Heap} {Ls : Nat} {xs : Nat → Int32} {u U : State} (hv : U.vm = u.vm) (h : ax_KC base av D cA Hs Ls xs u) : ax_KC base av D cA Hs Ls xs U := by
  have hA : u.vm.Alike U.vm := by rw [hv]; exact Vm.Alike.refl u.vm
  obtain ⟨h1, h2, h3, h4, c1, c2, c3, c4, c5, c6⟩ := h
  refine ⟨fun c q hq => u_Kn_moved hA (h1 c q hq), fun c ty hc => ⟨arrOfT_moved hA (h2 c ty hc).1, (h2 c ty hc).2.moved hA⟩, trivial, h4.same hv, fun k hk hc => ?_, fun k hk hc hc2 => ?_, c3, c4, fun q hq n hn => va_Z.moved hA (c5 q hq n hn), fun q hq k hk => ?_⟩
  · obtain ⟨a, e, o, f⟩ := c1 k hk hc
    exact ⟨a, e, va_O.moved hA o, fun j hj => va_OF.moved hA (f j hj)⟩
  · obtain ⟨a, e, t⟩ := c2 k hk hc hc2
    exact ⟨a, e, va_T.moved hA t⟩
  · obtain ⟨a, tx, e, r⟩ := c6 q hq k hk
    exact ⟨a, tx, e, vk_R.same hv r⟩
-- values
theorem ax_kd_int {v : Value} (h : ax_kd v = 0) : ∃ x, v = .int x := by cases v <;> first | exact ⟨_, rfl⟩ | (simp [ax_kd] at h)
theorem ax_kd_long {v : Value} (h : ax_kd v = 1) : ∃ x, v = .long x := by cases v <;> first | exact ⟨_, rfl⟩ | (simp [ax_kd] at h)
theorem ax_kd_ref {v : Value} (h : ax_kd v = 2) : v = .null ∨ ∃ x, v = .ref x := by cases v <;> first | exact Or.inl rfl | exact Or.inr ⟨_, rfl⟩ | (simp [ax_kd] at h)
theorem ax_kd_double {v : Value} (h : ax_kd v = 4) : ∃ x, v = .double x := by cases v <;> first | exact ⟨_, rfl⟩ | (simp [ax_kd] at h)
theorem ax_isL_cat {v : Value} (h : ax_isL v = true) : v.category = 2 := by cases v <;> first | rfl | (simp [ax_isL] at h)
theorem ax_nL_cat {v : Value} (h : ax_isL v = false) : v.category = 1 := by cases v <;> first | rfl | (simp [ax_isL] at h)
/-- the constants that may stand on a stack are references or null in the real machine -/
def ax_vok (av : Nat → Value) : Prop := ∀ k, k < 64 → ∃ r, av k = va_rf r
theorem ax_cv_rf {base : Nat} {av : Nat → Value} (hv : ax_vok av) {v : Value} (h : ax_kd v = 2) : ∃ r, ax_cv base av v = va_rf r := by
  rcases ax_kd_ref h with rfl | ⟨x, rfl⟩
  · exact ⟨none, rfl⟩
  · show ∃ r, ax_adr base av x = va_rf r
    unfold ax_adr
    by_cases hx : x < 64
    · rw [if_pos hx]; exact hv x hx
    · rw [if_neg hx]; exact ⟨some _, rfl⟩
theorem ax_cv_cat {base : Nat} {av : Nat → Value} (hv : ax_vok av) (v : Value) : (ax_cv base av v).category = if ax_isL v then 2 else 1 := by
  cases v <;> try rfl
  rename_i k
  obtain ⟨r, hr⟩ := ax_cv_rf (base := base) hv (v := .ref k) rfl
  rw [hr]
  cases r <;> rfl
theorem ax_wt_le {base : Nat} {av : Nat → Value} (hv : ax_vok av) (st : List Value) : ((st.map (ax_cv base av)).map fun v => v.category).sum = ax_wt st := by
  unfold ax_wt
  rw [List.map_map]
  congr 1
  apply List.map_congr_left
  intro v _
  exact ax_cv_cat hv v
-- locals
theorem ax_getD {ls : List Value} {n : Nat} (h : ax_kd (ls.getD n ax_junk) ≠ 3) : ls[n]? = some (ls.getD n ax_junk) := by
  rw [List.getD_eq_getElem?_getD] at h ⊢
  cases hx : ls[n]? with
  | none => rw [hx] at h; exact absurd rfl h
  | some v => rfl
theorem ax_lod_inv {c : Nat} {ls : List Value} {n : Nat} {v : Value} (h : ax_lod c ls n = some v) (hc : c ≠ 3) : ls[n]? = some v ∧ ax_kd v = c := by
  unfold ax_lod at h
  split at h
  · rename_i hk
    cases h
    exact ⟨ax_getD (by rw [hk]; exact hc), hk⟩
  · cases h
/-- the listed locals, as the kit's rows want them -/
def ax_ll_of (base : Nat) (av : Nat → Value) (ls : List Value) : List (Nat × Value) := (List.range ls.length).filterMap fun i => if ax_kd (ls.getD i ax_junk) = 3 then none else some (i, ax_cv base av (ls.getD i ax_junk))
theorem ax_Lr_has {base : Nat} {av : Nat → Value} {ls : List Value} {cls : Array Slot} (h : ax_Lr base av ls cls) : lv_has cls ls.length (ax_ll_of base av ls) := by
  refine ⟨h.1, h.2.1, fun q hq => ?_⟩
  obtain ⟨i, hi, he⟩ := List.mem_filterMap.mp hq
  split at he
  · cases he
  · rename_i hk
    cases he
    exact h.2.2 i _ (ax_getD hk) hk
theorem ax_ll_mem {base : Nat} {av : Nat → Value} {ls : List Value} {i : Nat} {v : Value} (h : ls[i]? = some v) (hk : ax_kd v ≠ 3) : (i, ax_cv base av v) ∈ ax_ll_of base av ls := by
  refine List.mem_filterMap.mpr ⟨i, List.mem_range.mpr (List.getElem?_eq_some_iff.mp h).1, ?_⟩
  have e : ls.getD i ax_junk = v := by rw [List.getD_eq_getElem?_getD, h]; rfl
  rw [e, if_neg hk]
theorem ax_put_len (ls : List Value) (i : Nat) (v : Value) : (ax_put ls i v).length = ls.length := by
  unfold ax_put
  dsimp only
  split <;> split <;> (try split) <;> simp
/-- what stands in the locals behind a store -/
theorem ax_put_get {ls : List Value} {i j : Nat} {v w : Value} (h : (ax_put ls i v)[j]? = some w) (hk : ax_kd w ≠ 3) : (j = i ∧ w = v) ∨ (j ≠ i ∧ ls[j]? = some w ∧ (j + 1 = i → ax_isL w = false) ∧ (ax_isL v = true → j ≠ i + 1)) := by
  unfold ax_put at h
  dsimp only at h
  have hj : ∀ l : List Value, (l.set (i + 1) ax_junk)[j]? = some w → j ≠ i + 1 ∧ l[j]? = some w := by
    intro l hl
    by_cases e : j = i + 1
    · subst e
      rw [List.getElem?_set] at hl
      split at hl
      · split at hl
        · cases hl; exact absurd rfl hk
        · cases hl
      · rename_i q; exact absurd rfl q
    · rw [List.getElem?_set_ne (fun q => e q.symm)] at hl
      exact ⟨e, hl⟩
  have hp : ∀ l : List Value, l = (if i = 0 then ls else if ax_isL (ls.getD (i - 1) ax_junk) = true then ls.set (i - 1) ax_junk else ls) → (l.set i v)[j]? = some w → (j = i ∧ w = v) ∨ (j ≠ i ∧ ls[j]? = some w ∧ (j + 1 = i → ax_isL w = false)) := by
    intro l hl h
    by_cases e : j = i
    · subst e
      rw [List.getElem?_set] at h
      rw [if_pos rfl] at h
      split at h
      · cases h; exact Or.inl ⟨rfl, rfl⟩
      · cases h
    · rw [List.getElem?_set_ne (fun q => e q.symm)] at h
      refine Or.inr ⟨e, ?_⟩
      subst hl
      split at h
      · rename_i h0
        exact ⟨h, fun q => by omega⟩
      · split at h
        · rename_i h0 h1
          by_cases e2 : j = i - 1
          · subst e2
            rw [List.getElem?_set] at h
            rw [if_pos rfl] at h
            split at h
            · cases h; exact absurd rfl hk
            · cases h
          · rw [List.getElem?_set_ne (fun q => e2 q.symm)] at h
            exact ⟨h, fun q => by omega⟩
        · rename_i h0 h1
          refine ⟨h, fun q => ?_⟩
          have e3 : i - 1 = j := by omega
          rw [e3, List.getD_eq_getElem?_getD, h] at h1
          simpa using h1
  split at h
  · rename_i hL
    obtain ⟨e, h⟩ := hj _ h
    rcases hp _ rfl h with q | ⟨q1, q2, q3⟩
    · exact Or.inl q
    · exact Or.inr ⟨q1, q2, q3, fun _ => e⟩
  · rename_i hL
    rcases hp _ rfl h with q | ⟨q1, q2, q3⟩
    · exact Or.inl q
    · exact Or.inr ⟨q1, q2, q3, fun z => absurd z hL⟩
theorem ax_put1 {base : Nat} {av : Nat → Value} (hv : ax_vok av) {ls : List Value} {i : Nat} {v : Value} {cls : Array Slot} (hL : ax_isL v = false) (h : lv_has cls ls.length ((i, ax_cv base av v) :: (ax_ll_of base av ls).filter (fun q => !(q.1 == i) && !(q.1 + 1 == i && q.2.category == 2)))) : ax_Lr base av (ax_put ls i v) cls := by
  refine ⟨by rw [ax_put_len]; exact h.1, h.2.1, fun j w hj hk => ?_⟩
  rcases ax_put_get hj hk with ⟨rfl, rfl⟩ | ⟨h1, h2, h3, h4⟩
  · exact h.2.2 (j, _) List.mem_cons_self
  · refine h.2.2 (j, _) (List.mem_cons_of_mem _ (List.mem_filter.mpr ⟨ax_ll_mem h2 hk, ?_⟩))
    have e1 : (j == i) = false := by simpa using h1
    by_cases e2 : j + 1 = i
    · have e4 : ((ax_cv base av w).category == 2) = false := by rw [ax_cv_cat hv, h3 e2]; rfl
      show (!(j == i) && !(j + 1 == i && (ax_cv base av w).category == 2)) = true
      rw [e1, e4]
      simp
    · have e5 : (j + 1 == i) = false := by simpa using e2
      show (!(j == i) && !(j + 1 == i && (ax_cv base av w).category == 2)) = true
      rw [e1, e5]
      simp
theorem ax_put2 {base : Nat} {av : Nat → Value} (hv : ax_vok av) {ls : List Value} {i : Nat} {v : Value} {cls : Array Slot} (hL : ax_isL v = true) (h : lv_has cls ls.length ((i, ax_cv base av v) :: (ax_ll_of base av ls).filter (fun q => !(q.1 == i) && (!(q.1 == i + 1) && !(q.1 + 1 == i && q.2.category == 2))))) : ax_Lr base av (ax_put ls i v) cls := by
  refine ⟨by rw [ax_put_len]; exact h.1, h.2.1, fun j w hj hk => ?_⟩
  rcases ax_put_get hj hk with ⟨rfl, rfl⟩ | ⟨h1, h2, h3, h4⟩
  · exact h.2.2 (j, _) List.mem_cons_self
  · refine h.2.2 (j, _) (List.mem_cons_of_mem _ (List.mem_filter.mpr ⟨ax_ll_mem h2 hk, ?_⟩))
    have e1 : (j == i) = false := by simpa using h1
    have e3 : (j == i + 1) = false := by simpa using h4 hL
    by_cases e2 : j + 1 = i
    · have e4 : ((ax_cv base av w).category == 2) = false := by rw [ax_cv_cat hv, h3 e2]; rfl
      show (!(j == i) && (!(j == i + 1) && !(j + 1 == i && (ax_cv base av w).category == 2))) = true
      rw [e1, e3, e4]
      simp
    · have e5 : (j + 1 == i) = false := by simpa using e2
      show (!(j == i) && (!(j == i + 1) && !(j + 1 == i && (ax_cv base av w).category == 2))) = true
      rw [e1, e3, e5]
      simp
-- stacks
theorem ax_ii_inv {st r1 : List Value} {f : Int32 → Int32 → Option Value} (h : ax_ii st f = some r1) : ∃ x y r v, st = .int y :: .int x :: r ∧ f x y = some v ∧ r1 = v :: r := by
  unfold ax_ii at h
  split at h
  · obtain ⟨v, h1, h2⟩ := Option.map_eq_some_iff.mp h
    exact ⟨_, _, _, v, rfl, h1, h2.symm⟩
  · cases h
theorem ax_ll_inv {st r1 : List Value} {f : Int64 → Int64 → Option Value} (h : ax_ll st f = some r1) : ∃ x y r v, st = .long y :: .long x :: r ∧ f x y = some v ∧ r1 = v :: r := by
  unfold ax_ll at h
  split at h
  · obtain ⟨v, h1, h2⟩ := Option.map_eq_some_iff.mp h
    exact ⟨_, _, _, v, rfl, h1, h2.symm⟩
  · cases h
theorem ax_dd_inv {st r1 : List Value} {f : UInt64 → UInt64 → Option Value} (h : ax_dd st f = some r1) : ∃ x y r v, st = .double y :: .double x :: r ∧ f x y = some v ∧ r1 = v :: r := by
  unfold ax_dd at h
  split at h
  · obtain ⟨v, h1, h2⟩ := Option.map_eq_some_iff.mp h
    exact ⟨_, _, _, v, rfl, h1, h2.symm⟩
  · cases h
theorem ax_li_inv {st r1 : List Value} {f : Int64 → Int32 → Option Value} (h : ax_li st f = some r1) : ∃ x y r v, st = .int y :: .long x :: r ∧ f x y = some v ∧ r1 = v :: r := by
  unfold ax_li at h
  split at h
  · obtain ⟨v, h1, h2⟩ := Option.map_eq_some_iff.mp h
    exact ⟨_, _, _, v, rfl, h1, h2.symm⟩
  · cases h
theorem ax_i_inv {st r1 : List Value} {f : Int32 → Value} (h : ax_i st f = some r1) : ∃ x r, st = .int x :: r ∧ r1 = f x :: r := by
  unfold ax_i at h
  split at h
  · cases h; exact ⟨_, _, rfl, rfl⟩
  · cases h
theorem ax_l_inv {st r1 : List Value} {f : Int64 → Value} (h : ax_l st f = some r1) : ∃ x r, st = .long x :: r ∧ r1 = f x :: r := by
  unfold ax_l at h
  split at h
  · cases h; exact ⟨_, _, rfl, rfl⟩
  · cases h
theorem ax_tg_inv {pc t : Nat} {off : Int} (h : ax_tg pc off = some t) : (pc : Int) + off = (t : Int) := by
  unfold ax_tg at h
  split at h
  · rename_i h0
    cases h
    exact (Int.toNat_of_nonneg h0).symm
  · cases h
theorem ax_sto_inv {c m n : Nat} {ls st : List Value} {q : List Value × List Value} (h : ax_sto c m ls st n = some q) : ∃ v r, st = v :: r ∧ ax_kd v = c ∧ (if c = 1 ∨ c = 4 then n + 1 else n) < ls.length ∧ ls.length = ax_L m ∧ q = (ax_put ls n v, r) := by
  cases st with
  | nil => cases h
  | cons v r =>
    have h' : (if ax_kd v = c ∧ (if c = 1 ∨ c = 4 then n + 1 else n) < ls.length ∧ ls.length = ax_L m then some (ax_put ls n v, r) else none) = some q := h
    by_cases hh : ax_kd v = c ∧ (if c = 1 ∨ c = 4 then n + 1 else n) < ls.length ∧ ls.length = ax_L m
    · rw [if_pos hh] at h'
      exact ⟨_, _, rfl, hh.1, hh.2.1, hh.2.2, (Option.some.inj h').symm⟩
    · rw [if_neg hh] at h'
      exact absurd h' (by simp)
theorem ax_uws_good {C : String} {T : u_T} {N : Nat} : ∀ w ∈ u_ws C T N, goodWord w = true := by
  intro w hw
  obtain ⟨k, -, rfl⟩ := List.mem_map.mp hw
  unfold u_lay
  split <;> rfl
