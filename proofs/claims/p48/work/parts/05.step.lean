/-! ONE INSTRUCTION: of the small machine, and of the real one -/
section AxA
variable {base : Nat} {av : Nat → Value} {D : va_G} {cA : Nat → ClassId} {Hs : Heap} {Ls : Nat} {xs : Nat → Int32} {ph : Bool}
variable {p : Program} {l : Launch} {e : Env} {R : Room} {s : State} {mth : MethodId} {args : Array Value} {below : List Frame} {meth : Method} {c : Code} {H : Heap} {locs : List Loc} {cells slots : Nat} {Q : State → Prop} {m pc : Nat} {cls : Array Slot}
/-- the goal at a place of the method -/
def ax_W (base : Nat) (av : Nat → Value) (p : Program) (l : Launch) (e : Env) (R : Room) (s : State) (mth : MethodId) (args : Array Value) (below : List Frame) (meth : Method) (c : Code) (H : Heap) (locs : List Loc) (cells slots : Nat) (Q : State → Prop) (pc : Nat) (cls : Array Slot) (st : List Value) : Prop := W p l e R s mth args below meth c H locs cells slots Q (F0 mth pc cls (st.map (ax_cv base av)))
/-- an instruction that leaves the heap alone -/
def ax_nh (i : Instr) : Bool := match i with
  | .getfield _ => false | .putfield _ => false | .getstatic _ => false | .arraylength => false | .iaload => false | .baload => false | .laload => false | .aaload => false | .iastore => false | .lastore => false | .aastore => false
  | .new _ => false | .newarray _ => false | .anewarray _ => false | .multianewarray _ _ => false | .ldc _ => false | .ldc_w _ => false | .ldc2_w _ => false | .invokevirtual _ => false
  | _ => true
theorem ax_s_iload (hx : p.tables.exec = Jvm.exec) (hb : c.code = ax_code m) (hv : ax_vok av) {n : Nat} {ls st ls1 st1 : List Value} {h h1 : AH} {pc1 : Nat} (hs : ax_step ph m (.iload n) pc ls st h = some (pc1, ls1, st1, h1)) (hd : decode (ax_code m) pc = .ok (.iload n, 2)) (hl : ax_Lr base av ls cls) (K : ∀ cls1, ax_Lr base av ls1 cls1 → ax_W base av p l e R s mth args below meth c H locs cells slots Q pc1 cls1 st1) : ax_W base av p l e R s mth args below meth c H locs cells slots Q pc cls st := by
  obtain ⟨v, hv1, e1⟩ := Option.map_eq_some_iff.mp hs
  cases e1
  obtain ⟨h3, h4⟩ := ax_lod_inv hv1 (by decide)
  have h5 := hl.2.2 _ _ h3 (by rw [h4]; decide)
  have K1 := K cls hl
  obtain ⟨x, rfl⟩ := ax_kd_int h4
  exact lv_iload hx hb hd h5 K1
theorem ax_s_iload_n (hx : p.tables.exec = Jvm.exec) (hb : c.code = ax_code m) (hv : ax_vok av) {n : Fin 4} {ls st ls1 st1 : List Value} {h h1 : AH} {pc1 : Nat} (hs : ax_step ph m (.iload_n n) pc ls st h = some (pc1, ls1, st1, h1)) (hd : decode (ax_code m) pc = .ok (.iload_n n, 1)) (hl : ax_Lr base av ls cls) (K : ∀ cls1, ax_Lr base av ls1 cls1 → ax_W base av p l e R s mth args below meth c H locs cells slots Q pc1 cls1 st1) : ax_W base av p l e R s mth args below meth c H locs cells slots Q pc cls st := by
  obtain ⟨v, hv1, e1⟩ := Option.map_eq_some_iff.mp hs
  cases e1
  obtain ⟨h3, h4⟩ := ax_lod_inv hv1 (by decide)
  have h5 := hl.2.2 _ _ h3 (by rw [h4]; decide)
  have K1 := K cls hl
  obtain ⟨x, rfl⟩ := ax_kd_int h4
  exact lv_iload_n hx hb hd rfl h5 K1
theorem ax_s_lload (hx : p.tables.exec = Jvm.exec) (hb : c.code = ax_code m) (hv : ax_vok av) {n : Nat} {ls st ls1 st1 : List Value} {h h1 : AH} {pc1 : Nat} (hs : ax_step ph m (.lload n) pc ls st h = some (pc1, ls1, st1, h1)) (hd : decode (ax_code m) pc = .ok (.lload n, 2)) (hl : ax_Lr base av ls cls) (K : ∀ cls1, ax_Lr base av ls1 cls1 → ax_W base av p l e R s mth args below meth c H locs cells slots Q pc1 cls1 st1) : ax_W base av p l e R s mth args below meth c H locs cells slots Q pc cls st := by
  obtain ⟨v, hv1, e1⟩ := Option.map_eq_some_iff.mp hs
  cases e1
  obtain ⟨h3, h4⟩ := ax_lod_inv hv1 (by decide)
  have h5 := hl.2.2 _ _ h3 (by rw [h4]; decide)
  have K1 := K cls hl
  obtain ⟨x, rfl⟩ := ax_kd_long h4
  exact lv_lload hx hb hd h5 K1
theorem ax_s_lload_n (hx : p.tables.exec = Jvm.exec) (hb : c.code = ax_code m) (hv : ax_vok av) {n : Fin 4} {ls st ls1 st1 : List Value} {h h1 : AH} {pc1 : Nat} (hs : ax_step ph m (.lload_n n) pc ls st h = some (pc1, ls1, st1, h1)) (hd : decode (ax_code m) pc = .ok (.lload_n n, 1)) (hl : ax_Lr base av ls cls) (K : ∀ cls1, ax_Lr base av ls1 cls1 → ax_W base av p l e R s mth args below meth c H locs cells slots Q pc1 cls1 st1) : ax_W base av p l e R s mth args below meth c H locs cells slots Q pc cls st := by
  obtain ⟨v, hv1, e1⟩ := Option.map_eq_some_iff.mp hs
  cases e1
  obtain ⟨h3, h4⟩ := ax_lod_inv hv1 (by decide)
  have h5 := hl.2.2 _ _ h3 (by rw [h4]; decide)
  have K1 := K cls hl
  obtain ⟨x, rfl⟩ := ax_kd_long h4
  exact lv_lload_n hx hb hd rfl h5 K1
theorem ax_s_aload (hx : p.tables.exec = Jvm.exec) (hb : c.code = ax_code m) (hv : ax_vok av) {n : Nat} {ls st ls1 st1 : List Value} {h h1 : AH} {pc1 : Nat} (hs : ax_step ph m (.aload n) pc ls st h = some (pc1, ls1, st1, h1)) (hd : decode (ax_code m) pc = .ok (.aload n, 2)) (hl : ax_Lr base av ls cls) (K : ∀ cls1, ax_Lr base av ls1 cls1 → ax_W base av p l e R s mth args below meth c H locs cells slots Q pc1 cls1 st1) : ax_W base av p l e R s mth args below meth c H locs cells slots Q pc cls st := by
  obtain ⟨v, hv1, e1⟩ := Option.map_eq_some_iff.mp hs
  cases e1
  obtain ⟨h3, h4⟩ := ax_lod_inv hv1 (by decide)
  have h5 := hl.2.2 _ _ h3 (by rw [h4]; decide)
  have K1 := K cls hl
  obtain ⟨r, hr⟩ := ax_cv_rf (base := base) hv h4
  unfold ax_W at K1 ⊢
  rw [List.map_cons, hr] at K1
  rw [hr] at h5
  cases r with
  | none => exact lv_aloadN hx hb hd h5 K1
  | some a => exact lv_aload hx hb hd h5 K1
theorem ax_s_aload_n (hx : p.tables.exec = Jvm.exec) (hb : c.code = ax_code m) (hv : ax_vok av) {n : Fin 4} {ls st ls1 st1 : List Value} {h h1 : AH} {pc1 : Nat} (hs : ax_step ph m (.aload_n n) pc ls st h = some (pc1, ls1, st1, h1)) (hd : decode (ax_code m) pc = .ok (.aload_n n, 1)) (hl : ax_Lr base av ls cls) (K : ∀ cls1, ax_Lr base av ls1 cls1 → ax_W base av p l e R s mth args below meth c H locs cells slots Q pc1 cls1 st1) : ax_W base av p l e R s mth args below meth c H locs cells slots Q pc cls st := by
  obtain ⟨v, hv1, e1⟩ := Option.map_eq_some_iff.mp hs
  cases e1
  obtain ⟨h3, h4⟩ := ax_lod_inv hv1 (by decide)
  have h5 := hl.2.2 _ _ h3 (by rw [h4]; decide)
  have K1 := K cls hl
  obtain ⟨r, hr⟩ := ax_cv_rf (base := base) hv h4
  unfold ax_W at K1 ⊢
  rw [List.map_cons, hr] at K1
  rw [hr] at h5
  cases r with
  | none => exact lv_aload_nN hx hb hd rfl h5 K1
  | some a => exact lv_aload_n hx hb hd rfl h5 K1
theorem ax_s_dload (hx : p.tables.exec = Jvm.exec) (hb : c.code = ax_code m) (hv : ax_vok av) {n : Nat} {ls st ls1 st1 : List Value} {h h1 : AH} {pc1 : Nat} (hs : ax_step ph m (.dload n) pc ls st h = some (pc1, ls1, st1, h1)) (hd : decode (ax_code m) pc = .ok (.dload n, 2)) (hl : ax_Lr base av ls cls) (K : ∀ cls1, ax_Lr base av ls1 cls1 → ax_W base av p l e R s mth args below meth c H locs cells slots Q pc1 cls1 st1) : ax_W base av p l e R s mth args below meth c H locs cells slots Q pc cls st := by
  obtain ⟨v, hv1, e1⟩ := Option.map_eq_some_iff.mp hs
  cases e1
  obtain ⟨h3, h4⟩ := ax_lod_inv hv1 (by decide)
  have h5 := hl.2.2 _ _ h3 (by rw [h4]; decide)
  have K1 := K cls hl
  obtain ⟨x, rfl⟩ := ax_kd_double h4
  exact lv_dload hx hb hd h5 K1
theorem ax_s_dload_n (hx : p.tables.exec = Jvm.exec) (hb : c.code = ax_code m) (hv : ax_vok av) {n : Fin 4} {ls st ls1 st1 : List Value} {h h1 : AH} {pc1 : Nat} (hs : ax_step ph m (.dload_n n) pc ls st h = some (pc1, ls1, st1, h1)) (hd : decode (ax_code m) pc = .ok (.dload_n n, 1)) (hl : ax_Lr base av ls cls) (K : ∀ cls1, ax_Lr base av ls1 cls1 → ax_W base av p l e R s mth args below meth c H locs cells slots Q pc1 cls1 st1) : ax_W base av p l e R s mth args below meth c H locs cells slots Q pc cls st := by
  obtain ⟨v, hv1, e1⟩ := Option.map_eq_some_iff.mp hs
  cases e1
  obtain ⟨h3, h4⟩ := ax_lod_inv hv1 (by decide)
  have h5 := hl.2.2 _ _ h3 (by rw [h4]; decide)
  have K1 := K cls hl
  obtain ⟨x, rfl⟩ := ax_kd_double h4
  exact lv_dload_n hx hb hd rfl h5 K1
theorem ax_s_istore (hx : p.tables.exec = Jvm.exec) (hb : c.code = ax_code m) (hv : ax_vok av) {n : Nat} {ls st ls1 st1 : List Value} {h h1 : AH} {pc1 : Nat} (hs : ax_step ph m (.istore n) pc ls st h = some (pc1, ls1, st1, h1)) (hd : decode (ax_code m) pc = .ok (.istore n, 2)) (hl : ax_Lr base av ls cls) (K : ∀ cls1, ax_Lr base av ls1 cls1 → ax_W base av p l e R s mth args below meth c H locs cells slots Q pc1 cls1 st1) : ax_W base av p l e R s mth args below meth c H locs cells slots Q pc cls st := by
  obtain ⟨q, hq, e1⟩ := Option.map_eq_some_iff.mp hs
  cases e1
  obtain ⟨v, r, rfl, h4, h5, h6, rfl⟩ := ax_sto_inv hq
  have h7 := ax_Lr_has hl
  obtain ⟨x, rfl⟩ := ax_kd_int h4
  exact lv_istore hx hb hd h7 h5 rfl fun cls1 hl1 => K cls1 (ax_put1 (v := .int x) hv rfl hl1)
theorem ax_s_istore_n (hx : p.tables.exec = Jvm.exec) (hb : c.code = ax_code m) (hv : ax_vok av) {n : Fin 4} {ls st ls1 st1 : List Value} {h h1 : AH} {pc1 : Nat} (hs : ax_step ph m (.istore_n n) pc ls st h = some (pc1, ls1, st1, h1)) (hd : decode (ax_code m) pc = .ok (.istore_n n, 1)) (hl : ax_Lr base av ls cls) (K : ∀ cls1, ax_Lr base av ls1 cls1 → ax_W base av p l e R s mth args below meth c H locs cells slots Q pc1 cls1 st1) : ax_W base av p l e R s mth args below meth c H locs cells slots Q pc cls st := by
  obtain ⟨q, hq, e1⟩ := Option.map_eq_some_iff.mp hs
  cases e1
  obtain ⟨v, r, rfl, h4, h5, h6, rfl⟩ := ax_sto_inv hq
  have h7 := ax_Lr_has hl
  obtain ⟨x, rfl⟩ := ax_kd_int h4
  exact lv_istore_n hx hb hd rfl h7 h5 rfl fun cls1 hl1 => K cls1 (ax_put1 (v := .int x) hv rfl hl1)
theorem ax_s_lstore (hx : p.tables.exec = Jvm.exec) (hb : c.code = ax_code m) (hv : ax_vok av) {n : Nat} {ls st ls1 st1 : List Value} {h h1 : AH} {pc1 : Nat} (hs : ax_step ph m (.lstore n) pc ls st h = some (pc1, ls1, st1, h1)) (hd : decode (ax_code m) pc = .ok (.lstore n, 2)) (hl : ax_Lr base av ls cls) (K : ∀ cls1, ax_Lr base av ls1 cls1 → ax_W base av p l e R s mth args below meth c H locs cells slots Q pc1 cls1 st1) : ax_W base av p l e R s mth args below meth c H locs cells slots Q pc cls st := by
  obtain ⟨q, hq, e1⟩ := Option.map_eq_some_iff.mp hs
  cases e1
  obtain ⟨v, r, rfl, h4, h5, h6, rfl⟩ := ax_sto_inv hq
  have h7 := ax_Lr_has hl
  obtain ⟨x, rfl⟩ := ax_kd_long h4
  exact lv_lstore hx hb hd h7 h5 rfl fun cls1 hl1 => K cls1 (ax_put2 (v := .long x) hv rfl hl1)
theorem ax_s_lstore_n (hx : p.tables.exec = Jvm.exec) (hb : c.code = ax_code m) (hv : ax_vok av) {n : Fin 4} {ls st ls1 st1 : List Value} {h h1 : AH} {pc1 : Nat} (hs : ax_step ph m (.lstore_n n) pc ls st h = some (pc1, ls1, st1, h1)) (hd : decode (ax_code m) pc = .ok (.lstore_n n, 1)) (hl : ax_Lr base av ls cls) (K : ∀ cls1, ax_Lr base av ls1 cls1 → ax_W base av p l e R s mth args below meth c H locs cells slots Q pc1 cls1 st1) : ax_W base av p l e R s mth args below meth c H locs cells slots Q pc cls st := by
  obtain ⟨q, hq, e1⟩ := Option.map_eq_some_iff.mp hs
  cases e1
  obtain ⟨v, r, rfl, h4, h5, h6, rfl⟩ := ax_sto_inv hq
  have h7 := ax_Lr_has hl
  obtain ⟨x, rfl⟩ := ax_kd_long h4
  exact lv_lstore_n hx hb hd rfl h7 h5 rfl fun cls1 hl1 => K cls1 (ax_put2 (v := .long x) hv rfl hl1)
theorem ax_s_astore (hx : p.tables.exec = Jvm.exec) (hb : c.code = ax_code m) (hv : ax_vok av) {n : Nat} {ls st ls1 st1 : List Value} {h h1 : AH} {pc1 : Nat} (hs : ax_step ph m (.astore n) pc ls st h = some (pc1, ls1, st1, h1)) (hd : decode (ax_code m) pc = .ok (.astore n, 2)) (hl : ax_Lr base av ls cls) (K : ∀ cls1, ax_Lr base av ls1 cls1 → ax_W base av p l e R s mth args below meth c H locs cells slots Q pc1 cls1 st1) : ax_W base av p l e R s mth args below meth c H locs cells slots Q pc cls st := by
  obtain ⟨q, hq, e1⟩ := Option.map_eq_some_iff.mp hs
  cases e1
  obtain ⟨v, r, rfl, h4, h5, h6, rfl⟩ := ax_sto_inv hq
  have h7 := ax_Lr_has hl
  have hL : ax_isL v = false := by rcases ax_kd_ref h4 with rfl | ⟨z, rfl⟩ <;> rfl
  have K1 := fun cls1 hl1 => K cls1 (ax_put1 hv (v := v) hL hl1)
  obtain ⟨r1, hr⟩ := ax_cv_rf (base := base) hv h4
  unfold ax_W at K1 ⊢
  rw [List.map_cons, hr]
  rw [hr] at K1
  cases r1 with
  | none => exact lv_astoreN hx hb hd h7 h5 rfl K1
  | some a => exact lv_astore hx hb hd h7 h5 rfl K1
theorem ax_s_astore_n (hx : p.tables.exec = Jvm.exec) (hb : c.code = ax_code m) (hv : ax_vok av) {n : Fin 4} {ls st ls1 st1 : List Value} {h h1 : AH} {pc1 : Nat} (hs : ax_step ph m (.astore_n n) pc ls st h = some (pc1, ls1, st1, h1)) (hd : decode (ax_code m) pc = .ok (.astore_n n, 1)) (hl : ax_Lr base av ls cls) (K : ∀ cls1, ax_Lr base av ls1 cls1 → ax_W base av p l e R s mth args below meth c H locs cells slots Q pc1 cls1 st1) : ax_W base av p l e R s mth args below meth c H locs cells slots Q pc cls st := by
  obtain ⟨q, hq, e1⟩ := Option.map_eq_some_iff.mp hs
  cases e1
  obtain ⟨v, r, rfl, h4, h5, h6, rfl⟩ := ax_sto_inv hq
  have h7 := ax_Lr_has hl
  have hL : ax_isL v = false := by rcases ax_kd_ref h4 with rfl | ⟨z, rfl⟩ <;> rfl
  have K1 := fun cls1 hl1 => K cls1 (ax_put1 hv (v := v) hL hl1)
  obtain ⟨r1, hr⟩ := ax_cv_rf (base := base) hv h4
  unfold ax_W at K1 ⊢
  rw [List.map_cons, hr]
  rw [hr] at K1
  cases r1 with
  | none => exact lv_astore_nN hx hb hd rfl h7 h5 rfl K1
  | some a => exact lv_astore_n hx hb hd rfl h7 h5 rfl K1
theorem ax_s_dstore (hx : p.tables.exec = Jvm.exec) (hb : c.code = ax_code m) (hv : ax_vok av) {n : Nat} {ls st ls1 st1 : List Value} {h h1 : AH} {pc1 : Nat} (hs : ax_step ph m (.dstore n) pc ls st h = some (pc1, ls1, st1, h1)) (hd : decode (ax_code m) pc = .ok (.dstore n, 2)) (hl : ax_Lr base av ls cls) (K : ∀ cls1, ax_Lr base av ls1 cls1 → ax_W base av p l e R s mth args below meth c H locs cells slots Q pc1 cls1 st1) : ax_W base av p l e R s mth args below meth c H locs cells slots Q pc cls st := by
  obtain ⟨q, hq, e1⟩ := Option.map_eq_some_iff.mp hs
  cases e1
  obtain ⟨v, r, rfl, h4, h5, h6, rfl⟩ := ax_sto_inv hq
  have h7 := ax_Lr_has hl
  obtain ⟨x, rfl⟩ := ax_kd_double h4
  exact lv_dstore hx hb hd h7 h5 rfl fun cls1 hl1 => K cls1 (ax_put2 (v := .double x) hv rfl hl1)
theorem ax_s_dstore_n (hx : p.tables.exec = Jvm.exec) (hb : c.code = ax_code m) (hv : ax_vok av) {n : Fin 4} {ls st ls1 st1 : List Value} {h h1 : AH} {pc1 : Nat} (hs : ax_step ph m (.dstore_n n) pc ls st h = some (pc1, ls1, st1, h1)) (hd : decode (ax_code m) pc = .ok (.dstore_n n, 1)) (hl : ax_Lr base av ls cls) (K : ∀ cls1, ax_Lr base av ls1 cls1 → ax_W base av p l e R s mth args below meth c H locs cells slots Q pc1 cls1 st1) : ax_W base av p l e R s mth args below meth c H locs cells slots Q pc cls st := by
  obtain ⟨q, hq, e1⟩ := Option.map_eq_some_iff.mp hs
  cases e1
  obtain ⟨v, r, rfl, h4, h5, h6, rfl⟩ := ax_sto_inv hq
  have h7 := ax_Lr_has hl
  obtain ⟨x, rfl⟩ := ax_kd_double h4
  exact lv_dstore_n hx hb hd rfl h7 h5 rfl fun cls1 hl1 => K cls1 (ax_put2 (v := .double x) hv rfl hl1)
theorem ax_s_iinc {n : Nat} {k : Int} (hx : p.tables.exec = Jvm.exec) (hb : c.code = ax_code m) (hv : ax_vok av) {ls st ls1 st1 : List Value} {h h1 : AH} {pc1 : Nat} (hs : ax_step ph m (.iinc n k) pc ls st h = some (pc1, ls1, st1, h1)) (hd : decode (ax_code m) pc = .ok (.iinc n k, 3)) (hl : ax_Lr base av ls cls) (K : ∀ cls1, ax_Lr base av ls1 cls1 → ax_W base av p l e R s mth args below meth c H locs cells slots Q pc1 cls1 st1) : ax_W base av p l e R s mth args below meth c H locs cells slots Q pc cls st := by
  have hs1 : (match ls.getD n ax_junk with
    | .int x => if n < ls.length ∧ ls.length = ax_L m then some (pc + 3, ax_put ls n (.int (x + Int32.ofInt k)), st, h) else none
    | _ => none) = some (pc1, ls1, st1, h1) := hs
  split at hs1
  · rename_i x hx1
    split at hs1
    · rename_i h0
      cases hs1
      have h3 : ls[n]? = some (.int x) := by rw [← hx1]; exact ax_getD (by rw [hx1]; exact fun q => by cases q)
      have h4 : (n, Value.int x) ∈ ax_ll_of base av ls := ax_ll_mem (base := base) (av := av) h3 (fun q => by cases q)
      obtain ⟨k0, hk0⟩ := List.getElem?_of_mem h4
      exact lv_iinc (k := k0) (v := x + Int32.ofInt k) hx hb hd (ax_Lr_has hl) hk0 rfl h0.1 rfl fun cls1 hl1 => K cls1 (ax_put1 hv (v := .int (x + Int32.ofInt k)) rfl hl1)
    · cases hs1
  · cases hs1
theorem ax_s_iconst {n : Int} (hx : p.tables.exec = Jvm.exec) (hb : c.code = ax_code m) (hv : ax_vok av) {ls st ls1 st1 : List Value} {h h1 : AH} {pc1 : Nat} (hs : ax_step ph m (.iconst n) pc ls st h = some (pc1, ls1, st1, h1)) (hd : decode (ax_code m) pc = .ok (.iconst n, 1)) (hl : ax_Lr base av ls cls) (K : ∀ cls1, ax_Lr base av ls1 cls1 → ax_W base av p l e R s mth args below meth c H locs cells slots Q pc1 cls1 st1) : ax_W base av p l e R s mth args below meth c H locs cells slots Q pc cls st := by
  cases hs
  exact lv_iconst hx hb hd rfl (K cls hl)
theorem ax_s_bipush {n : Int} (hx : p.tables.exec = Jvm.exec) (hb : c.code = ax_code m) (hv : ax_vok av) {ls st ls1 st1 : List Value} {h h1 : AH} {pc1 : Nat} (hs : ax_step ph m (.bipush n) pc ls st h = some (pc1, ls1, st1, h1)) (hd : decode (ax_code m) pc = .ok (.bipush n, 2)) (hl : ax_Lr base av ls cls) (K : ∀ cls1, ax_Lr base av ls1 cls1 → ax_W base av p l e R s mth args below meth c H locs cells slots Q pc1 cls1 st1) : ax_W base av p l e R s mth args below meth c H locs cells slots Q pc cls st := by
  cases hs
  exact lv_bipush hx hb hd rfl (K cls hl)
theorem ax_s_sipush {n : Int} (hx : p.tables.exec = Jvm.exec) (hb : c.code = ax_code m) (hv : ax_vok av) {ls st ls1 st1 : List Value} {h h1 : AH} {pc1 : Nat} (hs : ax_step ph m (.sipush n) pc ls st h = some (pc1, ls1, st1, h1)) (hd : decode (ax_code m) pc = .ok (.sipush n, 3)) (hl : ax_Lr base av ls cls) (K : ∀ cls1, ax_Lr base av ls1 cls1 → ax_W base av p l e R s mth args below meth c H locs cells slots Q pc1 cls1 st1) : ax_W base av p l e R s mth args below meth c H locs cells slots Q pc cls st := by
  cases hs
  exact lv_sipush hx hb hd rfl (K cls hl)
theorem ax_s_lconst {n : Fin 2} (hx : p.tables.exec = Jvm.exec) (hb : c.code = ax_code m) (hv : ax_vok av) {ls st ls1 st1 : List Value} {h h1 : AH} {pc1 : Nat} (hs : ax_step ph m (.lconst n) pc ls st h = some (pc1, ls1, st1, h1)) (hd : decode (ax_code m) pc = .ok (.lconst n, 1)) (hl : ax_Lr base av ls cls) (K : ∀ cls1, ax_Lr base av ls1 cls1 → ax_W base av p l e R s mth args below meth c H locs cells slots Q pc1 cls1 st1) : ax_W base av p l e R s mth args below meth c H locs cells slots Q pc cls st := by
  cases hs
  exact lv_lconst hx hb hd rfl (K cls hl)
theorem ax_s_null (hx : p.tables.exec = Jvm.exec) (hb : c.code = ax_code m) (hv : ax_vok av) {ls st ls1 st1 : List Value} {h h1 : AH} {pc1 : Nat} (hs : ax_step ph m .aconst_null pc ls st h = some (pc1, ls1, st1, h1)) (hd : decode (ax_code m) pc = .ok (.aconst_null, 1)) (hl : ax_Lr base av ls cls) (K : ∀ cls1, ax_Lr base av ls1 cls1 → ax_W base av p l e R s mth args below meth c H locs cells slots Q pc1 cls1 st1) : ax_W base av p l e R s mth args below meth c H locs cells slots Q pc cls st := by
  cases hs
  exact lv_null hx hb hd (K cls hl)
theorem ax_s_dconst {k : Fin 2} (hx : p.tables.exec = Jvm.exec) (hb : c.code = ax_code m) (hv : ax_vok av) {ls st ls1 st1 : List Value} {h h1 : AH} {pc1 : Nat} (hs : ax_step ph m (.dconst k) pc ls st h = some (pc1, ls1, st1, h1)) (hd : decode (ax_code m) pc = .ok (.dconst k, 1)) (hl : ax_Lr base av ls cls) (K : ∀ cls1, ax_Lr base av ls1 cls1 → ax_W base av p l e R s mth args below meth c H locs cells slots Q pc1 cls1 st1) : ax_W base av p l e R s mth args below meth c H locs cells slots Q pc cls st := by
  have hs1 : (if k.val = 0 then some (pc + 1, ls, Value.double 0 :: st, h) else none) = some (pc1, ls1, st1, h1) := hs
  split at hs1
  · rename_i h0
    cases hs1
    have hk : k = 0 := Fin.ext h0
    subst hk
    exact lv_dconst0 hx hb hd (K cls hl)
  · cases hs1
theorem ax_s_ddiv (hx : p.tables.exec = Jvm.exec) (hb : c.code = ax_code m) (hv : ax_vok av) {ls st ls1 st1 : List Value} {h h1 : AH} {pc1 : Nat} (hs : ax_step ph m .ddiv pc ls st h = some (pc1, ls1, st1, h1)) (hd : decode (ax_code m) pc = .ok (.ddiv, 1)) (hl : ax_Lr base av ls cls) (K : ∀ cls1, ax_Lr base av ls1 cls1 → ax_W base av p l e R s mth args below meth c H locs cells slots Q pc1 cls1 st1) : ax_W base av p l e R s mth args below meth c H locs cells slots Q pc cls st := by
  obtain ⟨r1, hr, e1⟩ := Option.map_eq_some_iff.mp hs
  cases e1
  obtain ⟨x, y, r, v, rfl, h2, rfl⟩ := ax_dd_inv hr
  split at h2
  · rename_i h0
    cases h2
    exact lv_ddiv hx hb hd h0 (K cls hl)
  · cases h2
theorem ax_s_dadd (hx : p.tables.exec = Jvm.exec) (hb : c.code = ax_code m) (hv : ax_vok av) {ls st ls1 st1 : List Value} {h h1 : AH} {pc1 : Nat} (hs : ax_step ph m .dadd pc ls st h = some (pc1, ls1, st1, h1)) (hd : decode (ax_code m) pc = .ok (.dadd, 1)) (hl : ax_Lr base av ls cls) (K : ∀ cls1, ax_Lr base av ls1 cls1 → ax_W base av p l e R s mth args below meth c H locs cells slots Q pc1 cls1 st1) : ax_W base av p l e R s mth args below meth c H locs cells slots Q pc cls st := by
  obtain ⟨r1, hr, e1⟩ := Option.map_eq_some_iff.mp hs
  cases e1
  obtain ⟨x, y, r, v, rfl, h2, rfl⟩ := ax_dd_inv hr
  split at h2
  · rename_i h0
    cases h2
    exact lv_dadd hx hb hd h0 (K cls hl)
  · cases h2
theorem ax_s_dsub (hx : p.tables.exec = Jvm.exec) (hb : c.code = ax_code m) (hv : ax_vok av) {ls st ls1 st1 : List Value} {h h1 : AH} {pc1 : Nat} (hs : ax_step ph m .dsub pc ls st h = some (pc1, ls1, st1, h1)) (hd : decode (ax_code m) pc = .ok (.dsub, 1)) (hl : ax_Lr base av ls cls) (K : ∀ cls1, ax_Lr base av ls1 cls1 → ax_W base av p l e R s mth args below meth c H locs cells slots Q pc1 cls1 st1) : ax_W base av p l e R s mth args below meth c H locs cells slots Q pc cls st := by
  obtain ⟨r1, hr, e1⟩ := Option.map_eq_some_iff.mp hs
  cases e1
  obtain ⟨x, y, r, v, rfl, h2, rfl⟩ := ax_dd_inv hr
  split at h2
  · rename_i h0
    cases h2
    exact lv_dsub hx hb hd h0 (K cls hl)
  · cases h2
theorem ax_s_dcmp {op : CmpOp} (hx : p.tables.exec = Jvm.exec) (hb : c.code = ax_code m) (hv : ax_vok av) {ls st ls1 st1 : List Value} {h h1 : AH} {pc1 : Nat} (hs : ax_step ph m (.dcmp op) pc ls st h = some (pc1, ls1, st1, h1)) (hd : decode (ax_code m) pc = .ok (.dcmp op, 1)) (hl : ax_Lr base av ls cls) (K : ∀ cls1, ax_Lr base av ls1 cls1 → ax_W base av p l e R s mth args below meth c H locs cells slots Q pc1 cls1 st1) : ax_W base av p l e R s mth args below meth c H locs cells slots Q pc cls st := by
  obtain ⟨r1, hr, e1⟩ := Option.map_eq_some_iff.mp hs
  cases e1
  obtain ⟨x, y, r, v, rfl, h2, rfl⟩ := ax_dd_inv hr
  cases h2
  exact lv_dcmp hx hb hd (K cls hl)
theorem ax_s_iadd (hx : p.tables.exec = Jvm.exec) (hb : c.code = ax_code m) (hv : ax_vok av) {ls st ls1 st1 : List Value} {h h1 : AH} {pc1 : Nat} (hs : ax_step ph m .iadd pc ls st h = some (pc1, ls1, st1, h1)) (hd : decode (ax_code m) pc = .ok (.iadd, 1)) (hl : ax_Lr base av ls cls) (K : ∀ cls1, ax_Lr base av ls1 cls1 → ax_W base av p l e R s mth args below meth c H locs cells slots Q pc1 cls1 st1) : ax_W base av p l e R s mth args below meth c H locs cells slots Q pc cls st := by
  obtain ⟨r1, hr, e1⟩ := Option.map_eq_some_iff.mp hs
  cases e1
  obtain ⟨x, y, r, v, rfl, h2, rfl⟩ := ax_ii_inv hr
  cases h2
  exact lv_iadd hx hb hd (K cls hl)
theorem ax_s_isub (hx : p.tables.exec = Jvm.exec) (hb : c.code = ax_code m) (hv : ax_vok av) {ls st ls1 st1 : List Value} {h h1 : AH} {pc1 : Nat} (hs : ax_step ph m .isub pc ls st h = some (pc1, ls1, st1, h1)) (hd : decode (ax_code m) pc = .ok (.isub, 1)) (hl : ax_Lr base av ls cls) (K : ∀ cls1, ax_Lr base av ls1 cls1 → ax_W base av p l e R s mth args below meth c H locs cells slots Q pc1 cls1 st1) : ax_W base av p l e R s mth args below meth c H locs cells slots Q pc cls st := by
  obtain ⟨r1, hr, e1⟩ := Option.map_eq_some_iff.mp hs
  cases e1
  obtain ⟨x, y, r, v, rfl, h2, rfl⟩ := ax_ii_inv hr
  cases h2
  exact lv_isub hx hb hd (K cls hl)
theorem ax_s_imul (hx : p.tables.exec = Jvm.exec) (hb : c.code = ax_code m) (hv : ax_vok av) {ls st ls1 st1 : List Value} {h h1 : AH} {pc1 : Nat} (hs : ax_step ph m .imul pc ls st h = some (pc1, ls1, st1, h1)) (hd : decode (ax_code m) pc = .ok (.imul, 1)) (hl : ax_Lr base av ls cls) (K : ∀ cls1, ax_Lr base av ls1 cls1 → ax_W base av p l e R s mth args below meth c H locs cells slots Q pc1 cls1 st1) : ax_W base av p l e R s mth args below meth c H locs cells slots Q pc cls st := by
  obtain ⟨r1, hr, e1⟩ := Option.map_eq_some_iff.mp hs
  cases e1
  obtain ⟨x, y, r, v, rfl, h2, rfl⟩ := ax_ii_inv hr
  cases h2
  exact lv_imul hx hb hd (K cls hl)
theorem ax_s_iand (hx : p.tables.exec = Jvm.exec) (hb : c.code = ax_code m) (hv : ax_vok av) {ls st ls1 st1 : List Value} {h h1 : AH} {pc1 : Nat} (hs : ax_step ph m .iand pc ls st h = some (pc1, ls1, st1, h1)) (hd : decode (ax_code m) pc = .ok (.iand, 1)) (hl : ax_Lr base av ls cls) (K : ∀ cls1, ax_Lr base av ls1 cls1 → ax_W base av p l e R s mth args below meth c H locs cells slots Q pc1 cls1 st1) : ax_W base av p l e R s mth args below meth c H locs cells slots Q pc cls st := by
  obtain ⟨r1, hr, e1⟩ := Option.map_eq_some_iff.mp hs
  cases e1
  obtain ⟨x, y, r, v, rfl, h2, rfl⟩ := ax_ii_inv hr
  cases h2
  exact lv_iand hx hb hd (K cls hl)
theorem ax_s_ior (hx : p.tables.exec = Jvm.exec) (hb : c.code = ax_code m) (hv : ax_vok av) {ls st ls1 st1 : List Value} {h h1 : AH} {pc1 : Nat} (hs : ax_step ph m .ior pc ls st h = some (pc1, ls1, st1, h1)) (hd : decode (ax_code m) pc = .ok (.ior, 1)) (hl : ax_Lr base av ls cls) (K : ∀ cls1, ax_Lr base av ls1 cls1 → ax_W base av p l e R s mth args below meth c H locs cells slots Q pc1 cls1 st1) : ax_W base av p l e R s mth args below meth c H locs cells slots Q pc cls st := by
  obtain ⟨r1, hr, e1⟩ := Option.map_eq_some_iff.mp hs
  cases e1
  obtain ⟨x, y, r, v, rfl, h2, rfl⟩ := ax_ii_inv hr
  cases h2
  exact lv_ior hx hb hd (K cls hl)
theorem ax_s_ixor (hx : p.tables.exec = Jvm.exec) (hb : c.code = ax_code m) (hv : ax_vok av) {ls st ls1 st1 : List Value} {h h1 : AH} {pc1 : Nat} (hs : ax_step ph m .ixor pc ls st h = some (pc1, ls1, st1, h1)) (hd : decode (ax_code m) pc = .ok (.ixor, 1)) (hl : ax_Lr base av ls cls) (K : ∀ cls1, ax_Lr base av ls1 cls1 → ax_W base av p l e R s mth args below meth c H locs cells slots Q pc1 cls1 st1) : ax_W base av p l e R s mth args below meth c H locs cells slots Q pc cls st := by
  obtain ⟨r1, hr, e1⟩ := Option.map_eq_some_iff.mp hs
  cases e1
  obtain ⟨x, y, r, v, rfl, h2, rfl⟩ := ax_ii_inv hr
  cases h2
  exact lv_ixor hx hb hd (K cls hl)
theorem ax_s_idiv (hx : p.tables.exec = Jvm.exec) (hb : c.code = ax_code m) (hv : ax_vok av) {ls st ls1 st1 : List Value} {h h1 : AH} {pc1 : Nat} (hs : ax_step ph m .idiv pc ls st h = some (pc1, ls1, st1, h1)) (hd : decode (ax_code m) pc = .ok (.idiv, 1)) (hl : ax_Lr base av ls cls) (K : ∀ cls1, ax_Lr base av ls1 cls1 → ax_W base av p l e R s mth args below meth c H locs cells slots Q pc1 cls1 st1) : ax_W base av p l e R s mth args below meth c H locs cells slots Q pc cls st := by
  obtain ⟨r1, hr, e1⟩ := Option.map_eq_some_iff.mp hs
  cases e1
  obtain ⟨x, y, r, v, rfl, h2, rfl⟩ := ax_ii_inv hr
  split at h2
  · cases h2
  · rename_i h0
    cases h2
    exact lv_idiv hx hb hd h0 (K cls hl)
theorem ax_s_irem (hx : p.tables.exec = Jvm.exec) (hb : c.code = ax_code m) (hv : ax_vok av) {ls st ls1 st1 : List Value} {h h1 : AH} {pc1 : Nat} (hs : ax_step ph m .irem pc ls st h = some (pc1, ls1, st1, h1)) (hd : decode (ax_code m) pc = .ok (.irem, 1)) (hl : ax_Lr base av ls cls) (K : ∀ cls1, ax_Lr base av ls1 cls1 → ax_W base av p l e R s mth args below meth c H locs cells slots Q pc1 cls1 st1) : ax_W base av p l e R s mth args below meth c H locs cells slots Q pc cls st := by
  obtain ⟨r1, hr, e1⟩ := Option.map_eq_some_iff.mp hs
  cases e1
  obtain ⟨x, y, r, v, rfl, h2, rfl⟩ := ax_ii_inv hr
  split at h2
  · cases h2
  · rename_i h0
    cases h2
    exact lv_irem hx hb hd h0 (K cls hl)
theorem ax_s_ishl (hx : p.tables.exec = Jvm.exec) (hb : c.code = ax_code m) (hv : ax_vok av) {ls st ls1 st1 : List Value} {h h1 : AH} {pc1 : Nat} (hs : ax_step ph m .ishl pc ls st h = some (pc1, ls1, st1, h1)) (hd : decode (ax_code m) pc = .ok (.ishl, 1)) (hl : ax_Lr base av ls cls) (K : ∀ cls1, ax_Lr base av ls1 cls1 → ax_W base av p l e R s mth args below meth c H locs cells slots Q pc1 cls1 st1) : ax_W base av p l e R s mth args below meth c H locs cells slots Q pc cls st := by
  obtain ⟨r1, hr, e1⟩ := Option.map_eq_some_iff.mp hs
  cases e1
  obtain ⟨x, y, r, v, rfl, h2, rfl⟩ := ax_ii_inv hr
  cases h2
  exact lv_ishl hx hb hd (K cls hl)
theorem ax_s_ishr (hx : p.tables.exec = Jvm.exec) (hb : c.code = ax_code m) (hv : ax_vok av) {ls st ls1 st1 : List Value} {h h1 : AH} {pc1 : Nat} (hs : ax_step ph m .ishr pc ls st h = some (pc1, ls1, st1, h1)) (hd : decode (ax_code m) pc = .ok (.ishr, 1)) (hl : ax_Lr base av ls cls) (K : ∀ cls1, ax_Lr base av ls1 cls1 → ax_W base av p l e R s mth args below meth c H locs cells slots Q pc1 cls1 st1) : ax_W base av p l e R s mth args below meth c H locs cells slots Q pc cls st := by
  obtain ⟨r1, hr, e1⟩ := Option.map_eq_some_iff.mp hs
  cases e1
  obtain ⟨x, y, r, v, rfl, h2, rfl⟩ := ax_ii_inv hr
  cases h2
  exact lv_ishr hx hb hd (K cls hl)
theorem ax_s_iushr (hx : p.tables.exec = Jvm.exec) (hb : c.code = ax_code m) (hv : ax_vok av) {ls st ls1 st1 : List Value} {h h1 : AH} {pc1 : Nat} (hs : ax_step ph m .iushr pc ls st h = some (pc1, ls1, st1, h1)) (hd : decode (ax_code m) pc = .ok (.iushr, 1)) (hl : ax_Lr base av ls cls) (K : ∀ cls1, ax_Lr base av ls1 cls1 → ax_W base av p l e R s mth args below meth c H locs cells slots Q pc1 cls1 st1) : ax_W base av p l e R s mth args below meth c H locs cells slots Q pc cls st := by
  obtain ⟨r1, hr, e1⟩ := Option.map_eq_some_iff.mp hs
  cases e1
  obtain ⟨x, y, r, v, rfl, h2, rfl⟩ := ax_ii_inv hr
  cases h2
  exact lv_iushr hx hb hd rfl (K cls hl)
theorem ax_s_ladd (hx : p.tables.exec = Jvm.exec) (hb : c.code = ax_code m) (hv : ax_vok av) {ls st ls1 st1 : List Value} {h h1 : AH} {pc1 : Nat} (hs : ax_step ph m .ladd pc ls st h = some (pc1, ls1, st1, h1)) (hd : decode (ax_code m) pc = .ok (.ladd, 1)) (hl : ax_Lr base av ls cls) (K : ∀ cls1, ax_Lr base av ls1 cls1 → ax_W base av p l e R s mth args below meth c H locs cells slots Q pc1 cls1 st1) : ax_W base av p l e R s mth args below meth c H locs cells slots Q pc cls st := by
  obtain ⟨r1, hr, e1⟩ := Option.map_eq_some_iff.mp hs
  cases e1
  obtain ⟨x, y, r, v, rfl, h2, rfl⟩ := ax_ll_inv hr
  cases h2
  exact lv_ladd hx hb hd (K cls hl)
theorem ax_s_lmul (hx : p.tables.exec = Jvm.exec) (hb : c.code = ax_code m) (hv : ax_vok av) {ls st ls1 st1 : List Value} {h h1 : AH} {pc1 : Nat} (hs : ax_step ph m .lmul pc ls st h = some (pc1, ls1, st1, h1)) (hd : decode (ax_code m) pc = .ok (.lmul, 1)) (hl : ax_Lr base av ls cls) (K : ∀ cls1, ax_Lr base av ls1 cls1 → ax_W base av p l e R s mth args below meth c H locs cells slots Q pc1 cls1 st1) : ax_W base av p l e R s mth args below meth c H locs cells slots Q pc cls st := by
  obtain ⟨r1, hr, e1⟩ := Option.map_eq_some_iff.mp hs
  cases e1
  obtain ⟨x, y, r, v, rfl, h2, rfl⟩ := ax_ll_inv hr
  cases h2
  exact lv_lmul hx hb hd (K cls hl)
theorem ax_s_land (hx : p.tables.exec = Jvm.exec) (hb : c.code = ax_code m) (hv : ax_vok av) {ls st ls1 st1 : List Value} {h h1 : AH} {pc1 : Nat} (hs : ax_step ph m .land pc ls st h = some (pc1, ls1, st1, h1)) (hd : decode (ax_code m) pc = .ok (.land, 1)) (hl : ax_Lr base av ls cls) (K : ∀ cls1, ax_Lr base av ls1 cls1 → ax_W base av p l e R s mth args below meth c H locs cells slots Q pc1 cls1 st1) : ax_W base av p l e R s mth args below meth c H locs cells slots Q pc cls st := by
  obtain ⟨r1, hr, e1⟩ := Option.map_eq_some_iff.mp hs
  cases e1
  obtain ⟨x, y, r, v, rfl, h2, rfl⟩ := ax_ll_inv hr
  cases h2
  exact lv_land hx hb hd (K cls hl)
theorem ax_s_lor (hx : p.tables.exec = Jvm.exec) (hb : c.code = ax_code m) (hv : ax_vok av) {ls st ls1 st1 : List Value} {h h1 : AH} {pc1 : Nat} (hs : ax_step ph m .lor pc ls st h = some (pc1, ls1, st1, h1)) (hd : decode (ax_code m) pc = .ok (.lor, 1)) (hl : ax_Lr base av ls cls) (K : ∀ cls1, ax_Lr base av ls1 cls1 → ax_W base av p l e R s mth args below meth c H locs cells slots Q pc1 cls1 st1) : ax_W base av p l e R s mth args below meth c H locs cells slots Q pc cls st := by
  obtain ⟨r1, hr, e1⟩ := Option.map_eq_some_iff.mp hs
  cases e1
  obtain ⟨x, y, r, v, rfl, h2, rfl⟩ := ax_ll_inv hr
  cases h2
  exact lv_lor hx hb hd (K cls hl)
theorem ax_s_ldiv (hx : p.tables.exec = Jvm.exec) (hb : c.code = ax_code m) (hv : ax_vok av) {ls st ls1 st1 : List Value} {h h1 : AH} {pc1 : Nat} (hs : ax_step ph m .ldiv pc ls st h = some (pc1, ls1, st1, h1)) (hd : decode (ax_code m) pc = .ok (.ldiv, 1)) (hl : ax_Lr base av ls cls) (K : ∀ cls1, ax_Lr base av ls1 cls1 → ax_W base av p l e R s mth args below meth c H locs cells slots Q pc1 cls1 st1) : ax_W base av p l e R s mth args below meth c H locs cells slots Q pc cls st := by
  obtain ⟨r1, hr, e1⟩ := Option.map_eq_some_iff.mp hs
  cases e1
  obtain ⟨x, y, r, v, rfl, h2, rfl⟩ := ax_ll_inv hr
  split at h2
  · cases h2
  · rename_i h0
    cases h2
    exact lv_ldiv hx hb hd h0 (K cls hl)
theorem ax_s_lrem (hx : p.tables.exec = Jvm.exec) (hb : c.code = ax_code m) (hv : ax_vok av) {ls st ls1 st1 : List Value} {h h1 : AH} {pc1 : Nat} (hs : ax_step ph m .lrem pc ls st h = some (pc1, ls1, st1, h1)) (hd : decode (ax_code m) pc = .ok (.lrem, 1)) (hl : ax_Lr base av ls cls) (K : ∀ cls1, ax_Lr base av ls1 cls1 → ax_W base av p l e R s mth args below meth c H locs cells slots Q pc1 cls1 st1) : ax_W base av p l e R s mth args below meth c H locs cells slots Q pc cls st := by
  obtain ⟨r1, hr, e1⟩ := Option.map_eq_some_iff.mp hs
  cases e1
  obtain ⟨x, y, r, v, rfl, h2, rfl⟩ := ax_ll_inv hr
  split at h2
  · cases h2
  · rename_i h0
    cases h2
    exact lv_lrem hx hb hd h0 (K cls hl)
theorem ax_s_lcmp (hx : p.tables.exec = Jvm.exec) (hb : c.code = ax_code m) (hv : ax_vok av) {ls st ls1 st1 : List Value} {h h1 : AH} {pc1 : Nat} (hs : ax_step ph m .lcmp pc ls st h = some (pc1, ls1, st1, h1)) (hd : decode (ax_code m) pc = .ok (.lcmp, 1)) (hl : ax_Lr base av ls cls) (K : ∀ cls1, ax_Lr base av ls1 cls1 → ax_W base av p l e R s mth args below meth c H locs cells slots Q pc1 cls1 st1) : ax_W base av p l e R s mth args below meth c H locs cells slots Q pc cls st := by
  obtain ⟨r1, hr, e1⟩ := Option.map_eq_some_iff.mp hs
  cases e1
  obtain ⟨x, y, r, v, rfl, h2, rfl⟩ := ax_ll_inv hr
  cases h2
  exact W.lcmp hx hb hd (K cls hl)
theorem ax_s_lshl (hx : p.tables.exec = Jvm.exec) (hb : c.code = ax_code m) (hv : ax_vok av) {ls st ls1 st1 : List Value} {h h1 : AH} {pc1 : Nat} (hs : ax_step ph m .lshl pc ls st h = some (pc1, ls1, st1, h1)) (hd : decode (ax_code m) pc = .ok (.lshl, 1)) (hl : ax_Lr base av ls cls) (K : ∀ cls1, ax_Lr base av ls1 cls1 → ax_W base av p l e R s mth args below meth c H locs cells slots Q pc1 cls1 st1) : ax_W base av p l e R s mth args below meth c H locs cells slots Q pc cls st := by
  obtain ⟨r1, hr, e1⟩ := Option.map_eq_some_iff.mp hs
  cases e1
  obtain ⟨x, y, r, v, rfl, h2, rfl⟩ := ax_li_inv hr
  cases h2
  exact lv_lshl hx hb hd rfl (K cls hl)
theorem ax_s_lshr (hx : p.tables.exec = Jvm.exec) (hb : c.code = ax_code m) (hv : ax_vok av) {ls st ls1 st1 : List Value} {h h1 : AH} {pc1 : Nat} (hs : ax_step ph m .lshr pc ls st h = some (pc1, ls1, st1, h1)) (hd : decode (ax_code m) pc = .ok (.lshr, 1)) (hl : ax_Lr base av ls cls) (K : ∀ cls1, ax_Lr base av ls1 cls1 → ax_W base av p l e R s mth args below meth c H locs cells slots Q pc1 cls1 st1) : ax_W base av p l e R s mth args below meth c H locs cells slots Q pc cls st := by
  obtain ⟨r1, hr, e1⟩ := Option.map_eq_some_iff.mp hs
  cases e1
  obtain ⟨x, y, r, v, rfl, h2, rfl⟩ := ax_li_inv hr
  cases h2
  exact lv_lshr hx hb hd rfl (K cls hl)
theorem ax_s_lneg (hx : p.tables.exec = Jvm.exec) (hb : c.code = ax_code m) (hv : ax_vok av) {ls st ls1 st1 : List Value} {h h1 : AH} {pc1 : Nat} (hs : ax_step ph m .lneg pc ls st h = some (pc1, ls1, st1, h1)) (hd : decode (ax_code m) pc = .ok (.lneg, 1)) (hl : ax_Lr base av ls cls) (K : ∀ cls1, ax_Lr base av ls1 cls1 → ax_W base av p l e R s mth args below meth c H locs cells slots Q pc1 cls1 st1) : ax_W base av p l e R s mth args below meth c H locs cells slots Q pc cls st := by
  obtain ⟨r1, hr, e1⟩ := Option.map_eq_some_iff.mp hs
  cases e1
  obtain ⟨x, r, rfl, rfl⟩ := ax_l_inv hr
  exact lv_lneg hx hb hd (K cls hl)
theorem ax_s_i2l (hx : p.tables.exec = Jvm.exec) (hb : c.code = ax_code m) (hv : ax_vok av) {ls st ls1 st1 : List Value} {h h1 : AH} {pc1 : Nat} (hs : ax_step ph m .i2l pc ls st h = some (pc1, ls1, st1, h1)) (hd : decode (ax_code m) pc = .ok (.i2l, 1)) (hl : ax_Lr base av ls cls) (K : ∀ cls1, ax_Lr base av ls1 cls1 → ax_W base av p l e R s mth args below meth c H locs cells slots Q pc1 cls1 st1) : ax_W base av p l e R s mth args below meth c H locs cells slots Q pc cls st := by
  obtain ⟨r1, hr, e1⟩ := Option.map_eq_some_iff.mp hs
  cases e1
  obtain ⟨x, r, rfl, rfl⟩ := ax_i_inv hr
  exact lv_i2l hx hb hd rfl (K cls hl)
theorem ax_s_l2i (hx : p.tables.exec = Jvm.exec) (hb : c.code = ax_code m) (hv : ax_vok av) {ls st ls1 st1 : List Value} {h h1 : AH} {pc1 : Nat} (hs : ax_step ph m .l2i pc ls st h = some (pc1, ls1, st1, h1)) (hd : decode (ax_code m) pc = .ok (.l2i, 1)) (hl : ax_Lr base av ls cls) (K : ∀ cls1, ax_Lr base av ls1 cls1 → ax_W base av p l e R s mth args below meth c H locs cells slots Q pc1 cls1 st1) : ax_W base av p l e R s mth args below meth c H locs cells slots Q pc cls st := by
  obtain ⟨r1, hr, e1⟩ := Option.map_eq_some_iff.mp hs
  cases e1
  obtain ⟨x, r, rfl, rfl⟩ := ax_l_inv hr
  exact lv_l2i hx hb hd rfl (K cls hl)
theorem ax_s_l2d (hx : p.tables.exec = Jvm.exec) (hb : c.code = ax_code m) (hv : ax_vok av) {ls st ls1 st1 : List Value} {h h1 : AH} {pc1 : Nat} (hs : ax_step ph m .l2d pc ls st h = some (pc1, ls1, st1, h1)) (hd : decode (ax_code m) pc = .ok (.l2d, 1)) (hl : ax_Lr base av ls cls) (K : ∀ cls1, ax_Lr base av ls1 cls1 → ax_W base av p l e R s mth args below meth c H locs cells slots Q pc1 cls1 st1) : ax_W base av p l e R s mth args below meth c H locs cells slots Q pc cls st := by
  obtain ⟨r1, hr, e1⟩ := Option.map_eq_some_iff.mp hs
  cases e1
  obtain ⟨x, r, rfl, rfl⟩ := ax_l_inv hr
  exact lv_l2d hx hb hd (K cls hl)
theorem ax_s_i2c (hx : p.tables.exec = Jvm.exec) (hb : c.code = ax_code m) (hv : ax_vok av) {ls st ls1 st1 : List Value} {h h1 : AH} {pc1 : Nat} (hs : ax_step ph m .i2c pc ls st h = some (pc1, ls1, st1, h1)) (hd : decode (ax_code m) pc = .ok (.i2c, 1)) (hl : ax_Lr base av ls cls) (K : ∀ cls1, ax_Lr base av ls1 cls1 → ax_W base av p l e R s mth args below meth c H locs cells slots Q pc1 cls1 st1) : ax_W base av p l e R s mth args below meth c H locs cells slots Q pc cls st := by
  obtain ⟨r1, hr, e1⟩ := Option.map_eq_some_iff.mp hs
  cases e1
  obtain ⟨x, r, rfl, rfl⟩ := ax_i_inv hr
  exact lv_i2c hx hb hd rfl (K cls hl)
theorem ax_cat1 {base : Nat} {av : Nat → Value} (hv : ax_vok av) {v : Value} (h : ax_kd v = 0 ∨ ax_kd v = 2) : (ax_cv base av v).category = 1 := by
  rw [ax_cv_cat hv]
  have : ax_isL v = false := by cases v <;> first | rfl | (simp [ax_kd] at h)
  rw [this]; rfl
theorem ax_s_dup (hx : p.tables.exec = Jvm.exec) (hb : c.code = ax_code m) (hv : ax_vok av) {ls st ls1 st1 : List Value} {h h1 : AH} {pc1 : Nat} (hs : ax_step ph m .dup pc ls st h = some (pc1, ls1, st1, h1)) (hd : decode (ax_code m) pc = .ok (.dup, 1)) (hl : ax_Lr base av ls cls) (K : ∀ cls1, ax_Lr base av ls1 cls1 → ax_W base av p l e R s mth args below meth c H locs cells slots Q pc1 cls1 st1) : ax_W base av p l e R s mth args below meth c H locs cells slots Q pc cls st := by
  cases st with
  | nil => cases hs
  | cons v r =>
    have hs1 : (if ax_kd v = 0 ∨ ax_kd v = 2 then some (pc + 1, ls, v :: v :: r, h) else none) = some (pc1, ls1, st1, h1) := hs
    split at hs1
    · rename_i h0
      cases hs1
      exact lv_dup hx hb hd (ax_cat1 hv h0) (K cls hl)
    · cases hs1
theorem ax_s_pop (hx : p.tables.exec = Jvm.exec) (hb : c.code = ax_code m) (hv : ax_vok av) {ls st ls1 st1 : List Value} {h h1 : AH} {pc1 : Nat} (hs : ax_step ph m .pop pc ls st h = some (pc1, ls1, st1, h1)) (hd : decode (ax_code m) pc = .ok (.pop, 1)) (hl : ax_Lr base av ls cls) (K : ∀ cls1, ax_Lr base av ls1 cls1 → ax_W base av p l e R s mth args below meth c H locs cells slots Q pc1 cls1 st1) : ax_W base av p l e R s mth args below meth c H locs cells slots Q pc cls st := by
  cases st with
  | nil => cases hs
  | cons v r =>
    have hs1 : (if ax_kd v = 0 ∨ ax_kd v = 2 then some (pc + 1, ls, r, h) else none) = some (pc1, ls1, st1, h1) := hs
    split at hs1
    · rename_i h0
      cases hs1
      exact lv_pop hx hb hd (ax_cat1 hv h0) (K cls hl)
    · cases hs1
theorem ax_s_dup2 (hx : p.tables.exec = Jvm.exec) (hb : c.code = ax_code m) (hv : ax_vok av) {ls st ls1 st1 : List Value} {h h1 : AH} {pc1 : Nat} (hs : ax_step ph m .dup2 pc ls st h = some (pc1, ls1, st1, h1)) (hd : decode (ax_code m) pc = .ok (.dup2, 1)) (hl : ax_Lr base av ls cls) (K : ∀ cls1, ax_Lr base av ls1 cls1 → ax_W base av p l e R s mth args below meth c H locs cells slots Q pc1 cls1 st1) : ax_W base av p l e R s mth args below meth c H locs cells slots Q pc cls st := by
  rcases st with _ | ⟨v, _ | ⟨w, r⟩⟩
  · cases hs
  · cases hs
  · have hs1 : (if (ax_kd v = 0 ∨ ax_kd v = 2) ∧ (ax_kd w = 0 ∨ ax_kd w = 2) then some (pc + 1, ls, v :: w :: v :: w :: r, h) else none) = some (pc1, ls1, st1, h1) := hs
    split at hs1
    · rename_i h0
      cases hs1
      exact lv_dup2_11 hx hb hd (ax_cat1 hv h0.1) (ax_cat1 hv h0.2) (K cls hl)
    · cases hs1
theorem ax_s_dup_x1 (hx : p.tables.exec = Jvm.exec) (hb : c.code = ax_code m) (hv : ax_vok av) {ls st ls1 st1 : List Value} {h h1 : AH} {pc1 : Nat} (hs : ax_step ph m .dup_x1 pc ls st h = some (pc1, ls1, st1, h1)) (hd : decode (ax_code m) pc = .ok (.dup_x1, 1)) (hl : ax_Lr base av ls cls) (K : ∀ cls1, ax_Lr base av ls1 cls1 → ax_W base av p l e R s mth args below meth c H locs cells slots Q pc1 cls1 st1) : ax_W base av p l e R s mth args below meth c H locs cells slots Q pc cls st := by
  rcases st with _ | ⟨v, _ | ⟨w, r⟩⟩
  · cases hs
  · cases hs
  · have hs1 : (if (ax_kd v = 0 ∨ ax_kd v = 2) ∧ (ax_kd w = 0 ∨ ax_kd w = 2) then some (pc + 1, ls, v :: w :: v :: r, h) else none) = some (pc1, ls1, st1, h1) := hs
    split at hs1
    · rename_i h0
      cases hs1
      exact lv_dup_x1 hx hb hd (ax_cat1 hv h0.1) (ax_cat1 hv h0.2) (K cls hl)
    · cases hs1
theorem ax_s_goto {off : Int} (hx : p.tables.exec = Jvm.exec) (hb : c.code = ax_code m) (hv : ax_vok av) {ls st ls1 st1 : List Value} {h h1 : AH} {pc1 : Nat} (hs : ax_step ph m (.goto off) pc ls st h = some (pc1, ls1, st1, h1)) (hd : decode (ax_code m) pc = .ok (.goto off, 3)) (hl : ax_Lr base av ls cls) (K : ∀ cls1, ax_Lr base av ls1 cls1 → ax_W base av p l e R s mth args below meth c H locs cells slots Q pc1 cls1 st1) : ax_W base av p l e R s mth args below meth c H locs cells slots Q pc cls st := by
  obtain ⟨t, ht, e1⟩ := Option.map_eq_some_iff.mp hs
  cases e1
  exact lv_goto hx hb hd (ax_tg_inv ht) (K cls hl)
theorem ax_s_if {cd : Jvm.ClassFile.Cond} {off : Int} (hx : p.tables.exec = Jvm.exec) (hb : c.code = ax_code m) (hv : ax_vok av) {ls st ls1 st1 : List Value} {h h1 : AH} {pc1 : Nat} (hs : ax_step ph m (.ifCond cd off) pc ls st h = some (pc1, ls1, st1, h1)) (hd : decode (ax_code m) pc = .ok (.ifCond cd off, 3)) (hl : ax_Lr base av ls cls) (K : ∀ cls1, ax_Lr base av ls1 cls1 → ax_W base av p l e R s mth args below meth c H locs cells slots Q pc1 cls1 st1) : ax_W base av p l e R s mth args below meth c H locs cells slots Q pc cls st := by
  have hs1 := hs
  simp only [ax_step] at hs1
  split at hs1
  · rename_i x r
    obtain ⟨t, ht, e1⟩ := Option.map_eq_some_iff.mp hs1
    cases e1
    have ht := ax_tg_inv ht
    have K := K cls hl
    cases cd
    · exact lv_if_eq hx hb hd ht (fun q => by rw [if_pos (by simp [ax_c0, q])] at K; exact K) (fun q => by rw [if_neg (by simp [ax_c0, q])] at K; exact K)
    · exact lv_if_ne hx hb hd ht (fun q => by rw [if_pos (by simp [ax_c0, q])] at K; exact K) (fun q => by rw [if_neg (by simp [ax_c0, q])] at K; exact K)
    · exact lv_if_lt hx hb hd ht (fun q => by rw [if_pos (by simp [ax_c0, q])] at K; exact K) (fun q => by rw [if_neg (by simp [ax_c0, q])] at K; exact K)
    · exact lv_if_ge hx hb hd ht (fun q => by rw [if_pos (by simp [ax_c0, q])] at K; exact K) (fun q => by rw [if_neg (by simp [ax_c0, q])] at K; exact K)
    · exact lv_if_gt hx hb hd ht (fun q => by rw [if_pos (by simp [ax_c0, q])] at K; exact K) (fun q => by rw [if_neg (by simp [ax_c0, q])] at K; exact K)
    · exact lv_if_le hx hb hd ht (fun q => by rw [if_pos (by simp [ax_c0, q])] at K; exact K) (fun q => by rw [if_neg (by simp [ax_c0, q])] at K; exact K)
  · cases hs1
theorem ax_s_icmp {cd : Jvm.ClassFile.Cond} {off : Int} (hx : p.tables.exec = Jvm.exec) (hb : c.code = ax_code m) (hv : ax_vok av) {ls st ls1 st1 : List Value} {h h1 : AH} {pc1 : Nat} (hs : ax_step ph m (.if_icmp cd off) pc ls st h = some (pc1, ls1, st1, h1)) (hd : decode (ax_code m) pc = .ok (.if_icmp cd off, 3)) (hl : ax_Lr base av ls cls) (K : ∀ cls1, ax_Lr base av ls1 cls1 → ax_W base av p l e R s mth args below meth c H locs cells slots Q pc1 cls1 st1) : ax_W base av p l e R s mth args below meth c H locs cells slots Q pc cls st := by
  have hs1 := hs
  simp only [ax_step] at hs1
  split at hs1
  · rename_i y x r
    obtain ⟨t, ht, e1⟩ := Option.map_eq_some_iff.mp hs1
    cases e1
    have ht := ax_tg_inv ht
    have K := K cls hl
    cases cd
    · exact lv_icmp_eq hx hb hd ht (fun q => by rw [if_pos (by simp [ax_c2, q])] at K; exact K) (fun q => by rw [if_neg (by simp [ax_c2, q])] at K; exact K)
    · exact lv_icmp_ne hx hb hd ht (fun q => by rw [if_pos (by simp [ax_c2, q])] at K; exact K) (fun q => by rw [if_neg (by simp [ax_c2, q])] at K; exact K)
    · exact lv_icmp_lt hx hb hd ht (fun q => by rw [if_pos (by simp [ax_c2, q])] at K; exact K) (fun q => by rw [if_neg (by simp [ax_c2, q])] at K; exact K)
    · exact lv_icmp_ge hx hb hd ht (fun q => by rw [if_pos (by simp [ax_c2, q])] at K; exact K) (fun q => by rw [if_neg (by simp [ax_c2, q])] at K; exact K)
    · exact lv_icmp_gt hx hb hd ht (fun q => by rw [if_pos (by simp [ax_c2, q])] at K; exact K) (fun q => by rw [if_neg (by simp [ax_c2, q])] at K; exact K)
    · exact lv_icmp_le hx hb hd ht (fun q => by rw [if_pos (by simp [ax_c2, q])] at K; exact K) (fun q => by rw [if_neg (by simp [ax_c2, q])] at K; exact K)
  · cases hs1
/-- no constant that stands on a stack, but the ninth, is null -/
def ax_vnn (av : Nat → Value) : Prop := ∀ k, k < 64 → k ≠ 9 → ∃ a, av k = .ref a
theorem ax_cv_nn {base : Nat} {av : Nat → Value} (hn : ax_vnn av) {k : Nat} (h : k ≠ 9) : ∃ a, ax_cv base av (.ref k) = .ref a := by
  show ∃ a, ax_adr base av k = .ref a
  unfold ax_adr
  by_cases hk : k < 64
  · rw [if_pos hk]; exact hn k hk h
  · rw [if_neg hk]; exact ⟨_, rfl⟩
theorem ax_s_ifnull {off : Int} (hn : ax_vnn av) (hx : p.tables.exec = Jvm.exec) (hb : c.code = ax_code m) (hv : ax_vok av) {ls st ls1 st1 : List Value} {h h1 : AH} {pc1 : Nat} (hs : ax_step ph m (.ifnull off) pc ls st h = some (pc1, ls1, st1, h1)) (hd : decode (ax_code m) pc = .ok (.ifnull off, 3)) (hl : ax_Lr base av ls cls) (K : ∀ cls1, ax_Lr base av ls1 cls1 → ax_W base av p l e R s mth args below meth c H locs cells slots Q pc1 cls1 st1) : ax_W base av p l e R s mth args below meth c H locs cells slots Q pc cls st := by
  have hs1 := hs
  simp only [ax_step] at hs1
  split at hs1
  · obtain ⟨t, ht, e1⟩ := Option.map_eq_some_iff.mp hs1
    cases e1
    exact lv_ifnullN hx hb hd (ax_tg_inv ht) (K cls hl)
  · split at hs1
    · cases hs1
    · rename_i h0
      cases hs1
      obtain ⟨a, ha⟩ := ax_cv_nn (base := base) hn h0
      unfold ax_W at K ⊢
      rw [List.map_cons, ha]
      exact lv_ifnull hx hb hd (K cls hl)
  · cases hs1
theorem ax_s_ifnonnull {off : Int} (hn : ax_vnn av) (hx : p.tables.exec = Jvm.exec) (hb : c.code = ax_code m) (hv : ax_vok av) {ls st ls1 st1 : List Value} {h h1 : AH} {pc1 : Nat} (hs : ax_step ph m (.ifnonnull off) pc ls st h = some (pc1, ls1, st1, h1)) (hd : decode (ax_code m) pc = .ok (.ifnonnull off, 3)) (hl : ax_Lr base av ls cls) (K : ∀ cls1, ax_Lr base av ls1 cls1 → ax_W base av p l e R s mth args below meth c H locs cells slots Q pc1 cls1 st1) : ax_W base av p l e R s mth args below meth c H locs cells slots Q pc cls st := by
  have hs1 := hs
  simp only [ax_step] at hs1
  split at hs1
  · cases hs1
    exact lv_ifnonnullN hx hb hd (K cls hl)
  · split at hs1
    · cases hs1
    · rename_i h0
      obtain ⟨t, ht, e1⟩ := Option.map_eq_some_iff.mp hs1
      cases e1
      obtain ⟨a, ha⟩ := ax_cv_nn (base := base) hn h0
      unfold ax_W at K ⊢
      rw [List.map_cons, ha]
      exact lv_ifnonnull hx hb hd (ax_tg_inv ht) (K cls hl)
  · cases hs1
theorem ax_lt8 {x : Nat} (h : x < 8) : x ≠ 9 ∧ x < 64 := by omega
theorem ax_cv_c {base : Nat} {av : Nat → Value} {k : Nat} (h : k < 64) : ax_cv base av (.ref k) = av k := if_pos h
theorem ax_s_acmp {cd : ACond} {off : Int} (hn : ax_vnn av) (hi : ∀ i j, i < 8 → j < 8 → av i = av j → i = j) (hx : p.tables.exec = Jvm.exec) (hb : c.code = ax_code m) (hv : ax_vok av) {ls st ls1 st1 : List Value} {h h1 : AH} {pc1 : Nat} (hs : ax_step ph m (.if_acmp cd off) pc ls st h = some (pc1, ls1, st1, h1)) (hd : decode (ax_code m) pc = .ok (.if_acmp cd off, 3)) (hl : ax_Lr base av ls cls) (K : ∀ cls1, ax_Lr base av ls1 cls1 → ax_W base av p l e R s mth args below meth c H locs cells slots Q pc1 cls1 st1) : ax_W base av p l e R s mth args below meth c H locs cells slots Q pc cls st := by
  have hs1 := hs
  simp only [ax_step] at hs1
  split at hs1
  · rename_i y x r
    split at hs1
    · rename_i h0
      obtain ⟨t, ht, e1⟩ := Option.map_eq_some_iff.mp hs1
      cases e1
      have ht := ax_tg_inv ht
      have K := K cls hl
      obtain ⟨ay, hay⟩ := ax_cv_nn (base := base) hn (k := y) (ax_lt8 h0.2).1
      obtain ⟨ax, hax⟩ := ax_cv_nn (base := base) hn (k := x) (ax_lt8 h0.1).1
      have hxy : ((some ax : Option Nat) = some ay) ↔ x = y := by
        constructor
        · intro q
          have q1 : ax = ay := Option.some.inj q
          refine hi x y h0.1 h0.2 ?_
          have e1 : av x = .ref ax := (ax_cv_c (base := base) (ax_lt8 h0.1).2).symm.trans hax
          have e2 : av y = .ref ay := (ax_cv_c (base := base) (ax_lt8 h0.2).2).symm.trans hay
          rw [e1, e2, q1]
        · intro q
          subst q
          rw [hax] at hay
          cases hay
          rfl
      unfold ax_W at K ⊢
      rw [List.map_cons, List.map_cons, hay, hax]
      cases cd
      · exact lv_acmp_eq (rx := some ax) (ry := some ay) hx hb hd ht (fun q => by rw [if_pos (by simp [hxy.mp q])] at K; exact K) (fun q => by rw [if_neg (by simp; exact fun z => q (hxy.mpr z))] at K; exact K)
      · exact lv_acmp_ne (rx := some ax) (ry := some ay) hx hb hd ht (fun q => by rw [if_pos (by simp; exact fun z => q (hxy.mpr z))] at K; exact K) (fun q => by rw [if_neg (by simp [hxy.mp q])] at K; exact K)
    · cases hs1
  · cases hs1
theorem ax_s_tsw {d lo hi : Int} {offs : Array Int} {len : Nat} (hx : p.tables.exec = Jvm.exec) (hb : c.code = ax_code m) (hv : ax_vok av) {ls st ls1 st1 : List Value} {h h1 : AH} {pc1 : Nat} (hs : ax_step ph m (.tableswitch d lo hi offs) pc ls st h = some (pc1, ls1, st1, h1)) (hd : decode (ax_code m) pc = .ok (.tableswitch d lo hi offs, len)) (hl : ax_Lr base av ls cls) (K : ∀ cls1, ax_Lr base av ls1 cls1 → ax_W base av p l e R s mth args below meth c H locs cells slots Q pc1 cls1 st1) : ax_W base av p l e R s mth args below meth c H locs cells slots Q pc cls st := by
  have hs1 := hs
  simp only [ax_step] at hs1
  split at hs1
  · rename_i x r
    split at hs1
    · rename_i h0
      obtain ⟨t, ht, e1⟩ := Option.map_eq_some_iff.mp hs1
      cases e1
      exact lv_tableOut hx hb hd h0 (ax_tg_inv ht) (K cls hl)
    · rename_i h0
      split at hs1
      · rename_i off ho
        obtain ⟨t, ht, e1⟩ := Option.map_eq_some_iff.mp hs1
        cases e1
        exact lv_tableIn hx hb hd (fun q => h0 (Or.inl q)) (fun q => h0 (Or.inr q)) ho (ax_tg_inv ht) (K cls hl)
      · cases hs1
  · cases hs1
end AxA
