/-! THE SMALL MACHINE IS RIGHT: what it comes to, the real one comes to -/
theorem ax_ent0_len {base : Nat} {av : Nat → Value} (hv : ax_vok av) : ∀ vs : List Value, (lg_sl (vs.map (ax_cv base av))).length = (ax_ent0 vs).length
  | [] => rfl
  | v :: vs => by
    have ih := ax_ent0_len (base := base) hv vs
    unfold lg_sl at ih ⊢
    rw [List.map_cons, List.flatMap_cons, List.length_append, ih]
    rw [ax_cv_cat hv, show ax_ent0 (v :: vs) = if ax_isL v then v :: ax_junk :: ax_ent0 vs else v :: ax_ent0 vs from rfl]
    by_cases q : ax_isL v = true
    · rw [if_pos q, if_pos q, if_pos rfl]
      show 2 + _ = _
      rw [List.length_cons, List.length_cons]
      omega
    · rw [if_neg q, if_neg q, if_neg (by decide)]
      show 1 + _ = _
      rw [List.length_cons]
      omega
theorem ax_ent0_mem {base : Nat} {av : Nat → Value} (hv : ax_vok av) : ∀ (vs : List Value) (k i : Nat) (v : Value), (ax_ent0 vs)[i]? = some v → ax_kd v ≠ 3 → (k + i, ax_cv base av v) ∈ lv_args k (vs.map (ax_cv base av))
  | [], _, i, v, h, _ => by simp [ax_ent0] at h
  | w :: vs, k, i, v, h, hk => by
    unfold ax_ent0 at h
    rw [List.map_cons]
    unfold lv_args
    rw [ax_cv_cat hv]
    by_cases q : ax_isL w = true
    · rw [if_pos q] at h
      rw [if_pos q, if_pos rfl]
      match i, h with
      | 0, h =>
        cases h
        exact List.mem_cons_self
      | 1, h =>
        cases h
        exact absurd rfl hk
      | i + 2, h =>
        have := ax_ent0_mem (base := base) hv vs (k + 2) i v h hk
        rw [show k + (i + 2) = k + 2 + i by omega]
        exact List.mem_cons_of_mem _ this
    · rw [if_neg q] at h
      rw [if_neg q, if_neg (by decide)]
      match i, h with
      | 0, h =>
        cases h
        exact List.mem_cons_self
      | i + 1, h =>
        have := ax_ent0_mem (base := base) hv vs (k + 1) i v h hk
        rw [show k + (i + 1) = k + 1 + i by omega]
        exact List.mem_cons_of_mem _ this
theorem ax_ent_len {vs : List Value} {n : Nat} (h : (ax_ent0 vs).length ≤ n) : (ax_ent vs n).length = n := by
  unfold ax_ent
  rw [List.length_append, List.length_replicate]
  omega
theorem ax_ent_Lr {base : Nat} {av : Nat → Value} (hv : ax_vok av) {vs : List Value} {n : Nat} (h : (ax_ent0 vs).length ≤ n) : ax_Lr base av (ax_ent vs n) ((lg_sl (vs.map (ax_cv base av)) ++ List.replicate (n - (lg_sl (vs.map (ax_cv base av))).length) Slot.unset).toArray) := by
  have h1 := lv_entry (vs.map (ax_cv base av)) (n := n) (by rw [ax_ent0_len hv]; exact h)
  refine ⟨by rw [ax_ent_len h]; exact h1.1, h1.2.1, fun i v hi hk => ?_⟩
  have h2 : (ax_ent0 vs)[i]? = some v := by
    unfold ax_ent at hi
    by_cases q : i < (ax_ent0 vs).length
    · rw [List.getElem?_append_left q] at hi; exact hi
    · rw [List.getElem?_append_right (Nat.not_lt.mp q)] at hi
      rw [List.getElem?_replicate] at hi
      split at hi
      · cases hi; exact absurd rfl hk
      · cases hi
  have h3 := ax_ent0_mem (base := base) hv vs 0 i v h2 hk
  rw [Nat.zero_add] at h3
  exact h1.2.2 _ h3
/-- a call's start and end -/
def ax_Pc (base : Nat) (av : Nat → Value) (D : va_G) (cA : Nat → ClassId) (Hs : Heap) (Ls : Nat) (xs : Nat → Int32) (ph : Bool) (as : List Value) (h : AH) : Array Value → State → Prop := fun v U => v = (as.map (ax_cv base av)).toArray ∧ ax_Rep base av D cA Hs Ls xs ph h U.heap ∧ ax_KC base av D cA Hs Ls xs U
def ax_Qc (base : Nat) (av : Nat → Value) (D : va_G) (cA : Nat → ClassId) (Hs : Heap) (Ls : Nat) (xs : Nat → Int32) (ph : Bool) (r : Option Value) (h1 : AH) : Array Value → State → Outcome → State → Prop := fun _ _ o t => o = .returned (r.map (ax_cv base av)) ∧ ax_Rep base av D cA Hs Ls xs ph h1 t.heap
def ax_rm (d mc ms : Nat) : Room := { frames := d + 2, cells := mc, slots := ms, locals := 100 * (d + 1) }
section AxH
variable {base : Nat} {av : Nat → Value} {D : va_G} {cA : Nat → ClassId} {Hs : Heap} {Ls : Nat} {xs : Nat → Int32} {ph : Bool}
theorem ax_blind {as : List Value} {h : AH} : FrameBlind (ax_Pc base av D cA Hs Ls xs ph as h) := fun _ U g mk q => ⟨q.1, q.2.1, q.2.2.same rfl⟩
/-- behind a call -/
theorem ax_after {p : Program} {l : Launch} {e : Env} {R : Room} {s : State} {mth : MethodId} {args : Array Value} {below : List Frame} {meth : Method} {c : Code} {H : Heap} {locs : List Loc} {cells slots mc ms : Nat} {Q : State → Prop} {pc : Nat} {cls : Array Slot} {st0 rest : List Value} {a : Array Value} {r : Option Value} {h1 : AH}
    (hr : va_Run p l e R s mth args below meth c H locs cells slots mc ms (F0 mth pc cls st0) rest (ax_Qc base av D cA Hs Ls xs ph r h1 a) (fun q => base ≤ q)) (hlo : ∀ q ∈ locs, base ≤ q.base)
    (kk : ∀ H1 locs1, ax_Rep base av D cA Hs Ls xs ph h1 H1 → (∀ q ∈ locs1, base ≤ q.base) → W p l e R s mth args below meth c H1 locs1 (cells + mc) (slots + ms) Q (F0 mth (pc + 3) cls ((r.map (ax_cv base av)).toList ++ rest))) : W p l e R s mth args below meth c H locs cells slots Q (F0 mth pc cls st0) := by
  intro T hT X
  obtain ⟨v, st₀, t, T', L, h0, X', hL, e1, e2, ⟨hv, hb⟩, st⟩ := hr T hT X
  cases hv
  obtain ⟨t2, a1, b1⟩ := kk T'.heap (locs ++ L) (by rw [e1]; exact hb) (fun q hq => by
      rcases List.mem_append.mp hq with h | h
      · exact hlo q h
      · exact hL q h) T' rfl X'
  exact ⟨t2, st t2 a1, b1⟩
/-- what the run of a method comes to, at every state that holds its start -/
def ax_Sound (base : Nat) (av : Nat → Value) (D : va_G) (cA : Nat → ClassId) (Hs : Heap) (Ls : Nat) (xs : Nat → Int32) (ph : Bool) (d m pc : Nat) (ls st : List Value) (h : AH) (r : Option Value) (h9 : AH) : Prop :=
  h.2.2.1 ≤ h9.2.2.1 ∧ h.2.2.2.1 ≤ h9.2.2.2.1 ∧ ∀ (p : Program) (l : Launch) (e : Env) (R : Room) (s : State) (mth : MethodId) (args : Array Value) (below : List Frame) (meth : Method) (c : Code) (H : Heap) (locs : List Loc) (cells slots mF sF : Nat) (Q : State → Prop) (cls : Array Slot),
    ax_Cx base av D cA Hs Ls xs p s mth args meth c m → ls.length = ax_L m → ax_Lr base av ls cls → ax_Rep base av D cA Hs Ls xs ph h H → (∀ q ∈ locs, base ≤ q.base) → d + 2 ≤ R.frames → 100 * (d + 1) ≤ R.locals → cells + (h9.2.2.1 - h.2.2.1) = mF → slots + (h9.2.2.2.1 - h.2.2.2.1) = sF → mF ≤ R.cells → sF ≤ R.slots →
    (∀ pc' cls' H' locs' st' i, decode (ax_code m) pc' = .ok (i, 1) → ax_retv m i st' = some r → ax_Rep base av D cA Hs Ls xs ph h9 H' → (∀ q ∈ locs', base ≤ q.base) → ax_W base av p l e R s mth args below meth c H' locs' mF sF Q pc' cls' st') →
    ax_W base av p l e R s mth args below meth c H locs cells slots Q pc cls st
theorem ax_y_in {m : Nat} (h : m < 112) : (ax_y m).cls = ax_nm (ax_own m) ∧ (ax_y m).cls ≠ "java/lang/invoke/MethodHandle" ∧ (ax_y m).cls ≠ "java/lang/invoke/VarHandle" ∧ (ax_own m ≠ 14 → plainName (ax_y m).cls = true) ∧ ax_L m ≤ 40 ∧ (ax_own m < 15 ∨ ax_own m = 18) := by
  have h1 := List.all_eq_true.mp ax_y_ok m (List.mem_range.mpr h)
  simp only [Bool.and_eq_true, decide_eq_true_eq, Bool.or_eq_true] at h1
  obtain ⟨⟨⟨⟨⟨h1, h2⟩, h3⟩, h4⟩, h5⟩, h6⟩ := h1
  exact ⟨h1, h2, h3, fun q => h4.resolve_right q, h5, h6⟩
/-- a method's contract out of its run -/
theorem ax_Met (hv : ax_vok av) {l : Launch} {d m : Nat} {as : List Value} {h h1 : AH} {r : Option Value} (hm : m < 112) (ho : ax_own m ≠ 14) (he : (ax_ent0 as).length ≤ ax_L m) (hS : ax_Sound base av D cA Hs Ls xs ph d m 0 (ax_ent as (ax_L m)) [] h r h1) : Met l (ax_y m) (ax_codeW m :: ax_WS) (ax_rm d (h1.2.2.1 - h.2.2.1) (h1.2.2.2.1 - h.2.2.2.1)) (ax_Pc base av D cA Hs Ls xs ph as h) (ax_Qc base av D cA Hs Ls xs ph r h1) (h1.2.2.1 - h.2.2.1) (h1.2.2.2.1 - h.2.2.2.1) (fun q => base ≤ q) := by
  obtain ⟨y1, y2, y3, y4, y5, y6⟩ := ax_y_in hm
  refine Met.ofW (cc := ax_code m) (maxL := ax_L m) (ret := ax_ret m) (y4 ho) rfl ?_
  intro p e s mth args below meth c s₁ B hml hPc
  obtain ⟨ha, hR, KC⟩ := hPc
  have hts := atoms_spec (ws := ax_codeW m :: ax_WS) B.pre
  have hown : s.vm.findClass (ax_nm (ax_own m)) = some mth.cls := by rw [← y1]; exact findClass_of_methodNamed B.named
  have hlocks := B.notSynchronized
  have hr := B.returns
  subst ha
  rw [lg_entry_eq]
  have CX : ax_Cx base av D cA Hs Ls xs p s mth (as.map (ax_cv base av)).toArray meth c m := ⟨B.exec, B.bytes, hml, hown, fun w hw hg => hts w (List.mem_cons_of_mem _ (List.mem_filter.mpr ⟨hw, hg⟩)), (name_of_methodNamed B.named B.method).1, KC⟩
  refine hS.2.2 p l e (ax_rm d (h1.2.2.1 - h.2.2.1) (h1.2.2.2.1 - h.2.2.2.1)) s mth _ below meth c s.heap [] 0 0 _ _ _ _ CX (ax_ent_len he) (ax_ent_Lr hv he) hR (fun q hq => by cases hq) (Nat.le_refl _) (Nat.le_refl _) (Nat.zero_add _) (Nat.zero_add _) (Nat.le_refl _) (Nat.le_refl _) ?_
  intro pc' cls' H' locs' st' i hd hrv hR' hlo'
  have hx := B.exec
  have hb := B.bytes
  have hq : ∀ t : State, t.heap = H' → s.WarmedH t.vm → ax_Qc base av D cA Hs Ls xs ph r h1 (as.map (ax_cv base av)).toArray s (.returned (r.map (ax_cv base av))) t := fun t ht _ => ⟨rfl, by rw [ht]; exact hR'⟩
  unfold ax_W
  cases i <;> try (exact absurd hrv (by intro z; cases z))
  case ireturn =>
    simp only [ax_retv] at hrv
    split at hrv
    · split at hrv
      · rename_i v hc
        cases hrv
        rcases hc with q | ⟨q1, q2⟩ | ⟨q1, q2⟩ | ⟨q1, q2⟩
        · exact W.iret hx hb (hr.trans q) hq hlo' hd hlocks
        · exact W.zret hx hb (hr.trans q1) (by rcases q2 with rfl | rfl <;> rfl) hq hlo' hd hlocks
        · exact W.zret hx hb (hr.trans q1) (by show Value.int _ = Value.int _; rw [q2]) hq hlo' hd hlocks
        · exact W.zret hx hb (hr.trans q1) (by show Value.int _ = Value.int _; rw [q2]) hq hlo' hd hlocks
      · cases hrv
    · cases hrv
  case lreturn =>
    simp only [ax_retv] at hrv
    split at hrv
    · split at hrv
      · rename_i v hc
        cases hrv
        exact W.lret hx hb (hr.trans hc) hq hlo' hd hlocks
      · cases hrv
    · cases hrv
  case areturn =>
    simp only [ax_retv] at hrv
    split at hrv
    · split at hrv
      · rename_i v hc
        split at hrv
        · rename_i n hn
          cases hrv
          obtain ⟨o, ho⟩ := ax_cv_rf (base := base) hv hc
          have hq := hq
          refine W.aret hx hb (hr.trans hn) (Or.inl ⟨_, rfl⟩) ?_ hq hlo' hd hlocks
          rw [ho]
          cases o
          · exact Or.inl rfl
          · exact Or.inr ⟨_, rfl⟩
        · rename_i n hn
          cases hrv
          obtain ⟨o, ho⟩ := ax_cv_rf (base := base) hv hc
          have hq := hq
          refine W.aret hx hb (hr.trans hn) (Or.inr ⟨_, rfl⟩) ?_ hq hlo' hd hlocks
          rw [ho]
          cases o
          · exact Or.inl rfl
          · exact Or.inr ⟨_, rfl⟩
        · cases hrv
      · cases hrv
    · cases hrv
  case return_ =>
    simp only [ax_retv] at hrv
    split at hrv
    · split at hrv
      · rename_i hc
        cases hrv
        exact W.vret hx hb (hr.trans hc) hq hlo' hd hlocks
      · cases hrv
    · cases hrv
theorem ax_len_tsw {i : Instr} {len : Nat} (h : len = ax_len i ∨ ax_tsw i = true) : len = ax_len i ∨ ax_tsw i = true := h
theorem ax_retv_len {m : Nat} {i : Instr} {st : List Value} {r : Option Value} (h : ax_retv m i st = some r) : ax_len i = 1 := by
  cases i <;> first | rfl | (exact absurd h (by intro z; cases z))
theorem ax_cal_in {o k : Nat} {q : Nat × Nat × Nat} (h : ax_cal o k = some q) : ((o, k), q) ∈ ax_caT ∧ ((ax_caW ((o, k), q)) ∈ lw_tbl) ∧ ((4 ≤ q.1 ∧ q.1 ≠ 10) ∨ (q.2.1 < 112 ∧ ax_own q.2.1 ≠ 14 ∧ (parseMethodDescriptor (ax_y q.2.1).desc).map (fun d => d.parameters.length) = some q.2.2 ∧ (q.1 = 0 → q.2.1 ∈ ax_ordI ∧ q.2.1 ∈ ax_ordS) ∧ (q.1 = 1 ∨ q.1 = 10 → q.2.1 ∈ ax_ordT) ∧ (2 ≤ q.1 ∧ q.1 ≠ 10 → q.2.1 ∈ ax_ordI ∧ (ax_y q.2.1).name = "<init>" ∧ ax_ret q.2.1 = none))) := by
  have hm := ax_lookup_mem h
  refine ⟨hm, ax_sub_mem _ _ ax_caT_ok _ (List.mem_map.mpr ⟨_, hm, rfl⟩), ?_⟩
  have h1 := List.all_eq_true.mp ax_caT_ok2 _ hm
  dsimp only at h1
  by_cases h4 : 4 ≤ q.1 ∧ q.1 ≠ 10
  · exact Or.inl h4
  · rw [if_neg h4] at h1
    simp only [Bool.and_eq_true, decide_eq_true_eq] at h1
    obtain ⟨⟨⟨h1, h2⟩, h3⟩, h5⟩ := h1
    refine Or.inr ⟨h1, h2, h3, fun q0 => ?_, fun q0 => ?_, fun q0 => ?_⟩
    · rw [if_pos q0] at h5
      simpa using h5
    · rw [if_neg (by omega), if_pos q0] at h5
      simpa using h5
    · rw [if_neg (by omega), if_neg (by omega)] at h5
      simp only [Bool.and_eq_true, decide_eq_true_eq] at h5
      exact ⟨h5.1.1, h5.1.2, h5.2⟩
theorem ax_WS_good {q : Nat} (hq : q < 112) {ws : List Cond} (hw : ∀ w ∈ ax_WS, w ∈ ws) : GoodIn ws (ax_codeW q :: ax_WS) := by
  intro w h
  rcases List.mem_cons.mp h with rfl | h
  · exact ⟨hw _ (List.mem_filter.mpr ⟨ax_code_in hq, rfl⟩), good_of_word rfl⟩
  · exact ⟨hw _ h, good_of_word (List.mem_filter.mp h).2⟩
/-- the callee's object -/
theorem ax_recvr {h : AH} {H : Heap} {s : State} (KC : ax_KC base av D cA Hs Ls xs s) (hR : ax_Rep base av D cA Hs Ls xs ph h H) {a k : Nat} (hk : ax_ok ph h a = true) (hc : (ax_ty h a).1 = k) (h14 : k < 14) : ∃ (b : Nat) (cell : Cell), ax_cv base av (.ref a) = .ref b ∧ H[b]? = some cell ∧ cell.vm.isStatics = false ∧ s.vm.findClass (ax_nm k) = some cell.cls := by
  by_cases ha : a < 64
  · have et : ax_ty h a = ax_cty Ls a := by rw [ax_ty_con ha, hR.2.2.2.2.2.2.2.1]
    rw [et] at hc
    have ha9 : a < 49 := ax_con_lt (Ls := Ls) (by rw [hc]; omega)
    obtain ⟨b, eb, ⟨cell, o1, o2, o3, o4⟩, -⟩ := KC.2.2.2.2.1 a ha9 (by rw [hc]; exact h14)
    rw [hc] at o3
    exact ⟨b, cell, by rw [ax_cv_c ha, eb], by rw [hR.2.2.2.1 b (by rw [← hR.1]; exact (Array.getElem?_eq_some_iff.mp o1).1)]; exact o1, o2, o3⟩
  · have ha : 64 ≤ a := Nat.not_lt.mp ha
    have hn := hR.ok hk (Nat.not_lt.mpr ha)
    have h12 : (ax_ty h a).1 < 12 := by
      rcases hR.own ha hn with z | ⟨ty, z1, z2, -⟩
      · exact z
      · rw [hc] at z2; omega
    obtain ⟨cell, q1, q2, q3, q4⟩ := (hR.2.2.2.2.1 a ha hn).1 h12
    obtain ⟨-, hfc, -⟩ := KC.1 _ _ (ax_cl_in _ h12).1
    rw [hc] at hfc q2
    exact ⟨_, cell, ax_adr_own ha, q1, by rw [q3]; rfl, by rw [q2]; exact hfc⟩
end AxH
