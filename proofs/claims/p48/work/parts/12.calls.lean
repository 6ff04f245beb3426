/-! CALLS: the words of the methods and of the calls -/
/-- the words that a callee may take over -/
def ax_WS : List Cond := lw_tbl.filter goodWord
def ax_codeW (m : Nat) : Cond := .code (ax_y m) (ax_code m) (ax_L m) (ax_ret m)
set_option maxRecDepth 100000 in
theorem ax_code_ok : (List.range 112).map ax_codeW = (ax_cp.take 112).filterMap (fun i => lw_tbl[i]?) := rfl
theorem ax_code_in {m : Nat} (h : m < 112) : ax_codeW m ∈ lw_tbl := by
  have h1 : ax_codeW m ∈ (List.range 112).map ax_codeW := List.mem_map.mpr ⟨m, List.mem_range.mpr h, rfl⟩
  rw [ax_code_ok] at h1
  obtain ⟨i, -, hi⟩ := List.mem_filterMap.mp h1
  exact List.mem_of_getElem? hi
def ax_ordI : List Nat := [0, 1, 2, 3, 4, 5, 6, 7, 8, 9, 10, 11, 12, 13, 14, 16, 18, 19, 20, 21, 22, 23, 24, 26, 27, 28, 29, 30, 31, 33, 34, 39, 40, 41, 42, 43, 44, 45, 46, 47, 48, 49, 50, 51, 52, 53, 54, 55, 57, 58, 59, 60, 61, 62, 63, 64, 65, 66, 67, 68, 69, 70, 71, 73, 74, 75, 76, 77, 78, 79, 81, 82, 85, 86, 87, 88, 89, 90, 91, 93, 94, 95, 96, 97, 98, 99, 100, 101, 102, 103, 104, 105, 107, 108, 109, 110]
def ax_ordS : List Nat := [9, 10, 13, 27, 42, 43, 53, 55, 60, 64, 66, 67, 69, 70, 71, 74, 95, 96, 99, 100, 101, 8, 11, 12, 14, 16, 18, 19, 20, 21, 22, 23, 24, 26, 28, 29, 30, 31, 33, 34, 39, 40, 41, 44, 45, 46, 47, 48, 49, 50, 51, 52, 54, 57, 58, 59, 61, 62, 63, 65, 68, 73, 75, 76, 77, 78, 79, 81, 82, 86, 87, 88, 89, 90, 91, 93, 94, 98, 102, 103, 107, 108, 109, 110]
def ax_ordT : List Nat := [15, 17, 25, 32, 35, 36, 37, 38, 56, 72, 80, 83, 84, 92, 106, 111]
set_option maxRecDepth 100000 in
theorem ax_ordI_ok : ax_sub (ax_ordI.map fun m => .instanceMethod (ax_y m)) lw_tbl = true := by decide +kernel
set_option maxRecDepth 100000 in
theorem ax_ordS_ok : ax_sub (ax_ordS.map fun m => .selects (ax_nm (ax_own m)) (ax_y m) (ax_y m)) lw_tbl = true := by decide +kernel
set_option maxRecDepth 100000 in
theorem ax_ordT_ok : ax_sub (ax_ordT.map fun m => .static (ax_y m)) lw_tbl = true := by decide +kernel
def ax_mathN (k : Nat) : MethodName := if k = 5 then Lib.Math.max.name else if k = 6 then Lib.Math.min.name else if k = 7 then Lib.MathLoose.abs_long.x else Lib.MathLoose.max_long.x
def ax_caW (q : (Nat × Nat) × (Nat × Nat × Nat)) : Cond := if q.2.1 = 9 then .methodLink (ax_nm q.1.1) q.1.2 ⟨"[I", "clone", "()Ljava/lang/Object;"⟩ else if 5 ≤ q.2.1 ∧ q.2.1 < 9 then .methodLink (ax_nm q.1.1) q.1.2 (ax_mathN q.2.1) else if q.2.1 = 4 then .methodLink (ax_nm q.1.1) q.1.2 Lib.objectInit else if q.2.1 = 3 ∨ q.2.1 = 10 then .methodLinkNest (ax_nm q.1.1) q.1.2 (ax_y q.2.2.1) (ax_host q.1.1) else .methodLink (ax_nm q.1.1) q.1.2 (ax_y q.2.2.1)
set_option maxRecDepth 100000 in
theorem ax_caT_ok : ax_sub (ax_caT.map ax_caW) lw_tbl = true := by decide +kernel
set_option maxRecDepth 100000 in
theorem ax_obj_ok : ax_sub [.instanceMethod Lib.objectInit, .code Lib.objectInit ⟨#[0xb1]⟩ 1 none] lw_tbl = true := by decide +kernel
theorem ax_obj_in : Cond.instanceMethod Lib.objectInit ∈ lw_tbl ∧ Cond.code Lib.objectInit ⟨#[0xb1]⟩ 1 none ∈ lw_tbl := ⟨ax_sub_mem _ _ ax_obj_ok _ List.mem_cons_self, ax_sub_mem _ _ ax_obj_ok _ (List.mem_cons_of_mem _ List.mem_cons_self)⟩
/-- what a method's row says of its name -/
theorem ax_y_ok : ((List.range 112).all fun m => decide ((ax_y m).cls = ax_nm (ax_own m)) && decide ((ax_y m).cls ≠ "java/lang/invoke/MethodHandle") && decide ((ax_y m).cls ≠ "java/lang/invoke/VarHandle") && (plainName (ax_y m).cls || decide (ax_own m = 14)) && decide (ax_L m ≤ 40) && (decide (ax_own m < 15) || decide (ax_own m = 18))) = true := by decide +kernel
theorem ax_caT_ok2 : (ax_caT.all fun q => if 4 ≤ q.2.1 ∧ q.2.1 ≠ 10 then true else decide (q.2.2.1 < 112) && decide (ax_own q.2.2.1 ≠ 14) && decide ((parseMethodDescriptor (ax_y q.2.2.1).desc).map (fun d => d.parameters.length) = some q.2.2.2) && (if q.2.1 = 0 then decide (q.2.2.1 ∈ ax_ordI) && decide (q.2.2.1 ∈ ax_ordS) else if q.2.1 = 1 ∨ q.2.1 = 10 then decide (q.2.2.1 ∈ ax_ordT) else decide (q.2.2.1 ∈ ax_ordI) && decide ((ax_y q.2.2.1).name = "<init>") && decide (ax_ret q.2.2.1 = none))) = true := by decide +kernel
def ax_clN : MethodName := ⟨"java/lang/Object", "clone", "()Ljava/lang/Object;"⟩
def ax_clA : MethodName := ⟨"[I", "clone", "()Ljava/lang/Object;"⟩
set_option maxRecDepth 100000 in
theorem ax_cl_ok : ax_sub [.sameMethod "[I" "java/lang/Object" "clone" "()Ljava/lang/Object;", .native ax_clN, .instanceMethod ax_clN, .selects "[I" ax_clA ax_clN] lw_tbl = true := by decide +kernel
theorem ax_cl_w : Cond.sameMethod "[I" "java/lang/Object" "clone" "()Ljava/lang/Object;" ∈ lw_tbl ∧ Cond.native ax_clN ∈ lw_tbl ∧ Cond.instanceMethod ax_clN ∈ lw_tbl ∧ Cond.selects "[I" ax_clA ax_clN ∈ lw_tbl := by
  have h := ax_sub_mem _ _ ax_cl_ok
  exact ⟨h _ (by simp), h _ (by simp), h _ (by simp), h _ (by simp)⟩
/-! CLONE OF AN int[], and its cast -/
section AxE2
variable {base : Nat} {av : Nat → Value} {D : va_G} {cA : Nat → ClassId} {Hs : Heap} {Ls : Nat} {xs : Nat → Int32} {ph : Bool}
variable {p : Program} {l : Launch} {e : Env} {R : Room} {s : State} {mth : MethodId} {args : Array Value} {below : List Frame} {meth : Method} {c : Code} {H : Heap} {locs : List Loc} {cells slots : Nat} {Q : State → Prop} {m pc : Nat} {cls : Array Slot} {ls st ls1 st1 : List Value} {h h1 : AH} {pc1 : Nat}
theorem ax_s_cast {k : Nat} (hs : ax_step ph m (.checkcast k) pc ls st h = some (pc1, ls1, st1, h1)) (hd : decode (ax_code m) pc = .ok (.checkcast k, 3)) (CX : ax_Cx base av D cA Hs Ls xs p s mth args meth c m) (hR : ax_Rep base av D cA Hs Ls xs ph h H) (K : ls1 = ls → h1 = h → ax_W base av p l e R s mth args below meth c H locs cells slots Q pc1 cls st1) : ax_W base av p l e R s mth args below meth c H locs cells slots Q pc cls st := by
  obtain ⟨hx, hb, hml, hown, hts, hnm, KC⟩ := CX
  simp only [ax_step] at hs
  split at hs
  · rename_i a r
    split at hs
    · rename_i hc
      cases hs
      obtain ⟨hq, hc20, ha, hk⟩ := hc
      have K := K rfl rfl
      have hn := hR.ok hk (Nat.not_lt.mpr ha)
      have hcell := hR.arr ha hn (by rw [hc20]; decide)
      have hfc := (KC.2.1 20 .int rfl).2
      obtain ⟨g1, g2⟩ := ax_new17 hq
      have hlk : (Cond.classLink (ax_nm (ax_own m)) k "[I").before args s = true := by
        rw [g1, g2]
        exact hts _ ax_arr_in.2.2.2.2.2.2.2.2.2 rfl
      unfold ax_W at K ⊢
      rw [List.map_cons, ax_adr_own ha] at K ⊢
      intro T hT X
      obtain ⟨vm', X', stp⟩ := X.checkcastYes hx hown hlk (by rw [hT]; exact hcell) rfl (by rw [hc20]; exact hfc) (va_asg _ _) (g := F0 mth pc cls (.ref (base + (a - 64)) :: r.map (ax_cv base av))) rfl rfl (by rw [hb]; exact hd)
      obtain ⟨t, a1, b1⟩ := K (T.setVm vm') hT X'
      exact ⟨t, stp t a1, b1⟩
    · cases hs
  · cases hs
theorem ax_mkC_facts {a len : Nat} (hm : ax_mkC h a len = some h1) : 168 ≤ h.2.2.1 ∧ len < 19900 ∧ h1.2.2.1 - h.2.2.1 = 1 ∧ h1.2.2.2.1 - h.2.2.2.1 = len ∧ h.2.2.1 ≤ h1.2.2.1 ∧ h.2.2.2.1 ≤ h1.2.2.2.1 := by
  unfold ax_mkC at hm
  split at hm
  · rename_i hc
    cases hm
    exact ⟨hc.1, hc.2, Nat.add_sub_cancel_left .., Nat.add_sub_cancel_left .., Nat.le_add_right _ _, Nat.le_add_right _ _⟩
  · cases hm
theorem ax_s_clone {k : Nat} (hv : ax_vok av) (hs : ax_step ph m (.invokevirtual k) pc ls st h = some (pc1, ls1, st1, h1)) (hd : decode (ax_code m) pc = .ok (.invokevirtual k, 3)) (CX : ax_Cx base av D cA Hs Ls xs p s mth args meth c m) (hl : ax_Lr base av ls cls) (hR : ax_Rep base av D cA Hs Ls xs ph h H) (hfr : 1 ≤ R.frames) (hlc : 100 ≤ R.locals) (hce : cells + (h1.2.2.1 - h.2.2.1) ≤ R.cells) (hsl : slots + (h1.2.2.2.1 - h.2.2.2.1) ≤ R.slots)
    (K : ls1 = ls → h.2.2.1 ≤ h1.2.2.1 → h.2.2.2.1 ≤ h1.2.2.2.1 → ∀ H1, ax_Rep base av D cA Hs Ls xs ph h1 H1 → ax_W base av p l e R s mth args below meth c H1 locs (cells + (h1.2.2.1 - h.2.2.1)) (slots + (h1.2.2.2.1 - h.2.2.2.1)) Q pc1 cls st1) : ax_W base av p l e R s mth args below meth c H locs cells slots Q pc cls st := by
  obtain ⟨hx, hb, hml, hown, hts, hnm, KC⟩ := CX
  simp only [ax_step] at hs
  split at hs
  · rename_i q0 n0 hq
    split at hs
    · rename_i a r
      split at hs
      · rename_i hc
        obtain ⟨h2, hm, e1⟩ := Option.map_eq_some_iff.mp hs
        cases e1
        obtain ⟨hc20, ha, hk, hwt, hll⟩ := hc
        obtain ⟨c1, c3, f3, f4, f5, f6⟩ := ax_mkC_facts hm
        have K := K rfl f5 f6
        rw [f3] at hce K
        rw [f4] at hsl K
        have hn := hR.ok hk (Nat.not_lt.mpr ha)
        have hcell := hR.arr ha hn (by rw [hc20]; decide)
        rw [hc20] at hcell
        have hfc : s.vm.findClass "[I" = some (cA 20) := (KC.2.1 20 .int rfl).2
        obtain ⟨c0, t0, q1, q2, q3⟩ := Cond.castable_spec (va_Nw.use (A := args) rfl KC.2.2.2.1.2.2.1)
        cases hfc.symm.trans q1
        have hlk : (Cond.methodLink (ax_nm (ax_own m)) k ax_clA).before args s = true := hts _ (ax_sub_mem _ _ ax_caT_ok _ (List.mem_map.mpr ⟨_, ax_lookup_mem hq, rfl⟩)) rfl
        obtain ⟨w1, w2, w3, w4⟩ := ax_cl_w
        unfold ax_W at K ⊢
        rw [List.map_cons, ax_adr_own ha]
        intro T hT X
        obtain ⟨-, kA, hkA, comp, hkind⟩ := State.isArrayOf_alike X.warmed.alike ((KC.2.1 20 .int rfl).1 0 (fun _ => .null))
        obtain ⟨-, kS, hkS, compS, hkindS⟩ := (KC.2.1 20 .int rfl).1 0 (fun _ => .null)
        obtain ⟨vm', X', stp⟩ := X.cloneArray hx hown hlk (hts _ w1 rfl) (hts _ w2 rfl) (hts _ w3 rfl) (hts _ w4 rfl) (a := base + (a - 64)) (cell := arrV (cA 20) (ax_ty h a).2 (fun j => ax_cv base av (ax_ev 20 (h.1 a j)))) (by rw [hT]; exact hcell) (fun k z => by cases z) (fun z => by cases z) hfc q2 q3
          (fun i v hv => by
            have hk' : T.vm.classes[cA 20]? = some kA := hkA
            have hv2 : fits .int v = true := by
              by_cases hi : i < (ax_ty h a).2
              · rw [arrV_read _ _ hi] at hv
                cases hv
                rfl
              · rw [Array.getElem?_eq_none (by rw [arrV_size]; omega)] at hv
                cases hv
            show T.fitsSlot (cA 20) .none i v = true
            simpa [State.fitsSlot, State.slotType?, hk', hkind] using hv2)
          (g := F0 mth pc cls (.ref (base + (a - 64)) :: r.map (ax_cv base av))) rfl (by show cls.size = _; rw [hml, hl.1, hll]) rfl (by rw [hb]; exact hd) hfr (by rw [ax_wt_le hv]; show 2 * 0 + _ + 14 ≤ _; omega) hce (by rw [arrV_size]; exact hsl) (hloader := Vm.clonesLoader_of_array hkS hkindS)
        have hRm : ax_Rep base av D cA Hs Ls xs ph h1 (H.push (arrV (cA 20) (ax_ty h a).2 (fun j => ax_cv base av (ax_ev 20 (h.1 a j))))) := by
          unfold ax_mkC at hm
          split at hm
          · cases hm
            have hHs : H.size = base + (h.2.2.1 - 64) := by have := hR.2.2.1; omega
            refine hR.mk (by rw [Array.size_push]) (fun q hq => by rw [Array.getElem?_push, if_neg (Nat.ne_of_lt hq)]) (fun _ => ax_dok_dcd (Or.inl rfl) c3) ?_
            have et : ax_ty (ax_mk h (ax_dcd 20 (ax_ty h a).2) (ax_ty h a).2 (fun j => .int (toI (h.1 a j)))) h.2.2.1 = (20, (ax_ty h a).2) := by
              rw [ax_ty_own (by omega), if_neg (by omega)]
              show ax_dty (if h.2.2.1 = h.2.2.1 then ax_dcd 20 (ax_ty h a).2 else _) = _
              rw [if_pos rfl, ax_dty_dcd (Or.inl rfl)]
            refine ⟨fun z => by rw [et] at z; exact absurd z (by show ¬ 20 < 12; decide), fun _ => ?_⟩
            rw [et, ← hHs, Array.getElem?_push_size]
            congr 2
            funext j
            show _ = ax_cv base av (ax_ev 20 (if h.2.2.1 = h.2.2.1 then .int (toI (h.1 a j)) else _))
            rw [if_pos rfl]
            rfl
          · cases hm
        have K := K _ hRm
        rw [arrV_size] at X'
        obtain ⟨t, a1, b1⟩ := K _ (by rw [← hT]; rfl) X'
        refine ⟨t, stp t ?_, b1⟩
        have e8 : T.heap.size = base + (h.2.2.1 - 64) := by rw [hT]; have := hR.2.2.1; omega
        rw [e8]
        rw [List.map_cons, ax_adr_own (by omega : 64 ≤ h.2.2.1)] at a1
        exact a1
      · cases hs
    · cases hs
  · cases hs
end AxE2
