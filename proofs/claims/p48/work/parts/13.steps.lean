/-! ONE INSTRUCTION, ANY OF THEM -/
theorem ax_step_nh {ph : Bool} {m pc pc1 : Nat} {i : Instr} {ls st ls1 st1 : List Value} {h h1 : AH} (hi : ax_nh i = true) (hs : ax_step ph m i pc ls st h = some (pc1, ls1, st1, h1)) : h1 = h := by
  cases i <;> first
    | (cases hi; done)
    | (simp only [ax_step] at hs
       repeat' split at hs
       all_goals first
         | (cases hs; rfl)
         | (obtain ⟨_, _, e⟩ := Option.map_eq_some_iff.mp hs; cases e; rfl)
         | (cases hs))
    | (simp only [ax_step] at hs; cases hs)
    | (cases hi)
theorem ax_step_len {ph : Bool} {m pc pc1 : Nat} {i : Instr} {ls st ls1 st1 : List Value} {h h1 : AH} (hs : ax_step ph m i pc ls st h = some (pc1, ls1, st1, h1)) : ls1.length = ls.length := by
  cases i <;> first
    | (simp only [ax_step] at hs
       repeat' split at hs
       all_goals first
         | (cases hs; rfl)
         | (cases hs; exact ax_put_len _ _ _)
         | (obtain ⟨_, h2, e⟩ := Option.map_eq_some_iff.mp hs; cases e; rfl)
         | (obtain ⟨_, h2, e⟩ := Option.map_eq_some_iff.mp hs; cases e; obtain ⟨_, _, _, _, _, _, rfl⟩ := ax_sto_inv h2; exact ax_put_len _ _ _)
         | (cases hs))
    | (simp only [ax_step] at hs; cases hs)
theorem ax_mkO_grow {h h1 : AH} {c : Nat} (hm : ax_mkO h c = some h1) : h.2.2.1 ≤ h1.2.2.1 ∧ h.2.2.2.1 ≤ h1.2.2.2.1 := by
  unfold ax_mkO at hm
  split at hm
  · cases hm; exact ⟨Nat.le_add_right _ _, Nat.le_add_right _ _⟩
  · cases hm
theorem ax_mkM_grow {h h1 : AH} {n w : Nat} (hm : ax_mkM h n w = some h1) : h.2.2.1 ≤ h1.2.2.1 ∧ h.2.2.2.1 ≤ h1.2.2.2.1 := by
  unfold ax_mkM at hm
  split at hm
  · cases hm; exact ⟨Nat.le_trans (Nat.le_succ _) (Nat.le_add_right _ _), Nat.le_trans (Nat.le_add_right _ _) (Nat.le_add_right _ _)⟩
  · cases hm
theorem ax_mkA_grow {h h1 : AH} {t n : Nat} {v : Value} (hm : ax_mkA h t n v = some h1) : h.2.2.1 ≤ h1.2.2.1 ∧ h.2.2.2.1 ≤ h1.2.2.2.1 := ⟨(ax_mkA_facts hm).2.2.2.2.1, (ax_mkA_facts hm).2.2.2.2.2⟩
theorem ax_mkC_grow {h h1 : AH} {a n : Nat} (hm : ax_mkC h a n = some h1) : h.2.2.1 ≤ h1.2.2.1 ∧ h.2.2.2.1 ≤ h1.2.2.2.1 := ⟨(ax_mkC_facts hm).2.2.2.2.1, (ax_mkC_facts hm).2.2.2.2.2⟩
theorem ax_step_grow {ph : Bool} {m pc pc1 : Nat} {i : Instr} {ls st ls1 st1 : List Value} {h h1 : AH} (hs : ax_step ph m i pc ls st h = some (pc1, ls1, st1, h1)) : h.2.2.1 ≤ h1.2.2.1 ∧ h.2.2.2.1 ≤ h1.2.2.2.1 := by
  by_cases hi : ax_nh i = true
  · rw [ax_step_nh hi hs]; exact ⟨Nat.le_refl _, Nat.le_refl _⟩
  · cases i <;> first
    | (exact absurd rfl hi)
    | (simp only [ax_step] at hs
       repeat' split at hs
       all_goals first
         | (cases hs; exact ⟨Nat.le_refl _, Nat.le_refl _⟩)
         | (obtain ⟨_, h2, e⟩ := Option.map_eq_some_iff.mp hs; cases e; exact ax_mkO_grow h2)
         | (obtain ⟨_, h2, e⟩ := Option.map_eq_some_iff.mp hs; cases e; exact ax_mkA_grow h2)
         | (obtain ⟨_, h2, e⟩ := Option.map_eq_some_iff.mp hs; cases e; exact ax_mkM_grow h2)
         | (obtain ⟨_, h2, e⟩ := Option.map_eq_some_iff.mp hs; cases e; exact ax_mkC_grow h2)
         | (cases hs))
section AxG
variable {base : Nat} {av : Nat → Value} {D : va_G} {cA : Nat → ClassId} {Hs : Heap} {Ls : Nat} {xs : Nat → Int32} {ph : Bool}
variable {p : Program} {l : Launch} {e : Env} {R : Room} {s : State} {mth : MethodId} {args : Array Value} {below : List Frame} {meth : Method} {c : Code} {H : Heap} {locs : List Loc} {cells slots : Nat} {Q : State → Prop} {m pc : Nat} {cls : Array Slot} {ls st ls1 st1 : List Value} {h h1 : AH} {pc1 : Nat}
/-- Math's, which the machine has of its own -/
theorem ax_s_math {k : Nat} (hv : ax_vok av) (hs : ax_step ph m (.invokestatic k) pc ls st h = some (pc1, ls1, st1, h1)) (hd : decode (ax_code m) pc = .ok (.invokestatic k, 3)) (CX : ax_Cx base av D cA Hs Ls xs p s mth args meth c m) (hl : ax_Lr base av ls cls) (hfr : 1 ≤ R.frames) (hlo : 100 ≤ R.locals) (hce : cells ≤ R.cells) (hsl : slots ≤ R.slots) (K : ls1 = ls → h1 = h → ax_W base av p l e R s mth args below meth c H locs cells slots Q pc1 cls st1) : ax_W base av p l e R s mth args below meth c H locs cells slots Q pc cls st := by
  obtain ⟨hx, hb, hml, hown, hts, hnm, KC⟩ := CX
  have word : ∀ (kd q n : Nat), ax_cal (ax_own m) k = some (kd, q, n) → 5 ≤ kd ∧ kd < 9 → Cond.methodLink (ax_nm (ax_own m)) k (ax_mathN kd) ∈ lw_tbl := by
    intro kd q n hq hk
    have h1 := ax_sub_mem _ _ ax_caT_ok _ (List.mem_map.mpr ⟨_, ax_lookup_mem hq, rfl⟩)
    unfold ax_caW at h1
    rw [if_neg (by show ¬ kd = 9; omega), if_pos hk] at h1
    exact h1
  have row : ∀ q : Nat, q < 112 → ax_own q = 14 → q ∈ ax_ordT := by
    have : ((List.range 112).all fun q => decide (ax_own q ≠ 14) || decide (q ∈ ax_ordT)) = true := by decide +kernel
    intro q hq ho
    have h2 := List.all_eq_true.mp this q (List.mem_range.mpr hq)
    simpa [ho] using h2
  have hini : Cond.initialized "java/lang/Math" ∈ lw_tbl := ax_ini_in (c := 14) (by decide)
  have room : ∀ r : List Value, ax_wt r ≤ 8 → ((r.map (ax_cv base av)).map fun v => v.category).sum + 15 ≤ R.locals := by
    intro r hr
    rw [ax_wt_le hv]
    omega
  simp only [ax_step] at hs
  split at hs
  · rename_i q n hq
    split at hs
    · rename_i hc
      obtain ⟨r1, hr, e1⟩ := Option.map_eq_some_iff.mp hs
      cases e1
      obtain ⟨x, y, r, v, rfl, h2, rfl⟩ := ax_ii_inv hr
      cases h2
      have h14 := room r hc.1
      exact va_mmax hx hb (hml.trans (hc.2.symm.trans hl.1.symm)) hown (hts _ (word 5 _ _ hq (by decide)) rfl) (hts _ (ax_sub_mem _ _ ax_ordT_ok (.static Lib.Math.max.name) (List.mem_map.mpr ⟨15, by decide +kernel, by decide +kernel⟩)) rfl) (hts _ hini rfl) (hts _ (show Cond.code Lib.Math.max.name Lib.Math.max.code 2 (some .int) ∈ lw_tbl from (by decide +kernel : ax_codeW 15 = Cond.code Lib.Math.max.name Lib.Math.max.code 2 (some .int)) ▸ ax_code_in (by decide)) rfl) hfr (by omega) hce hsl hd (K rfl rfl)
    · cases hs
  · rename_i q n hq
    split at hs
    · rename_i hc
      obtain ⟨r1, hr, e1⟩ := Option.map_eq_some_iff.mp hs
      cases e1
      obtain ⟨x, y, r, v, rfl, h2, rfl⟩ := ax_ii_inv hr
      cases h2
      have h14 := room r hc.1
      exact va_mmin hx hb (hml.trans (hc.2.symm.trans hl.1.symm)) hown (hts _ (word 6 _ _ hq (by decide)) rfl) (hts _ (ax_sub_mem _ _ ax_ordT_ok (.static Lib.Math.min.name) (List.mem_map.mpr ⟨72, by decide +kernel, by decide +kernel⟩)) rfl) (hts _ hini rfl) (hts _ (show Cond.code Lib.Math.min.name Lib.Math.min.code 2 (some .int) ∈ lw_tbl from (by decide +kernel : ax_codeW 72 = Cond.code Lib.Math.min.name Lib.Math.min.code 2 (some .int)) ▸ ax_code_in (by decide)) rfl) hfr (by omega) hce hsl hd (K rfl rfl)
    · cases hs
  · rename_i q n hq
    split at hs
    · rename_i hc
      obtain ⟨r1, hr, e1⟩ := Option.map_eq_some_iff.mp hs
      cases e1
      obtain ⟨x, r, rfl, rfl⟩ := ax_l_inv hr
      have h14 := room r hc.1
      exact va_mabs_long hx hb (hml.trans (hc.2.symm.trans hl.1.symm)) hown (hts _ (word 7 _ _ hq (by decide)) rfl) (hts _ (ax_sub_mem _ _ ax_ordT_ok (.static Lib.MathLoose.abs_long.x) (List.mem_map.mpr ⟨36, by decide +kernel, by decide +kernel⟩)) rfl) (hts _ hini rfl) (hts _ (show Cond.code Lib.MathLoose.abs_long.x Lib.MathLoose.abs_long.code 2 (some .long) ∈ lw_tbl from (by decide +kernel : ax_codeW 36 = Cond.code Lib.MathLoose.abs_long.x Lib.MathLoose.abs_long.code 2 (some .long)) ▸ ax_code_in (by decide)) rfl) hfr (by omega) hce hsl hd (K rfl rfl)
    · cases hs
  · rename_i q n hq
    split at hs
    · rename_i hc
      obtain ⟨r1, hr, e1⟩ := Option.map_eq_some_iff.mp hs
      cases e1
      obtain ⟨x, y, r, v, rfl, h2, rfl⟩ := ax_ll_inv hr
      cases h2
      have h14 := room r hc.1
      exact va_mmax_long hx hb (hml.trans (hc.2.symm.trans hl.1.symm)) hown (hts _ (word 8 _ _ hq (by decide)) rfl) (hts _ (ax_sub_mem _ _ ax_ordT_ok (.static Lib.MathLoose.max_long.x) (List.mem_map.mpr ⟨38, by decide +kernel, by decide +kernel⟩)) rfl) (hts _ hini rfl) (hts _ (show Cond.code Lib.MathLoose.max_long.x Lib.MathLoose.max_long.code 4 (some .long) ∈ lw_tbl from (by decide +kernel : ax_codeW 38 = Cond.code Lib.MathLoose.max_long.x Lib.MathLoose.max_long.code 4 (some .long)) ▸ ax_code_in (by decide)) rfl) hfr (by omega) hce hsl hd (K rfl rfl)
    · cases hs
  · cases hs
/-- ANY INSTRUCTION but calls and returns -/
theorem ax_stepS {i : Instr} {len : Nat} (hv : ax_vok av) (hnn : ax_vnn av) (hs : ax_step ph m i pc ls st h = some (pc1, ls1, st1, h1)) (hd : decode (ax_code m) pc = .ok (i, len)) (hlen : len = ax_len i ∨ ax_tsw i = true) (CX : ax_Cx base av D cA Hs Ls xs p s mth args meth c m) (hl : ax_Lr base av ls cls) (hR : ax_Rep base av D cA Hs Ls xs ph h H) (hlo : ∀ q ∈ locs, base ≤ q.base) (hfr : 1 ≤ R.frames) (hlc : 100 ≤ R.locals) (hce0 : cells ≤ R.cells) (hsl0 : slots ≤ R.slots) (hce : cells + (h1.2.2.1 - h.2.2.1) ≤ R.cells) (hsl : slots + (h1.2.2.2.1 - h.2.2.2.1) ≤ R.slots)
    (K : h.2.2.1 ≤ h1.2.2.1 → h.2.2.2.1 ≤ h1.2.2.2.1 → ∀ cls1 H1 locs1, ax_Lr base av ls1 cls1 → ax_Rep base av D cA Hs Ls xs ph h1 H1 → (∀ q ∈ locs1, base ≤ q.base) → ax_W base av p l e R s mth args below meth c H1 locs1 (cells + (h1.2.2.1 - h.2.2.1)) (slots + (h1.2.2.2.1 - h.2.2.2.1)) Q pc1 cls1 st1) : ax_W base av p l e R s mth args below meth c H locs cells slots Q pc cls st := by
  have hx := CX.1
  have hb := CX.2.1
  have hi := CX.2.2.2.2.2.2.2.2.2.2.2.2.1
  -- the heap as it was
  have Kp : h1 = h → ∀ cls1, ax_Lr base av ls1 cls1 → ax_W base av p l e R s mth args below meth c H locs cells slots Q pc1 cls1 st1 := by
    intro e1 cls1 hl1
    subst e1
    have := K (Nat.le_refl _) (Nat.le_refl _) cls1 H locs hl1 hR hlo
    rw [Nat.sub_self, Nat.sub_self] at this
    exact this
  have Kr : ls1 = ls → h1 = h → ax_W base av p l e R s mth args below meth c H locs cells slots Q pc1 cls st1 := fun e1 e2 => Kp e2 cls (e1 ▸ hl)
  have Kw : ls1 = ls → h1.2 = h.2 → ∀ H1 locs1, ax_Rep base av D cA Hs Ls xs ph h1 H1 → (∀ q ∈ locs1, base ≤ q.base) → ax_W base av p l e R s mth args below meth c H1 locs1 cells slots Q pc1 cls st1 := by
    intro e1 e2 H1 locs1 hR1 hlo1
    have := K (by rw [e2]; exact Nat.le_refl _) (by rw [e2]; exact Nat.le_refl _) cls H1 locs1 (e1 ▸ hl) hR1 hlo1
    rw [e2, Nat.sub_self, Nat.sub_self] at this
    exact this
  have Km : ls1 = ls → h.2.2.1 ≤ h1.2.2.1 → h.2.2.2.1 ≤ h1.2.2.2.1 → ∀ H1, ax_Rep base av D cA Hs Ls xs ph h1 H1 → ax_W base av p l e R s mth args below meth c H1 locs (cells + (h1.2.2.1 - h.2.2.1)) (slots + (h1.2.2.2.1 - h.2.2.2.1)) Q pc1 cls st1 := fun e1 e2 e3 H1 hR1 => K e2 e3 cls H1 locs (e1 ▸ hl) hR1 hlo
  have hn : ax_nh i = true → ∀ cls1, ax_Lr base av ls1 cls1 → ax_W base av p l e R s mth args below meth c H locs cells slots Q pc1 cls1 st1 := fun q => Kp (ax_step_nh q hs)
  cases i
  case iload n =>
    obtain rfl : len = _ := hlen.resolve_right (by intro q; cases q)
    exact ax_s_iload hx hb hv hs hd hl (hn rfl)
  case iload_n n =>
    obtain rfl : len = _ := hlen.resolve_right (by intro q; cases q)
    exact ax_s_iload_n hx hb hv hs hd hl (hn rfl)
  case lload n =>
    obtain rfl : len = _ := hlen.resolve_right (by intro q; cases q)
    exact ax_s_lload hx hb hv hs hd hl (hn rfl)
  case lload_n n =>
    obtain rfl : len = _ := hlen.resolve_right (by intro q; cases q)
    exact ax_s_lload_n hx hb hv hs hd hl (hn rfl)
  case aload n =>
    obtain rfl : len = _ := hlen.resolve_right (by intro q; cases q)
    exact ax_s_aload hx hb hv hs hd hl (hn rfl)
  case aload_n n =>
    obtain rfl : len = _ := hlen.resolve_right (by intro q; cases q)
    exact ax_s_aload_n hx hb hv hs hd hl (hn rfl)
  case istore n =>
    obtain rfl : len = _ := hlen.resolve_right (by intro q; cases q)
    exact ax_s_istore hx hb hv hs hd hl (hn rfl)
  case istore_n n =>
    obtain rfl : len = _ := hlen.resolve_right (by intro q; cases q)
    exact ax_s_istore_n hx hb hv hs hd hl (hn rfl)
  case lstore n =>
    obtain rfl : len = _ := hlen.resolve_right (by intro q; cases q)
    exact ax_s_lstore hx hb hv hs hd hl (hn rfl)
  case lstore_n n =>
    obtain rfl : len = _ := hlen.resolve_right (by intro q; cases q)
    exact ax_s_lstore_n hx hb hv hs hd hl (hn rfl)
  case astore n =>
    obtain rfl : len = _ := hlen.resolve_right (by intro q; cases q)
    exact ax_s_astore hx hb hv hs hd hl (hn rfl)
  case astore_n n =>
    obtain rfl : len = _ := hlen.resolve_right (by intro q; cases q)
    exact ax_s_astore_n hx hb hv hs hd hl (hn rfl)
  case dload n =>
    obtain rfl : len = _ := hlen.resolve_right (by intro q; cases q)
    exact ax_s_dload hx hb hv hs hd hl (hn rfl)
  case dload_n n =>
    obtain rfl : len = _ := hlen.resolve_right (by intro q; cases q)
    exact ax_s_dload_n hx hb hv hs hd hl (hn rfl)
  case dstore n =>
    obtain rfl : len = _ := hlen.resolve_right (by intro q; cases q)
    exact ax_s_dstore hx hb hv hs hd hl (hn rfl)
  case dstore_n n =>
    obtain rfl : len = _ := hlen.resolve_right (by intro q; cases q)
    exact ax_s_dstore_n hx hb hv hs hd hl (hn rfl)
  case dconst n =>
    obtain rfl : len = _ := hlen.resolve_right (by intro q; cases q)
    exact ax_s_dconst hx hb hv hs hd hl (hn rfl)
  case ddiv =>
    obtain rfl : len = _ := hlen.resolve_right (by intro q; cases q)
    exact ax_s_ddiv hx hb hv hs hd hl (hn rfl)
  case dadd =>
    obtain rfl : len = _ := hlen.resolve_right (by intro q; cases q)
    exact ax_s_dadd hx hb hv hs hd hl (hn rfl)
  case dsub =>
    obtain rfl : len = _ := hlen.resolve_right (by intro q; cases q)
    exact ax_s_dsub hx hb hv hs hd hl (hn rfl)
  case dcmp op =>
    obtain rfl : len = _ := hlen.resolve_right (by intro q; cases q)
    exact ax_s_dcmp hx hb hv hs hd hl (hn rfl)
  case l2d =>
    obtain rfl : len = _ := hlen.resolve_right (by intro q; cases q)
    exact ax_s_l2d hx hb hv hs hd hl (hn rfl)
  case dup_x1 =>
    obtain rfl : len = _ := hlen.resolve_right (by intro q; cases q)
    exact ax_s_dup_x1 hx hb hv hs hd hl (hn rfl)
  case checkcast k =>
    obtain rfl : len = _ := hlen.resolve_right (by intro q; cases q)
    exact ax_s_cast hs hd CX hR Kr
  case invokevirtual k =>
    obtain rfl : len = _ := hlen.resolve_right (by intro q; cases q)
    exact ax_s_clone hv hs hd CX hl hR hfr hlc hce hsl Km
  case iinc n k =>
    obtain rfl : len = _ := hlen.resolve_right (by intro q; cases q)
    exact ax_s_iinc hx hb hv hs hd hl (hn rfl)
  case iconst n =>
    obtain rfl : len = _ := hlen.resolve_right (by intro q; cases q)
    exact ax_s_iconst hx hb hv hs hd hl (hn rfl)
  case bipush n =>
    obtain rfl : len = _ := hlen.resolve_right (by intro q; cases q)
    exact ax_s_bipush hx hb hv hs hd hl (hn rfl)
  case sipush n =>
    obtain rfl : len = _ := hlen.resolve_right (by intro q; cases q)
    exact ax_s_sipush hx hb hv hs hd hl (hn rfl)
  case lconst n =>
    obtain rfl : len = _ := hlen.resolve_right (by intro q; cases q)
    exact ax_s_lconst hx hb hv hs hd hl (hn rfl)
  case aconst_null =>
    obtain rfl : len = _ := hlen.resolve_right (by intro q; cases q)
    exact ax_s_null hx hb hv hs hd hl (hn rfl)
  case iadd =>
    obtain rfl : len = _ := hlen.resolve_right (by intro q; cases q)
    exact ax_s_iadd hx hb hv hs hd hl (hn rfl)
  case isub =>
    obtain rfl : len = _ := hlen.resolve_right (by intro q; cases q)
    exact ax_s_isub hx hb hv hs hd hl (hn rfl)
  case imul =>
    obtain rfl : len = _ := hlen.resolve_right (by intro q; cases q)
    exact ax_s_imul hx hb hv hs hd hl (hn rfl)
  case iand =>
    obtain rfl : len = _ := hlen.resolve_right (by intro q; cases q)
    exact ax_s_iand hx hb hv hs hd hl (hn rfl)
  case ior =>
    obtain rfl : len = _ := hlen.resolve_right (by intro q; cases q)
    exact ax_s_ior hx hb hv hs hd hl (hn rfl)
  case ixor =>
    obtain rfl : len = _ := hlen.resolve_right (by intro q; cases q)
    exact ax_s_ixor hx hb hv hs hd hl (hn rfl)
  case idiv =>
    obtain rfl : len = _ := hlen.resolve_right (by intro q; cases q)
    exact ax_s_idiv hx hb hv hs hd hl (hn rfl)
  case irem =>
    obtain rfl : len = _ := hlen.resolve_right (by intro q; cases q)
    exact ax_s_irem hx hb hv hs hd hl (hn rfl)
  case ishl =>
    obtain rfl : len = _ := hlen.resolve_right (by intro q; cases q)
    exact ax_s_ishl hx hb hv hs hd hl (hn rfl)
  case ishr =>
    obtain rfl : len = _ := hlen.resolve_right (by intro q; cases q)
    exact ax_s_ishr hx hb hv hs hd hl (hn rfl)
  case iushr =>
    obtain rfl : len = _ := hlen.resolve_right (by intro q; cases q)
    exact ax_s_iushr hx hb hv hs hd hl (hn rfl)
  case ladd =>
    obtain rfl : len = _ := hlen.resolve_right (by intro q; cases q)
    exact ax_s_ladd hx hb hv hs hd hl (hn rfl)
  case lmul =>
    obtain rfl : len = _ := hlen.resolve_right (by intro q; cases q)
    exact ax_s_lmul hx hb hv hs hd hl (hn rfl)
  case land =>
    obtain rfl : len = _ := hlen.resolve_right (by intro q; cases q)
    exact ax_s_land hx hb hv hs hd hl (hn rfl)
  case lor =>
    obtain rfl : len = _ := hlen.resolve_right (by intro q; cases q)
    exact ax_s_lor hx hb hv hs hd hl (hn rfl)
  case ldiv =>
    obtain rfl : len = _ := hlen.resolve_right (by intro q; cases q)
    exact ax_s_ldiv hx hb hv hs hd hl (hn rfl)
  case lrem =>
    obtain rfl : len = _ := hlen.resolve_right (by intro q; cases q)
    exact ax_s_lrem hx hb hv hs hd hl (hn rfl)
  case lcmp =>
    obtain rfl : len = _ := hlen.resolve_right (by intro q; cases q)
    exact ax_s_lcmp hx hb hv hs hd hl (hn rfl)
  case lshl =>
    obtain rfl : len = _ := hlen.resolve_right (by intro q; cases q)
    exact ax_s_lshl hx hb hv hs hd hl (hn rfl)
  case lshr =>
    obtain rfl : len = _ := hlen.resolve_right (by intro q; cases q)
    exact ax_s_lshr hx hb hv hs hd hl (hn rfl)
  case lneg =>
    obtain rfl : len = _ := hlen.resolve_right (by intro q; cases q)
    exact ax_s_lneg hx hb hv hs hd hl (hn rfl)
  case i2l =>
    obtain rfl : len = _ := hlen.resolve_right (by intro q; cases q)
    exact ax_s_i2l hx hb hv hs hd hl (hn rfl)
  case l2i =>
    obtain rfl : len = _ := hlen.resolve_right (by intro q; cases q)
    exact ax_s_l2i hx hb hv hs hd hl (hn rfl)
  case i2c =>
    obtain rfl : len = _ := hlen.resolve_right (by intro q; cases q)
    exact ax_s_i2c hx hb hv hs hd hl (hn rfl)
  case dup =>
    obtain rfl : len = _ := hlen.resolve_right (by intro q; cases q)
    exact ax_s_dup hx hb hv hs hd hl (hn rfl)
  case pop =>
    obtain rfl : len = _ := hlen.resolve_right (by intro q; cases q)
    exact ax_s_pop hx hb hv hs hd hl (hn rfl)
  case dup2 =>
    obtain rfl : len = _ := hlen.resolve_right (by intro q; cases q)
    exact ax_s_dup2 hx hb hv hs hd hl (hn rfl)
  case goto off =>
    obtain rfl : len = _ := hlen.resolve_right (by intro q; cases q)
    exact ax_s_goto hx hb hv hs hd hl (hn rfl)
  case ifCond cd off =>
    obtain rfl : len = _ := hlen.resolve_right (by intro q; cases q)
    exact ax_s_if hx hb hv hs hd hl (hn rfl)
  case if_icmp cd off =>
    obtain rfl : len = _ := hlen.resolve_right (by intro q; cases q)
    exact ax_s_icmp hx hb hv hs hd hl (hn rfl)
  case ifnull off =>
    obtain rfl : len = _ := hlen.resolve_right (by intro q; cases q)
    exact ax_s_ifnull hnn hx hb hv hs hd hl (hn rfl)
  case ifnonnull off =>
    obtain rfl : len = _ := hlen.resolve_right (by intro q; cases q)
    exact ax_s_ifnonnull hnn hx hb hv hs hd hl (hn rfl)
  case if_acmp cd off =>
    obtain rfl : len = _ := hlen.resolve_right (by intro q; cases q)
    exact ax_s_acmp hnn hi hx hb hv hs hd hl (hn rfl)
  case tableswitch d lo hi offs =>
    exact ax_s_tsw hx hb hv hs hd hl (hn rfl)
  case getfield k =>
    obtain rfl : len = _ := hlen.resolve_right (by intro q; cases q)
    exact ax_s_getfield hs hd CX hR Kr
  case putfield k =>
    obtain rfl : len = _ := hlen.resolve_right (by intro q; cases q)
    exact ax_s_putfield hv hs hd CX hR hlo Kw
  case getstatic k =>
    obtain rfl : len = _ := hlen.resolve_right (by intro q; cases q)
    exact ax_s_getstatic hs hd CX hR Kr
  case ldc k =>
    obtain rfl : len = _ := hlen.resolve_right (by intro q; cases q)
    exact ax_s_ldc hs hd CX Kr
  case ldc_w k =>
    obtain rfl : len = _ := hlen.resolve_right (by intro q; cases q)
    exact ax_s_ldcw hs hd CX Kr
  case ldc2_w k =>
    obtain rfl : len = _ := hlen.resolve_right (by intro q; cases q)
    exact ax_s_ldc2 hs hd CX Kr
  case arraylength =>
    obtain rfl : len = _ := hlen.resolve_right (by intro q; cases q)
    exact ax_s_alen hs hd CX hR Kr
  case iaload =>
    obtain rfl : len = _ := hlen.resolve_right (by intro q; cases q)
    exact ax_s_iaload hs hd CX hR Kr
  case baload =>
    obtain rfl : len = _ := hlen.resolve_right (by intro q; cases q)
    exact ax_s_baload hs hd CX hR Kr
  case laload =>
    obtain rfl : len = _ := hlen.resolve_right (by intro q; cases q)
    exact ax_s_laload hs hd CX hR Kr
  case aaload =>
    obtain rfl : len = _ := hlen.resolve_right (by intro q; cases q)
    exact ax_s_aaload hs hd CX hR Kr
  case iastore =>
    obtain rfl : len = _ := hlen.resolve_right (by intro q; cases q)
    exact ax_s_iastore hs hd CX hR hlo Kw
  case lastore =>
    obtain rfl : len = _ := hlen.resolve_right (by intro q; cases q)
    exact ax_s_lastore hs hd CX hR hlo Kw
  case aastore =>
    obtain rfl : len = _ := hlen.resolve_right (by intro q; cases q)
    exact ax_s_aastore hs hd CX hR hlo Kw
  case new k =>
    obtain rfl : len = _ := hlen.resolve_right (by intro q; cases q)
    exact ax_s_new hs hd CX hR hce hsl Km
  case newarray t =>
    obtain rfl : len = _ := hlen.resolve_right (by intro q; cases q)
    exact ax_s_newarray hs hd CX hR hce hsl Km
  case anewarray k =>
    obtain rfl : len = _ := hlen.resolve_right (by intro q; cases q)
    exact ax_s_anewarray hs hd CX hR hce hsl Km
  case multianewarray k d =>
    obtain rfl : len = _ := hlen.resolve_right (by intro q; cases q)
    exact ax_s_multi hs hd CX hR hce hsl Km
  case invokestatic k =>
    obtain rfl : len = _ := hlen.resolve_right (by intro q; cases q)
    exact ax_s_math hv hs hd CX hl hfr hlc hce0 hsl0 Kr
  all_goals first
    | (simp only [ax_step] at hs; cases hs; done)
    | (cases hs; done)
end AxG
