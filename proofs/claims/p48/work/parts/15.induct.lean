/-! THE INDUCTION over the run's fuel -/
section AxI
variable {base : Nat} {av : Nat → Value} {D : va_G} {cA : Nat → ClassId} {Hs : Heap} {Ls : Nat} {xs : Nat → Int32} {ph : Bool}
/-- behind a call that goes on: its run and the rest's run, one behind the other -/
theorem ax_callS (hv : ax_vok av) {i : Instr} {d m pc q : Nat} {ls st as rest : List Value} {h h1 h9 : AH} {r1 r : Option Value}
    (hd : decode (ax_code m) pc = .ok (i, 3)) (hc : ax_callv ph m i st h = some (some q, as, rest)) (he : (ax_ent0 as).length ≤ ax_L q)
    (S1 : ax_Sound base av D cA Hs Ls xs ph d q 0 (ax_ent as (ax_L q)) [] h r1 h1) (S2 : ax_Sound base av D cA Hs Ls xs ph (d + 1) m (pc + 3) ls (r1.toList ++ rest) h1 r h9) : ax_Sound base av D cA Hs Ls xs ph (d + 1) m pc ls st h r h9 := by
  obtain ⟨n1, z1, -⟩ := id S1
  obtain ⟨n2, z2, S2⟩ := S2
  refine ⟨Nat.le_trans n1 n2, Nat.le_trans z1 z2, ?_⟩
  intro p l e R s mth args below meth c H locs cells slots mF sF Q cls CX hL hl hR hlo hfr hlc hmF hsF hce hsl hret
  obtain ⟨hx, hb, hml, hown, hts, hnm, KC⟩ := id CX
  have hsize : cls.size = ax_L m := hl.1.trans hL
  have ht : ∀ w ∈ ax_WS, w.before args s = true := fun w hw => hts w (List.mem_filter.mp hw).1 (List.mem_filter.mp hw).2
  have F : CallFix p mth c (ax_code m) (ax_L m) s args ax_WS (ax_nm (ax_own m)) := ⟨hx, hb, hml, hown, ht⟩
  -- what follows behind the call
  have go : ∀ (a : Array Value), va_Run p l e R s mth args below meth c H locs cells slots (h1.2.2.1 - h.2.2.1) (h1.2.2.2.1 - h.2.2.2.1) (F0 mth pc cls (st.map (ax_cv base av))) (rest.map (ax_cv base av)) (ax_Qc base av D cA Hs Ls xs ph r1 h1 a) (fun q => base ≤ q) → ax_W base av p l e R s mth args below meth c H locs cells slots Q pc cls st := by
    intro a hr
    refine ax_after hr hlo fun H1 locs1 hR1 hlo1 => ?_
    have := S2 p l e R s mth args below meth c H1 locs1 (cells + (h1.2.2.1 - h.2.2.1)) (slots + (h1.2.2.2.1 - h.2.2.2.1)) mF sF Q cls CX hL hl hR1 hlo1 hfr hlc (by omega) (by omega) hce hsl hret
    unfold ax_W at this
    rw [List.map_append] at this
    have e1 : (r1.toList).map (ax_cv base av) = (r1.map (ax_cv base av)).toList := by cases r1 <;> rfl
    rw [e1] at this
    exact this
  have common : ∀ (kd n k : Nat), ax_cal (ax_own m) k = some (kd, q, n) → (kd < 4 ∨ kd = 10) → (q < 112 ∧ ax_own q ≠ 14 ∧ Met l (ax_y q) (ax_codeW q :: ax_WS) (ax_rm d (h1.2.2.1 - h.2.2.1) (h1.2.2.2.1 - h.2.2.2.1)) (ax_Pc base av D cA Hs Ls xs ph as h) (ax_Qc base av D cA Hs Ls xs ph r1 h1) (h1.2.2.1 - h.2.2.1) (h1.2.2.2.1 - h.2.2.2.1) (fun q => base ≤ q)) ∧ ((ax_rm d (h1.2.2.1 - h.2.2.1) (h1.2.2.2.1 - h.2.2.2.1)).frames + 1 ≤ R.frames ∧ 8 + (ax_L q + 11) + (ax_rm d (h1.2.2.1 - h.2.2.1) (h1.2.2.2.1 - h.2.2.2.1)).locals ≤ R.locals) ∧ ((ax_y q).cls ≠ "java/lang/invoke/MethodHandle" ∧ (ax_y q).cls ≠ "java/lang/invoke/VarHandle" ∧ (parseMethodDescriptor (ax_y q).desc).map (fun d => d.parameters.length) = some n) ∧ (Cond.initialized (ax_y q).cls).before args s = true := by
    intro kd n k hk hkd
    obtain ⟨hm1, hm2, hm3⟩ := ax_cal_in hk
    rcases hm3 with z | ⟨y1, y2, y3, y4⟩
    · exact absurd hkd (by show ¬ (kd < 4 ∨ kd = 10); have z1 : 4 ≤ kd := z.1; have z2 : kd ≠ 10 := z.2; omega)
    obtain ⟨w1, w2, w3, w4, w5, w6⟩ := ax_y_in y1
    have w5 : ax_L q ≤ 40 := w5
    refine ⟨⟨y1, y2, ax_Met hv y1 y2 he S1⟩, ⟨by show d + 2 + 1 ≤ R.frames; omega, by show 8 + (ax_L q + 11) + 100 * (d + 1) ≤ R.locals; omega⟩, ⟨w2, w3, y3⟩, ?_⟩
    rw [w1]
    exact hts _ (ax_ini_in w6) rfl
  have hW : ∀ r : List Value, ax_wt r ≤ 8 → 2 * (F0 mth pc cls (st.map (ax_cv base av))).monitorRoom + ((r.map (ax_cv base av)).map fun v => v.category).sum ≤ 8 := by
    intro r hr
    exact lv_room (by rw [ax_wt_le hv]; exact hr)
  have hf : cells + (h1.2.2.1 - h.2.2.1) ≤ R.cells ∧ slots + (h1.2.2.2.1 - h.2.2.2.1) ≤ R.slots := ⟨by omega, by omega⟩
  cases i <;> try (exact absurd hc (by intro z; cases z))
  case invokevirtual k =>
    simp only [ax_callv] at hc
    split at hc
    · rename_i q0 n hk
      split at hc
      · rename_i a r0 hdr
        split at hc
        · rename_i hcc
          cases hc
          obtain ⟨c1, c2, c3, c4, c5⟩ := hcc
          obtain ⟨⟨y1, y2, hM⟩, hRm, hde, hini⟩ := common 0 n k hk (by decide)
          obtain ⟨hm1, hm2, hm3⟩ := ax_cal_in hk
          rcases hm3 with z | ⟨-, -, -, y4, -, -⟩
          · exact absurd z.1 (by show ¬ 4 ≤ 0; decide)
          obtain ⟨b, cell, b1, b2, b3, b4⟩ := ax_recvr KC hR c5 c3 c4
          have est : st = st.take n ++ (.ref a :: rest) := by rw [← hdr, List.take_append_drop]
          have hl0 : (Cond.methodLink (ax_nm (ax_own m)) k (ax_y q)).before args s = true := hts _ hm2 rfl
          have cw : CallW R s args (ax_nm (ax_own m)) (ax_nm (ax_own q)) k (ax_y q) (ax_code q) (ax_L q) (ax_ret q) (ax_codeW q :: ax_WS) (ax_rm d (h1.2.2.1 - h.2.2.1) (h1.2.2.2.1 - h.2.2.2.1)) (h1.2.2.1 - h.2.2.1) (h1.2.2.2.1 - h.2.2.2.1) n := ⟨callB_of n ht (ax_WS_good y1 fun w h => h) rfl rfl rfl hini hl0 hde hRm, hts _ (ax_sub_mem _ _ ax_ordI_ok _ (List.mem_map.mpr ⟨q, (y4 rfl).1, rfl⟩)) rfl, hts _ (ax_sub_mem _ _ ax_ordS_ok _ (List.mem_map.mpr ⟨q, (y4 rfl).2, rfl⟩)) rfl⟩
          refine go _ (va_runV (b := b) (As := ((st.take n).reverse).map (ax_cv base av)) F hM cw ⟨ax_blind, ⟨cell, b2, b3, b4⟩, fun U hU hWm => ⟨by rw [List.map_cons, b1], by rw [hU]; exact hR, KC.warm hWm⟩⟩ rfl (by rw [List.length_map, List.length_reverse]; exact c1) hsize ?_ (hW _ c2) hd hf)
          show st.map (ax_cv base av) = _
          conv => lhs; rw [est]
          rw [List.map_append, List.map_cons, b1, ← List.map_reverse, List.reverse_reverse]
        · cases hc
      · cases hc
    · cases hc
  case invokestatic k =>
    simp only [ax_callv] at hc
    split at hc
    · rename_i q0 n hk
      split at hc
      · rename_i hcc
        cases hc
        obtain ⟨c1, c2⟩ := hcc
        obtain ⟨⟨y1, y2, hM⟩, hRm, hde, hini⟩ := common 1 n k hk (by decide)
        obtain ⟨hm1, hm2, hm3⟩ := ax_cal_in hk
        rcases hm3 with z | ⟨-, -, -, -, y4, -⟩
        · exact absurd z.1 (by show ¬ 4 ≤ 1; decide)
        have hl0 : (Cond.methodLink (ax_nm (ax_own m)) k (ax_y q)).before args s = true := hts _ hm2 rfl
        refine go _ (va_runS (As := ((st.take n).reverse).map (ax_cv base av)) F hM ⟨callB_of n ht (ax_WS_good y1 fun w h => h) rfl rfl rfl hini hl0 hde hRm, hts _ (ax_sub_mem _ _ ax_ordT_ok _ (List.mem_map.mpr ⟨q, y4 (Or.inl rfl), rfl⟩)) rfl⟩ ⟨ax_blind, fun U hU hWm => ⟨rfl, by rw [hU]; exact hR, KC.warm hWm⟩⟩ rfl (by rw [List.length_map, List.length_reverse]; exact c1) hsize ?_ (hW _ c2) hd hf)
        show st.map (ax_cv base av) = _
        conv => lhs; rw [← List.take_append_drop n st]
        rw [List.map_append, ← List.map_reverse, List.reverse_reverse]
      · cases hc
    · rename_i q0 n hk
      split at hc
      · rename_i hcc
        cases hc
        obtain ⟨c1, c2⟩ := hcc
        obtain ⟨⟨y1, y2, hM⟩, hRm, hde, hini⟩ := common 10 n k hk (by decide)
        obtain ⟨hm1, hm2, hm3⟩ := ax_cal_in hk
        rcases hm3 with z | ⟨-, -, -, -, y4, -⟩
        · exact absurd rfl z.2
        have hnw := KC.2.2.2.1.2.2.2 _ hm1 (Or.inr rfl)
        refine go _ (va_runSN (As := ((st.take n).reverse).map (ax_cv base av)) F hM ⟨va_cnB (bytes := ax_code q) (maxL := ax_L q) (ret := ax_ret q) n ht (ax_WS_good y1 fun w h => h) rfl (rm := ax_rm d (h1.2.2.1 - h.2.2.1) (h1.2.2.2.1 - h.2.2.2.1)) rfl rfl hnw hini hde hRm, hts _ (ax_sub_mem _ _ ax_ordT_ok _ (List.mem_map.mpr ⟨q, y4 (Or.inr rfl), rfl⟩)) rfl, trivial⟩ ⟨ax_blind, fun U hU hWm => ⟨rfl, by rw [hU]; exact hR, KC.warm hWm⟩⟩ rfl (by rw [List.length_map, List.length_reverse]; exact c1) hsize ?_ (hW _ c2) hd hf)
        show st.map (ax_cv base av) = _
        conv => lhs; rw [← List.take_append_drop n st]
        rw [List.map_append, ← List.map_reverse, List.reverse_reverse]
      · cases hc
    · cases hc
  case invokespecial k =>
    simp only [ax_callv] at hc
    split at hc
    · rename_i q0 n hk
      split at hc
      · rename_i a r0 hdr
        split at hc
        · rename_i hcc
          cases hc
          obtain ⟨c1, c2, c3⟩ := hcc
          obtain ⟨⟨y1, y2, hM⟩, hRm, hde, hini⟩ := common 2 n k hk (by decide)
          obtain ⟨hm1, hm2, hm3⟩ := ax_cal_in hk
          rcases hm3 with z | ⟨-, -, -, -, -, y4⟩
          · exact absurd z.1 (by show ¬ 4 ≤ 2; decide)
          obtain ⟨g1, g2, g3⟩ := y4 ⟨Nat.le_refl _, by show 2 ≠ 10; decide⟩
          have hl0 : (Cond.methodLink (ax_nm (ax_own m)) k (ax_y q)).before args s = true := hts _ hm2 rfl
          have est : st = st.take n ++ (.ref a :: rest) := by rw [← hdr, List.take_append_drop]
          have hcb := callB_of (bytes := ax_code q) (maxL := ax_L q) (ret := ax_ret q) n ht (ax_WS_good y1 fun w h => h) rfl rfl rfl hini hl0 hde hRm
          rw [g3] at hcb
          refine go _ (va_runI (b := base + (a - 64)) (As := ((st.take n).reverse).map (ax_cv base av)) F hM ⟨hcb, g2, hts _ (ax_sub_mem _ _ ax_ordI_ok _ (List.mem_map.mpr ⟨q, g1, rfl⟩)) rfl⟩ ⟨ax_blind, fun U hU hWm => ⟨by rw [List.map_cons, ax_adr_own c3], by rw [hU]; exact hR, KC.warm hWm⟩⟩ rfl (by rw [List.length_map, List.length_reverse]; exact c1) hsize ?_ (hW _ c2) hd hf)
          show st.map (ax_cv base av) = _
          conv => lhs; rw [est]
          rw [List.map_append, List.map_cons, ax_adr_own c3, ← List.map_reverse, List.reverse_reverse]
        · cases hc
      · cases hc
    · rename_i q0 n hk
      split at hc
      · rename_i a r0 hdr
        split at hc
        · rename_i hcc
          cases hc
          obtain ⟨c1, c2, c3⟩ := hcc
          obtain ⟨⟨y1, y2, hM⟩, hRm, hde, hini⟩ := common 3 n k hk (by decide)
          obtain ⟨hm1, hm2, hm3⟩ := ax_cal_in hk
          rcases hm3 with z | ⟨-, -, -, -, -, y4⟩
          · exact absurd z.1 (by show ¬ 4 ≤ 3; decide)
          obtain ⟨g1, g2, g3⟩ := y4 ⟨by show 2 ≤ 3; decide, by show 3 ≠ 10; decide⟩
          have hnw := KC.2.2.2.1.2.2.2 _ hm1 (Or.inl rfl)
          have est : st = st.take n ++ (.ref a :: rest) := by rw [← hdr, List.take_append_drop]
          have hcb := va_cnB (bytes := ax_code q) (maxL := ax_L q) (ret := ax_ret q) n ht (ax_WS_good y1 fun w h => h) rfl (rm := ax_rm d (h1.2.2.1 - h.2.2.1) (h1.2.2.2.1 - h.2.2.2.1)) rfl rfl hnw hini hde hRm
          rw [g3] at hcb
          refine go _ (va_runIN (b := base + (a - 64)) (As := ((st.take n).reverse).map (ax_cv base av)) F hM ⟨hcb, g2, hts _ (ax_sub_mem _ _ ax_ordI_ok _ (List.mem_map.mpr ⟨q, g1, rfl⟩)) rfl⟩ ⟨ax_blind, fun U hU hWm => ⟨by rw [List.map_cons, ax_adr_own c3], by rw [hU]; exact hR, KC.warm hWm⟩⟩ rfl (by rw [List.length_map, List.length_reverse]; exact c1) hsize ?_ (hW _ c2) hd hf)
          show st.map (ax_cv base av) = _
          conv => lhs; rw [est]
          rw [List.map_append, List.map_cons, ax_adr_own c3, ← List.map_reverse, List.reverse_reverse]
        · cases hc
      · cases hc
    · split at hc
      · split at hc
        · cases hc
        · cases hc
      · cases hc
    · cases hc
/-- Object's constructor -/
theorem ax_objS (hv : ax_vok av) {i : Instr} {d m pc : Nat} {ls st as rest : List Value} {h h9 : AH} {r : Option Value}
    (hd : decode (ax_code m) pc = .ok (i, 3)) (hc : ax_callv ph m i st h = some (none, as, rest)) (S2 : ax_Sound base av D cA Hs Ls xs ph d m (pc + 3) ls rest h r h9) : ax_Sound base av D cA Hs Ls xs ph d m pc ls st h r h9 := by
  obtain ⟨n2, z2, S2⟩ := S2
  refine ⟨n2, z2, ?_⟩
  intro p l e R s mth args below meth c H locs cells slots mF sF Q cls CX hL hl hR hlo hfr hlc hmF hsF hce hsl hret
  obtain ⟨hx, hb, hml, hown, hts, hnm, KC⟩ := id CX
  have K := S2 p l e R s mth args below meth c H locs cells slots mF sF Q cls CX hL hl hR hlo hfr hlc hmF hsF hce hsl hret
  cases i <;> try (exact absurd hc (by intro z; cases z))
  case invokevirtual k =>
    simp only [ax_callv] at hc
    repeat' split at hc
    all_goals cases hc
  case invokestatic k =>
    simp only [ax_callv] at hc
    repeat' split at hc
    all_goals cases hc
  case invokespecial k =>
    simp only [ax_callv] at hc
    split at hc
    · repeat' split at hc
      all_goals cases hc
    · repeat' split at hc
      all_goals cases hc
    · rename_i q0 n0 hk
      split at hc
      · rename_i a r0
        split at hc
        · rename_i hcc
          cases hc
          obtain ⟨-, hm2, -⟩ := ax_cal_in hk
          have hl0 : (Cond.methodLink (ax_nm (ax_own m)) k Lib.objectInit).before args s = true := hts _ hm2 rfl
          unfold ax_W at K ⊢
          rw [List.map_cons, ax_adr_own hcc.2]
          refine W.objInit hx hb hown hl0 (hts _ ax_obj_in.1 rfl) (hts _ ax_obj_in.2 rfl) rfl ((hl.1.trans hL).trans hml.symm) rfl hd (by omega) ?_ K
          rw [ax_wt_le hv]
          have := hcc.1
          show 2 * 0 + _ + 12 ≤ _
          omega
        · cases hc
      · cases hc
    · cases hc
theorem ax_sound (hv : ax_vok av) (hnn : ax_vnn av) : ∀ (f d m pc : Nat) (ls st : List Value) (h : AH) (r : Option Value) (h9 : AH), ax_ex ph f d m pc ls st h = some (r, h9) → ax_Sound base av D cA Hs Ls xs ph d m pc ls st h r h9
  | 0, _, _, _, _, _, _, _, _, hx => by cases hx
  | f + 1, d, m, pc, ls, st, h, r, h9, hx => by
    unfold ax_ex at hx
    split at hx
    · cases hx
    · rename_i i len hdc
      split at hx
      · rename_i pc1 ls1 st1 h1 hs
        split at hx
        · rename_i hlen
          obtain ⟨n2, z2, S2⟩ := ax_sound hv hnn f d m pc1 ls1 st1 h1 r h9 hx
          have hln := ax_step_len hs
          -- the cells only grow
          have grow : h.2.2.1 ≤ h1.2.2.1 ∧ h.2.2.2.1 ≤ h1.2.2.2.1 := ax_step_grow hs
          refine ⟨Nat.le_trans grow.1 n2, Nat.le_trans grow.2 z2, ?_⟩
          intro p l e R s mth args below meth c H locs cells slots mF sF Q cls CX hL hl hR hlo hfr hlc hmF hsF hce hsl hret
          obtain ⟨g1, g2⟩ := grow
          refine ax_stepS hv hnn hs hdc hlen CX hl hR hlo (by omega) (by omega) (by omega) (by omega) (by omega) (by omega) fun _ _ cls1 H1 locs1 hl1 hR1 hlo1 => ?_
          exact S2 p l e R s mth args below meth c H1 locs1 _ _ mF sF Q cls1 CX (hln.trans hL) hl1 hR1 hlo1 hfr hlc (by omega) (by omega) hce hsl hret
        · cases hx
      · split at hx
        · rename_i r0 hrv
          split at hx
          · rename_i hlen
            cases hx
            refine ⟨Nat.le_refl _, Nat.le_refl _, ?_⟩
            intro p l e R s mth args below meth c H locs cells slots mF sF Q cls CX hL hl hR hlo hfr hlc hmF hsF hce hsl hret
            rw [ax_retv_len hrv] at hlen
            subst hlen
            have := hret pc cls H locs st i hdc hrv hR hlo
            rw [Nat.sub_self, Nat.add_zero] at hmF hsF
            subst hmF
            subst hsF
            exact this
          · cases hx
        · split at hx
          · rename_i as rest hc
            split at hx
            · rename_i hlen
              subst hlen
              exact ax_objS hv hdc hc (ax_sound hv hnn f d m (pc + 3) ls rest h r h9 hx)
            · cases hx
          · rename_i q as rest hc
            split at hx
            · rename_i hlen
              obtain ⟨rfl, he⟩ := hlen
              split at hx
              · cases hx
              · rename_i d1
                split at hx
                · rename_i v h1 hcl
                  exact ax_callS hv hdc hc he (ax_sound hv hnn f d1 q 0 _ [] h v h1 hcl) (ax_sound hv hnn f (d1 + 1) m (pc + 3) ls _ h1 r h9 hx)
                · cases hx
            · cases hx
          · cases hx
end AxI
