/-! ONE INSTRUCTION THAT LOOKS AT THE HEAP -/
section AxC
variable {base : Nat} {av : Nat → Value} {D : va_G} {cA : Nat → ClassId} {Hs : Heap} {Ls : Nat} {xs : Nat → Int32} {ph : Bool}
variable {p : Program} {l : Launch} {e : Env} {R : Room} {s : State} {mth : MethodId} {args : Array Value} {below : List Frame} {meth : Method} {c : Code} {H : Heap} {locs : List Loc} {cells slots : Nat} {Q : State → Prop} {m pc : Nat} {cls : Array Slot} {ls st ls1 st1 : List Value} {h h1 : AH} {pc1 : Nat}
/-- a read: the heap, the locals stay -/
def ax_Kr (base : Nat) (av : Nat → Value) (p : Program) (l : Launch) (e : Env) (R : Room) (s : State) (mth : MethodId) (args : Array Value) (below : List Frame) (meth : Method) (c : Code) (H : Heap) (locs : List Loc) (cells slots : Nat) (Q : State → Prop) (ls : List Value) (h : AH) (pc1 : Nat) (cls : Array Slot) (st1 ls1 : List Value) (h1 : AH) : Prop := ls1 = ls → h1 = h → ax_W base av p l e R s mth args below meth c H locs cells slots Q pc1 cls st1
theorem ax_s_getfield {k : Nat} (hs : ax_step ph m (.getfield k) pc ls st h = some (pc1, ls1, st1, h1)) (hd : decode (ax_code m) pc = .ok (.getfield k, 3)) (CX : ax_Cx base av D cA Hs Ls xs p s mth args meth c m) (hR : ax_Rep base av D cA Hs Ls xs ph h H) (K : ls1 = ls → h1 = h → ax_W base av p l e R s mth args below meth c H locs cells slots Q pc1 cls st1) : ax_W base av p l e R s mth args below meth c H locs cells slots Q pc cls st := by
  obtain ⟨hx, hb, hml, hown, hts, hnm, KC⟩ := CX
  simp only [ax_step] at hs
  split at hs
  · rename_i a r
    split at hs
    · rename_i q hq
      split at hs
      · rename_i hc
        cases hs
        have K := K rfl rfl
        obtain ⟨hc1, hc2, hc3⟩ := hc
        obtain ⟨hin, -, hk⟩ := ax_fld_in hq
        by_cases ha : a < 64
        · have et : ax_ty h a = ax_cty Ls a := by rw [ax_ty_con ha, hR.2.2.2.2.2.2.2.1]
          rw [et] at hc1
          have ha9 : a < 49 := ax_con_lt (Ls := Ls) (by rw [hc1]; omega)
          obtain ⟨b, eb, -, hf⟩ := KC.2.2.2.2.1 a ha9 (by rw [hc1]; exact hc2)
          rw [hc1] at hf
          obtain ⟨cf, kf, fi, f, cell, g1, g2, g3, g4, g5, g6⟩ := hf q.2 hk
          have ec : ax_cv base av (.ref a) = .ref b := by rw [ax_cv_c ha, eb]
          rw [ax_rd_con hR ha9] at K
          unfold ax_W at K ⊢
          rw [List.map_cons, ec]
          refine W.getf hx hb hown (hts _ hin rfl) g1 g2 ?_ g4 g5 rfl rfl hd K
          rw [hR.2.2.2.1 b (by rw [← hR.1]; exact (Array.getElem?_eq_some_iff.mp g3).1)]
          exact g3
        · have ha : 64 ≤ a := Nat.not_lt.mp ha
          have hn := hR.ok hc3 (Nat.not_lt.mpr ha)
          have h12 : q.1 < 12 := by
            rcases hR.own ha hn with z | ⟨ty, z1, z2, -⟩
            · rw [hc1] at z; exact z
            · rw [hc1] at z2; omega
          obtain ⟨hcl, hws, hnd⟩ := ax_cl_in q.1 h12
          have htc : ∀ w ∈ u_ws (ax_nm q.1) (ax_fT q.1) (ax_nf q.1), w.before args s = true := fun w hw => hts w (hws w hw) (ax_uws_good w hw)
          obtain ⟨hS, hfc, kC, hkC, hkind⟩ := KC.1 q.1 _ hcl
          obtain ⟨cf, kf, fi, f, g1, g2⟩ := hS q.2 hk
          have hat := (hR.2.2.2.2.1 a ha hn).1 (by rw [hc1]; exact h12)
          rw [hc1] at hat
          obtain ⟨cell, q1, q2, q3, q4⟩ := hat
          rw [hR.rd ha] at K
          unfold ax_W at K ⊢
          rw [List.map_cons, ax_adr_own ha]
          refine W.getf hx hb hown (hts _ hin rfl) g1 (u_facts hfc hkC (u_lays htc (fun _ z => z) hk) g1).1 q1 (by rw [q3]; exact fun z => by cases z) ?_ rfl rfl hd K
          rw [g2]
          exact q4 q.2 hk
      · cases hs
    · cases hs
  · cases hs
theorem ax_s_putfield {k : Nat} (hv : ax_vok av) (hs : ax_step ph m (.putfield k) pc ls st h = some (pc1, ls1, st1, h1)) (hd : decode (ax_code m) pc = .ok (.putfield k, 3)) (CX : ax_Cx base av D cA Hs Ls xs p s mth args meth c m) (hR : ax_Rep base av D cA Hs Ls xs ph h H) (hlo : ∀ q ∈ locs, base ≤ q.base)
    (K : ls1 = ls → h1.2 = h.2 → ∀ H1 locs1, ax_Rep base av D cA Hs Ls xs ph h1 H1 → (∀ q ∈ locs1, base ≤ q.base) → ax_W base av p l e R s mth args below meth c H1 locs1 cells slots Q pc1 cls st1) : ax_W base av p l e R s mth args below meth c H locs cells slots Q pc cls st := by
  obtain ⟨hx, hb, hml, hown, hts, hnm, KC⟩ := CX
  simp only [ax_step] at hs
  split at hs
  · rename_i v a r
    split at hs
    · rename_i q hq
      split at hs
      · rename_i hc
        cases hs
        have K := K rfl rfl
        obtain ⟨hc1, h12, hc2, hc3, hc4, hc5, hc6⟩ := hc
        obtain ⟨hin, -, hk⟩ := ax_fld_in hq
        have ha : 64 ≤ a := by
          unfold ax_wok at hc2
          simp only [Bool.and_eq_true, decide_eq_true_eq] at hc2
          exact hc2.1
        have hn := hR.ok hc3 (Nat.not_lt.mpr ha)
        obtain ⟨hcl, hws, hnd⟩ := ax_cl_in q.1 h12
        have htc : ∀ w ∈ u_ws (ax_nm q.1) (ax_fT q.1) (ax_nf q.1), w.before args s = true := fun w hw => hts w (hws w hw) (ax_uws_good w hw)
        have hKn := KC.1 q.1 _ hcl
        obtain ⟨hS, hfc, kC, hkC, hkind⟩ := hKn
        obtain ⟨cf, kf, fi, f, g1, g2⟩ := hS q.2 hk
        have hat := (hR.2.2.2.2.1 a ha hn).1 (by rw [hc1]; exact h12)
        rw [hc1] at hat
        obtain ⟨cell, q1, q2, q3, q4⟩ := hat
        obtain ⟨hpd, hdc, hff, -⟩ := ax_fy_in h12 hk
        obtain ⟨nn, nf⟩ := ax_nfit (base := base) hv h12 hk hc5 hc6
        have hap : ∀ x y, x < ax_nf q.1 → y < ax_nf q.1 → x ≠ y → (D.2 q.1) x ≠ (D.2 q.1) y := by
          intro x y hx1 hy1 hne
          obtain ⟨_, _, _, fa, hia, ea⟩ := hS x hx1
          obtain ⟨_, _, _, fb, hib, eb⟩ := hS y hy1
          rw [← ea, ← eb]
          refine u_apart (u_lays htc (fun _ z => z) hx1) (u_lays htc (fun _ z => z) hy1) hia hib ?_
          rw [(State.fieldFound?_type hia (ax_fy_in h12 hx1).1).1, (State.fieldFound?_type hib (ax_fy_in h12 hy1).1).1]
          exact hnd x hx1 y hy1 hne
        have hst := (u_facts hfc hkC (u_lays htc (fun _ z => z) hk) g1).1
        have hlay := htc _ (u_in_lay hk)
        have etv : ax_tv (ax_fc q.1 q.2) v = v := by
          rcases (ax_fy_in h12 hk).2.2.2 with ⟨e1, -⟩ | ⟨e1, -⟩ | ⟨e1, -⟩ | ⟨e1, -⟩ <;> rw [e1] at hc5 ⊢
          · obtain ⟨x, rfl⟩ := ax_kd_int hc5; rfl
          · obtain ⟨x, rfl⟩ := ax_kd_long hc5; rfl
          · rcases ax_kd_ref hc5 with rfl | ⟨x, rfl⟩ <;> rfl
          · obtain ⟨x, rfl⟩ := ax_kd_int hc5; rfl
        have fin : ∀ H' : Heap, H'[base + (a - 64)]? = some (cell.setSlot f.slot (ax_cv base av v)) → H'.size = H.size → (∀ q, q ≠ base + (a - 64) → H'[q]? = H[q]?) → ax_W base av p l e R s mth args below meth c H' (locs ++ [⟨base + (a - 64), f.slot⟩]) cells slots Q (pc + 3) cls st1 := by
          intro H' e1 e2 e3
          refine K H' _ (hR.wr ha hn hc2 e2 e3 ?_) ?_
          · refine ⟨fun _ => ?_, fun z => ?_⟩
            · show t_OB _ (D.1 (ax_ty h a).1) _ _ _ _
              have et : ax_ty (ax_wr h a q.2 v) a = ax_ty h a := rfl
              rw [et, hc1]
              rw [g2] at e1
              refine ⟨_, e1, q2, q3, fun j hj => ?_⟩
              rw [t_set q4 hap hk (ax_cv base av v) j hj]
              congr 1
              show updV _ q.2 _ j = ax_cv base av (ax_tv (ax_fc q.1 j) (if a = a ∧ j = q.2 then v else h.1 a j))
              by_cases ej : j = q.2
              · subst ej
                rw [if_pos ⟨rfl, rfl⟩, etv]
                simp [updV]
              · rw [if_neg (fun z => ej z.2)]
                simp [updV, ej]
            · have et : ax_ty (ax_wr h a q.2 v) a = ax_ty h a := rfl
              rw [et, hc1] at z
              omega
          · intro q hq
            rcases List.mem_append.mp hq with z | z
            · exact hlo q z
            · rw [List.mem_singleton.mp z]
              exact Nat.le_add_right _ _
        unfold ax_W at fin ⊢
        rw [List.map_cons, List.map_cons, ax_adr_own ha]
        by_cases hf : ax_ff q.1 q.2 = true
        · obtain ⟨hin2, hcl2⟩ := hc4 hf
          unfold u_lay at hlay
          rw [if_pos (by rw [hff]; exact hf)] at hlay
          have hcf : mth.cls = cf := by
            obtain ⟨_, _, c', _, _, _, -, -, hf', -, -, -, hown2, -⟩ := Cond.laysFinal_spec hlay
            have e1 : c' = cf := by have := g1.symm.trans hf'; simp at this; exact this.1.symm
            rw [hdc, hcl2] at hown2
            rw [← e1]; exact Option.some.inj (hown.symm.trans hown2)
          have h6 := u_fits hfc hkC hkind (Or.inr hlay) g1 hpd nn nf
          exact W.putFinK hx hb hown (hts _ hin rfl) g1 hst hcf (hnm.trans hin2) (by rw [q2]; exact h6) q1 q3 (by rw [g2]; exact k2_hasslot (q4 q.2 hk)) rfl rfl hd fin
        · unfold u_lay at hlay
          rw [if_neg (by rw [hff]; exact hf)] at hlay
          have h6 := u_store hfc hkC hkind hlay g1 hpd nn nf
          exact W.putK hx hb (f := f) ⟨hown, hts _ hin rfl, ⟨_, _, _, g1⟩, hst⟩ (by rw [q2]; exact h6) q1 q3 (by rw [g2]; exact k2_hasslot (q4 q.2 hk)) rfl rfl hd fin
      · cases hs
    · cases hs
  · cases hs
theorem ax_s_getstatic {k : Nat} (hs : ax_step ph m (.getstatic k) pc ls st h = some (pc1, ls1, st1, h1)) (hd : decode (ax_code m) pc = .ok (.getstatic k, 3)) (CX : ax_Cx base av D cA Hs Ls xs p s mth args meth c m) (hR : ax_Rep base av D cA Hs Ls xs ph h H) (K : ls1 = ls → h1 = h → ax_W base av p l e R s mth args below meth c H locs cells slots Q pc1 cls st1) : ax_W base av p l e R s mth args below meth c H locs cells slots Q pc cls st := by
  obtain ⟨hx, hb, hml, hown, hts, hnm, KC⟩ := CX
  simp only [ax_step] at hs
  split at hs
  · rename_i v hq
    cases hs
    have K := K rfl rfl
    obtain ⟨hm, n, hn, hlk⟩ := ax_sta_in hq
    obtain ⟨cf, kf, fi, f, a, cell, h1, h2, h3, h4, h5, h6, h7, h8⟩ := KC.2.2.2.2.2.2.2.2.1 _ hm n hn
    have h5 : H[a]? = some cell := by
      rw [hR.2.2.2.1 a (by rw [← hR.1]; exact (Array.getElem?_eq_some_iff.mp h5).1)]; exact h5
    exact W.gets hx hb hown (hts _ hlk rfl) h1 h2 h3 h4 h5 (fun e => by rw [e] at h6; cases h6) h7 rfl hd K
  · cases hs
theorem ax_s_ldc {k : Nat} (hs : ax_step ph m (.ldc k) pc ls st h = some (pc1, ls1, st1, h1)) (hd : decode (ax_code m) pc = .ok (.ldc k, 2)) (CX : ax_Cx base av D cA Hs Ls xs p s mth args meth c m) (K : ls1 = ls → h1 = h → ax_W base av p l e R s mth args below meth c H locs cells slots Q pc1 cls st1) : ax_W base av p l e R s mth args below meth c H locs cells slots Q pc cls st := by
  obtain ⟨hx, hb, hml, hown, hts, hnm, KC⟩ := CX
  simp only [ax_step] at hs
  split at hs
  · rename_i v hq
    cases hs
    exact lv_ldc hx hb hown (hts _ ((ax_ldc_in hq).2.1 _ rfl) rfl) hd (K rfl rfl)
  · rename_i v hq
    cases hs
    obtain ⟨hm, -, -, -, h4⟩ := ax_ldc_in hq
    obtain ⟨a, tx, ea, hr⟩ := KC.2.2.2.2.2.2.2.2.2 _ hm v rfl
    have K := K rfl rfl
    unfold ax_W at K ⊢
    rw [List.map_cons, ax_cv_c (Nat.lt_of_lt_of_le (h4 v rfl).1 (by decide)), ea] at K
    exact va_ldcS hx hb hown hr hd K
  · cases hs
theorem ax_ldcwS {own tx : String} {index q : Nat} {ls0 : Array Slot} {rest : List Value} {cc : ByteArray} (hexec : p.tables.exec = Jvm.exec) (hb : c.code = cc) (hown : s.vm.findClass own = some mth.cls) (hZ : vk_R own index tx q s) (hdg : decode cc pc = .ok (.ldc_w index, 3))
    (k : W p l e R s mth args below meth c H locs cells slots Q (F0 mth (pc + 3) ls0 (.ref q :: rest))) : W p l e R s mth args below meth c H locs cells slots Q (F0 mth pc ls0 rest) := by
  intro T hT X
  obtain ⟨t, a1, b1⟩ := k T hT X
  refine ⟨t, ?_, b1⟩
  obtain ⟨k0, cf, i, a, hk, hcf, hcp, -, hr, hev⟩ := Cond.stringRef_spec (args := #[]) (first := s) (o := none) (s := s) (idx := []) hown hZ.1
  have ha : a = q := by
    have := hev.symm.trans hZ.2
    cases this
    rfl
  subst ha
  obtain ⟨k', hk', he⟩ := X.warmed.alike.2.2 _ _ hk
  have hr' : k'.resolved[index]? = some (some (.string a)) := by
    rcases X.warmed.entry hk hk' index with h | ⟨h, -⟩
    · rw [h]; exact hr
    · rw [hr] at h; cases h
  jvm_step X.here [hexec, hb, hdg, ldc_w.wp_string (e := e) (s := T) (f := F0 mth pc ls0 rest) X.here.top hk' (by rw [he]; exact hcf) hcp hr']
  exact a1
theorem ax_s_ldcw {k : Nat} (hs : ax_step ph m (.ldc_w k) pc ls st h = some (pc1, ls1, st1, h1)) (hd : decode (ax_code m) pc = .ok (.ldc_w k, 3)) (CX : ax_Cx base av D cA Hs Ls xs p s mth args meth c m) (K : ls1 = ls → h1 = h → ax_W base av p l e R s mth args below meth c H locs cells slots Q pc1 cls st1) : ax_W base av p l e R s mth args below meth c H locs cells slots Q pc cls st := by
  obtain ⟨hx, hb, hml, hown, hts, hnm, KC⟩ := CX
  simp only [ax_step] at hs
  split at hs
  · rename_i v hq
    cases hs
    exact lv_ldcw hx hb hown (hts _ ((ax_ldc_in hq).2.1 _ rfl) rfl) hd (K rfl rfl)
  · rename_i v hq
    cases hs
    obtain ⟨hm, -, -, -, h4⟩ := ax_ldc_in hq
    obtain ⟨a, tx, ea, hr⟩ := KC.2.2.2.2.2.2.2.2.2 _ hm v rfl
    have K := K rfl rfl
    unfold ax_W at K ⊢
    rw [List.map_cons, ax_cv_c (Nat.lt_of_lt_of_le (h4 v rfl).1 (by decide)), ea] at K
    exact ax_ldcwS hx hb hown hr hd K
  · cases hs
theorem ax_s_ldc2 {k : Nat} (hs : ax_step ph m (.ldc2_w k) pc ls st h = some (pc1, ls1, st1, h1)) (hd : decode (ax_code m) pc = .ok (.ldc2_w k, 3)) (CX : ax_Cx base av D cA Hs Ls xs p s mth args meth c m) (K : ls1 = ls → h1 = h → ax_W base av p l e R s mth args below meth c H locs cells slots Q pc1 cls st1) : ax_W base av p l e R s mth args below meth c H locs cells slots Q pc cls st := by
  obtain ⟨hx, hb, hml, hown, hts, hnm, KC⟩ := CX
  simp only [ax_step] at hs
  split at hs
  · rename_i v hq
    cases hs
    exact lv_ldc2 hx hb hown (hts _ ((ax_ldc_in hq).2.2.1 _ rfl) rfl) hd (K rfl rfl)
  · rename_i v hq
    cases hs
    exact lv_ldc2d hx hb hown (hts _ ((ax_ldc_in hq).2.2.2.1 _ rfl) rfl) hd (K rfl rfl)
  · cases hs
end AxC
