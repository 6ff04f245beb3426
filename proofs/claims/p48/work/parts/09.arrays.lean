/-! ONE INSTRUCTION THAT LOOKS AT AN ARRAY, OR MAKES A CELL -/
section AxD
variable {base : Nat} {av : Nat → Value} {D : va_G} {cA : Nat → ClassId} {Hs : Heap} {Ls : Nat} {xs : Nat → Int32} {ph : Bool}
variable {p : Program} {l : Launch} {e : Env} {R : Room} {s : State} {mth : MethodId} {args : Array Value} {below : List Frame} {meth : Method} {c : Code} {H : Heap} {locs : List Loc} {cells slots : Nat} {Q : State → Prop} {m pc : Nat} {cls : Array Slot} {ls st ls1 st1 : List Value} {h h1 : AH} {pc1 : Nat}
/-- an array that is there, a constant's or the program's own: where it lies, what it holds -/
theorem ax_Rep.array (KC : ax_KC base av D cA Hs Ls xs s) (hR : ax_Rep base av D cA Hs Ls xs ph h H) {a : Nat} (hc : 20 ≤ (ax_ty h a).1) (hc9 : (ax_ty h a).1 ≠ 99) (hk : ax_ok ph h a = true) : ∃ (b : Nat) (cell : Cell) (ty : FieldType), ax_cv base av (.ref a) = .ref b ∧ H[b]? = some cell ∧ s.isArrayOf cell ty ∧ cell.vm ≠ .unknown ∧ (ax_ty h a).2 ≤ cell.slots.size ∧ cell.slots.size.toInt32 = Int32.ofNat (ax_ty h a).2 ∧ (∀ j : Nat, j < (ax_ty h a).2 → cell.slots[j]? = some (ax_cv base av (ax_ev (ax_ty h a).1 (ax_rd ph h a j)))) ∧ ((ax_ty h a).1 = 20 → ty = .int) ∧ ((ax_ty h a).1 = 21 → ty = .long) ∧ ((ax_ty h a).1 = 22 → ty = .byte) ∧ ((ax_ty h a).1 = 24 ∨ 30 ≤ (ax_ty h a).1 → ty.isReference = true) := by
  by_cases ha : a < 64
  · have et : ax_ty h a = ax_cty Ls a := by rw [ax_ty_con ha, hR.2.2.2.2.2.2.2.1]
    rw [et] at hc hc9 ⊢
    have ha9 : a < 49 := ax_con_lt (Ls := Ls) hc9
    obtain ⟨b, eb, cell, g1, g2, g3, g4, g5, g6, g7⟩ := KC.2.2.2.2.2.1 a ha9 hc hc9
    refine ⟨b, cell, _, by rw [ax_cv_c ha, eb], ?_, g2, g3, g4, g5, fun j hj => ?_, fun q => ?_, fun q => ?_, fun q => ?_, fun q => ?_⟩
    · rw [hR.2.2.2.1 b (by rw [← hR.1]; exact (Array.getElem?_eq_some_iff.mp g1).1)]
      exact g1
    · rw [g6 j hj, ax_rd_con hR ha9]
    · rw [q]; rfl
    · have : ∀ k, k < 49 → k ≠ 48 → (ax_ctyL.getD k (99, 0)).1 ≠ 21 := by decide +kernel
      unfold ax_cty at q
      split at q
      · exact absurd (show (20 : Nat) = 21 from q) (by decide)
      · exact absurd q (this a ha9 (by assumption))
    · rw [q]; rfl
    · unfold ax_cel
      rw [if_neg (by rcases q with q | q <;> omega), if_neg (by rcases q with q | q <;> omega)]
      rfl
  · have ha : 64 ≤ a := Nat.not_lt.mp ha
    have hn := hR.ok hk (Nat.not_lt.mpr ha)
    have hcell := hR.arr ha hn hc
    rcases hR.own ha hn with z | ⟨ty, z1, z2, z3, z4⟩
    · omega
    · obtain ⟨k1, k2⟩ := KC.2.1 _ ty z1
      refine ⟨_, _, ty, ax_adr_own ha, hcell, k1 _ _, (fun q => by cases q), by rw [arrV_size]; exact Nat.le_refl _, by (rw [arrV_size]; try rfl), fun j hj => by rw [arrV_read _ _ hj, hR.rd ha], fun q => ?_, fun q => ?_, fun q => ?_, fun q => ?_⟩
      · rw [q] at z1; cases z1; rfl
      · rw [q] at z1; cases z1; rfl
      · rw [q] at z1; cases z1
      · unfold ax_aty at z1
        rw [if_neg (by rcases q with q | q <;> omega), if_neg (by rcases q with q | q <;> omega)] at z1
        repeat' split at z1
        all_goals first | (cases z1; rfl) | (cases z1)
theorem ax_s_alen (hs : ax_step ph m .arraylength pc ls st h = some (pc1, ls1, st1, h1)) (hd : decode (ax_code m) pc = .ok (.arraylength, 1)) (CX : ax_Cx base av D cA Hs Ls xs p s mth args meth c m) (hR : ax_Rep base av D cA Hs Ls xs ph h H) (K : ls1 = ls → h1 = h → ax_W base av p l e R s mth args below meth c H locs cells slots Q pc1 cls st1) : ax_W base av p l e R s mth args below meth c H locs cells slots Q pc cls st := by
  obtain ⟨hx, hb, hml, hown, hts, hnm, KC⟩ := CX
  simp only [ax_step] at hs
  split at hs
  · rename_i a r
    split at hs
    · rename_i hc
      cases hs
      obtain ⟨b, cell, ty, e1, e2, e3, e4, e5, e6, -⟩ := ax_Rep.array KC hR hc.1 hc.2.1 hc.2.2
      have K := K rfl rfl
      unfold ax_W at K ⊢
      rw [List.map_cons, e1]
      exact W.alen hx hb e2 e3 e6 rfl rfl hd K
    · cases hs
  · cases hs
theorem ax_s_iaload (hs : ax_step ph m .iaload pc ls st h = some (pc1, ls1, st1, h1)) (hd : decode (ax_code m) pc = .ok (.iaload, 1)) (CX : ax_Cx base av D cA Hs Ls xs p s mth args meth c m) (hR : ax_Rep base av D cA Hs Ls xs ph h H) (K : ls1 = ls → h1 = h → ax_W base av p l e R s mth args below meth c H locs cells slots Q pc1 cls st1) : ax_W base av p l e R s mth args below meth c H locs cells slots Q pc cls st := by
  obtain ⟨hx, hb, hml, hown, hts, hnm, KC⟩ := CX
  simp only [ax_step] at hs
  split at hs
  · rename_i j a r
    split at hs
    · rename_i hc
      cases hs
      obtain ⟨b, cell, ty, e1, e2, e3, e4, e5, e6, e7, e8, e9, e10, e11⟩ := ax_Rep.array KC hR (by rw [hc.1]; decide) (by rw [hc.1]; decide) hc.2.2
      have hin := ax_in_inv hc.2.1
      have hlt : j.toNatClampNeg < (ax_ty h a).2 := Nat.not_le.mp fun q => hin (Or.inr q)
      have K := K rfl rfl
      have e7 := e7 _ hlt
      rw [hc.1] at e7
      unfold ax_W at K ⊢
      rw [List.map_cons, List.map_cons, e1]
      exact W.iald hx hb e2 (e8 hc.1 ▸ e3) e4 (fun q => by rcases q with q | q; exact hin (Or.inl q); exact absurd (Nat.lt_of_lt_of_le hlt e5) (Nat.not_lt.mpr q)) e7 rfl rfl hd K
    · cases hs
  · cases hs
theorem ax_s_baload (hs : ax_step ph m .baload pc ls st h = some (pc1, ls1, st1, h1)) (hd : decode (ax_code m) pc = .ok (.baload, 1)) (CX : ax_Cx base av D cA Hs Ls xs p s mth args meth c m) (hR : ax_Rep base av D cA Hs Ls xs ph h H) (K : ls1 = ls → h1 = h → ax_W base av p l e R s mth args below meth c H locs cells slots Q pc1 cls st1) : ax_W base av p l e R s mth args below meth c H locs cells slots Q pc cls st := by
  obtain ⟨hx, hb, hml, hown, hts, hnm, KC⟩ := CX
  simp only [ax_step] at hs
  split at hs
  · rename_i j a r
    split at hs
    · rename_i hc
      cases hs
      obtain ⟨b, cell, ty, e1, e2, e3, e4, e5, e6, e7, e8, e9, e10, e11⟩ := ax_Rep.array KC hR (by rw [hc.1]; decide) (by rw [hc.1]; decide) hc.2.2
      have hin := ax_in_inv hc.2.1
      have hlt : j.toNatClampNeg < (ax_ty h a).2 := Nat.not_le.mp fun q => hin (Or.inr q)
      have K := K rfl rfl
      have e7 := e7 _ hlt
      rw [hc.1] at e7
      unfold ax_W at K ⊢
      rw [List.map_cons, List.map_cons, e1]
      exact W.bald hx hb e2 (e10 hc.1 ▸ e3) e4 (fun q => by rcases q with q | q; exact hin (Or.inl q); exact absurd (Nat.lt_of_lt_of_le hlt e5) (Nat.not_lt.mpr q)) e7 rfl rfl hd K
    · cases hs
  · cases hs
theorem ax_s_laload (hs : ax_step ph m .laload pc ls st h = some (pc1, ls1, st1, h1)) (hd : decode (ax_code m) pc = .ok (.laload, 1)) (CX : ax_Cx base av D cA Hs Ls xs p s mth args meth c m) (hR : ax_Rep base av D cA Hs Ls xs ph h H) (K : ls1 = ls → h1 = h → ax_W base av p l e R s mth args below meth c H locs cells slots Q pc1 cls st1) : ax_W base av p l e R s mth args below meth c H locs cells slots Q pc cls st := by
  obtain ⟨hx, hb, hml, hown, hts, hnm, KC⟩ := CX
  simp only [ax_step] at hs
  split at hs
  · rename_i j a r
    split at hs
    · rename_i hc
      cases hs
      obtain ⟨b, cell, ty, e1, e2, e3, e4, e5, e6, e7, e8, e9, e10, e11⟩ := ax_Rep.array KC hR (by rw [hc.1]; decide) (by rw [hc.1]; decide) hc.2.2
      have hin := ax_in_inv hc.2.1
      have hlt : j.toNatClampNeg < (ax_ty h a).2 := Nat.not_le.mp fun q => hin (Or.inr q)
      have K := K rfl rfl
      have e7 := e7 _ hlt
      rw [hc.1] at e7
      unfold ax_W at K ⊢
      rw [List.map_cons, List.map_cons, e1]
      exact W.lald hx hb e2 (e9 hc.1 ▸ e3) e4 (fun q => by rcases q with q | q; exact hin (Or.inl q); exact absurd (Nat.lt_of_lt_of_le hlt e5) (Nat.not_lt.mpr q)) e7 rfl rfl hd K
    · cases hs
  · cases hs
theorem ax_ev_ref {k : Nat} (h : k = 24 ∨ 30 ≤ k) (v : Value) : ax_ev k v = toR v := by
  unfold ax_ev
  rw [if_neg (by rcases h with h | h <;> omega), if_neg (by rcases h with h | h <;> omega), if_neg (by rcases h with h | h <;> omega)]
theorem ax_s_aaload (hs : ax_step ph m .aaload pc ls st h = some (pc1, ls1, st1, h1)) (hd : decode (ax_code m) pc = .ok (.aaload, 1)) (CX : ax_Cx base av D cA Hs Ls xs p s mth args meth c m) (hR : ax_Rep base av D cA Hs Ls xs ph h H) (K : ls1 = ls → h1 = h → ax_W base av p l e R s mth args below meth c H locs cells slots Q pc1 cls st1) : ax_W base av p l e R s mth args below meth c H locs cells slots Q pc cls st := by
  obtain ⟨hx, hb, hml, hown, hts, hnm, KC⟩ := CX
  simp only [ax_step] at hs
  split at hs
  · rename_i j a r
    split at hs
    · rename_i hc
      cases hs
      obtain ⟨b, cell, ty, e1, e2, e3, e4, e5, e6, e7, e8, e9, e10, e11⟩ := ax_Rep.array KC hR (by rcases hc.1 with q | q <;> omega) hc.2.1 hc.2.2.2
      have hin := ax_in_inv hc.2.2.1
      have hlt : j.toNatClampNeg < (ax_ty h a).2 := Nat.not_le.mp fun q => hin (Or.inr q)
      have K := K rfl rfl
      have e7 := e7 _ hlt
      rw [ax_ev_ref hc.1] at e7
      unfold ax_W at K ⊢
      rw [List.map_cons, List.map_cons, e1]
      exact W.aald hx hb e2 e3 (e11 hc.1) e4 (fun q => by rcases q with q | q; exact hin (Or.inl q); exact absurd (Nat.lt_of_lt_of_le hlt e5) (Nat.not_lt.mpr q)) e7 rfl rfl hd K
    · cases hs
  · cases hs
theorem ax_wok_ge {a j : Nat} (h : ax_wok ph a j = true) : 64 ≤ a := by
  unfold ax_wok at h
  simp only [Bool.and_eq_true, decide_eq_true_eq] at h
  exact h.1
theorem ax_lo_app {k i : Nat} (hlo : ∀ q ∈ locs, base ≤ q.base) : ∀ q ∈ locs ++ [(⟨base + k, i⟩ : Loc)], base ≤ q.base := by
  intro q hq
  rcases List.mem_append.mp hq with z | z
  · exact hlo q z
  · rw [List.mem_singleton.mp z]
    exact Nat.le_add_right _ _
theorem ax_s_iastore (hs : ax_step ph m .iastore pc ls st h = some (pc1, ls1, st1, h1)) (hd : decode (ax_code m) pc = .ok (.iastore, 1)) (CX : ax_Cx base av D cA Hs Ls xs p s mth args meth c m) (hR : ax_Rep base av D cA Hs Ls xs ph h H) (hlo : ∀ q ∈ locs, base ≤ q.base)
    (K : ls1 = ls → h1.2 = h.2 → ∀ H1 locs1, ax_Rep base av D cA Hs Ls xs ph h1 H1 → (∀ q ∈ locs1, base ≤ q.base) → ax_W base av p l e R s mth args below meth c H1 locs1 cells slots Q pc1 cls st1) : ax_W base av p l e R s mth args below meth c H locs cells slots Q pc cls st := by
  obtain ⟨hx, hb, hml, hown, hts, hnm, KC⟩ := CX
  simp only [ax_step] at hs
  split at hs
  · rename_i x j a r
    split at hs
    · rename_i hc
      cases hs
      obtain ⟨hc1, hc2, hc3, hc4⟩ := hc
      have ha := ax_wok_ge hc3
      have hn := hR.ok hc4 (Nat.not_lt.mpr ha)
      have hcell := hR.arr ha hn (by rw [hc1]; decide)
      have hin := ax_in_inv hc2
      have K := K rfl rfl
      unfold ax_W at K ⊢
      rw [List.map_cons, List.map_cons, List.map_cons, ax_adr_own ha]
      refine W.iast hx hb hcell ((KC.2.1 20 .int rfl).1 _ _ |> fun z => by rw [hc1]; exact z) (fun q => by cases q) (by rw [arrV_size]; exact hin) rfl rfl hd fun H1 g1 g2 g3 => ?_
      exact K H1 _ (hR.wr ha hn hc3 g2 g3 (ax_at_arr (by rw [hc1]; decide) (by rw [hc1]; rfl) g1)) (ax_lo_app hlo)
    · cases hs
  · cases hs
theorem ax_s_lastore (hs : ax_step ph m .lastore pc ls st h = some (pc1, ls1, st1, h1)) (hd : decode (ax_code m) pc = .ok (.lastore, 1)) (CX : ax_Cx base av D cA Hs Ls xs p s mth args meth c m) (hR : ax_Rep base av D cA Hs Ls xs ph h H) (hlo : ∀ q ∈ locs, base ≤ q.base)
    (K : ls1 = ls → h1.2 = h.2 → ∀ H1 locs1, ax_Rep base av D cA Hs Ls xs ph h1 H1 → (∀ q ∈ locs1, base ≤ q.base) → ax_W base av p l e R s mth args below meth c H1 locs1 cells slots Q pc1 cls st1) : ax_W base av p l e R s mth args below meth c H locs cells slots Q pc cls st := by
  obtain ⟨hx, hb, hml, hown, hts, hnm, KC⟩ := CX
  simp only [ax_step] at hs
  split at hs
  · rename_i x j a r
    split at hs
    · rename_i hc
      cases hs
      obtain ⟨hc1, hc2, hc3, hc4⟩ := hc
      have ha := ax_wok_ge hc3
      have hn := hR.ok hc4 (Nat.not_lt.mpr ha)
      have hcell := hR.arr ha hn (by rw [hc1]; decide)
      have hin := ax_in_inv hc2
      have K := K rfl rfl
      unfold ax_W at K ⊢
      rw [List.map_cons, List.map_cons, List.map_cons, ax_adr_own ha]
      refine W.last hx hb hcell ((KC.2.1 21 .long rfl).1 _ _ |> fun z => by rw [hc1]; exact z) (fun q => by cases q) (by rw [arrV_size]; exact hin) rfl rfl hd fun H1 g1 g2 g3 => ?_
      exact K H1 _ (hR.wr ha hn hc3 g2 g3 (ax_at_arr (by rw [hc1]; decide) (by rw [hc1]; rfl) g1)) (ax_lo_app hlo)
    · cases hs
  · cases hs
/-- of an array of objects the element's class, as the tables have it -/
theorem ax_aty_obj {k : Nat} {ty : FieldType} (hk : 30 ≤ k) (h : ax_aty k = some ty) : ty = .object (ax_nm (k - 30)) ∧ k - 30 < 14 := by
  unfold ax_aty at h
  rw [if_neg (by omega), if_neg (by omega), if_neg (by omega)] at h
  repeat' split at h
  all_goals first | (rename_i q; subst q; cases h; exact ⟨rfl, by decide⟩) | (cases h)
theorem ax_s_aastore (hs : ax_step ph m .aastore pc ls st h = some (pc1, ls1, st1, h1)) (hd : decode (ax_code m) pc = .ok (.aastore, 1)) (CX : ax_Cx base av D cA Hs Ls xs p s mth args meth c m) (hR : ax_Rep base av D cA Hs Ls xs ph h H) (hlo : ∀ q ∈ locs, base ≤ q.base)
    (K : ls1 = ls → h1.2 = h.2 → ∀ H1 locs1, ax_Rep base av D cA Hs Ls xs ph h1 H1 → (∀ q ∈ locs1, base ≤ q.base) → ax_W base av p l e R s mth args below meth c H1 locs1 cells slots Q pc1 cls st1) : ax_W base av p l e R s mth args below meth c H locs cells slots Q pc cls st := by
  obtain ⟨hx, hb, hml, hown, hts, hnm, KC⟩ := CX
  simp only [ax_step] at hs
  split at hs
  · rename_i j a r
    split at hs
    · rename_i hc
      cases hs
      obtain ⟨⟨hc1, hc1b⟩, hc2, hc3, hc4⟩ := hc
      have ha := ax_wok_ge hc3
      have hn := hR.ok hc4 (Nat.not_lt.mpr ha)
      have hcell := hR.arr ha hn (by omega)
      have hin := ax_in_inv hc2
      have K := K rfl rfl
      rcases hR.own ha hn with z | ⟨ty, z1, z2, z3, z4⟩
      · omega
      obtain ⟨rfl, -⟩ := ax_aty_obj hc1 z1
      unfold ax_W at K ⊢
      rw [List.map_cons, List.map_cons, List.map_cons, ax_adr_own ha]
      refine va_WaastN (C := ax_nm ((ax_ty h a).1 - 30)) hx hb hcell ((KC.2.1 _ _ z1).1 _ _) (fun q => by cases q) (by rw [arrV_size]; exact hin) rfl rfl hd fun H1 g1 g2 g3 => ?_
      exact K H1 _ (hR.wr ha hn hc3 g2 g3 (ax_at_arr (by omega) (by rw [ax_ev_ref (Or.inr hc1)]; rfl) g1)) (ax_lo_app hlo)
    · cases hs
  · rename_i v j a r
    split at hs
    · rename_i hc
      cases hs
      obtain ⟨hcc, hv64, hvk, hc2, hc3, hc4⟩ := hc
      have h20 : 20 ≤ (ax_ty h a).1 := by rcases hcc with z | z <;> omega
      have ha := ax_wok_ge hc3
      have hn := hR.ok hc4 (Nat.not_lt.mpr ha)
      have hcell := hR.arr ha hn h20
      have hin := ax_in_inv hc2
      have K := K rfl rfl
      have hvn := hR.ok hvk (Nat.not_lt.mpr hv64)
      have e1 : ax_cv base av (.ref v) = .ref (base + (v - 64)) := ax_adr_own hv64
      -- the array's class, the element's cell
      have hel : ∃ (kA kv : Class) (cv : Cell) (t : FieldType), s.vm.classes[cA (ax_ty h a).1]? = some kA ∧ kA.kind = .array cv.cls t ∧ t.isReference = true ∧ H[base + (v - 64)]? = some cv ∧ (∀ q, cv.vm ≠ .statics q) ∧ s.vm.classes[cv.cls]? = some kv := by
        rcases hcc with ⟨hc1, hc1b, hcv⟩ | ⟨hc1, hcv⟩
        · rcases hR.own ha hn with z | ⟨ty, z1, z2, z3, z4⟩
          · omega
          obtain ⟨rfl, hlt14⟩ := ax_aty_obj hc1 z1
          have ek : (ax_ty h a).1 - 30 = (ax_ty h v).1 := by omega
          obtain ⟨hArr, kA, comp, k1, k2, k3, k4⟩ := KC.2.1 _ _ z1
          have h12 : (ax_ty h v).1 < 12 := by
            rcases hR.own hv64 hvn with z | ⟨ty, z1, z2, -⟩
            · exact z
            · omega
          obtain ⟨cell, q1, q2, q3, q4⟩ := (hR.2.2.2.2.1 v hv64 hvn).1 h12
          obtain ⟨-, hfc, kC, hkC, -⟩ := KC.1 _ _ (ax_cl_in _ h12).1
          rw [ek] at k3
          have hcomp : comp = cell.cls := by rw [q2]; exact Option.some.inj (k3.symm.trans hfc)
          subst hcomp
          exact ⟨kA, kC, cell, _, k1, k2, rfl, q1, (fun q z => by rw [z] at q3; cases q3), by rw [q2]; exact hkC⟩
        · obtain ⟨comp, c0, k, h1, h2, h3, h4, h5⟩ := arrayOver_specB KC.2.2.2.1.2.1
          have ec : cA 24 = c0 := Option.some.inj ((KC.2.1 24 (.array .int) rfl).2.symm.trans h5)
          have ec2 : cA 20 = comp := Option.some.inj ((KC.2.1 20 .int rfl).2.symm.trans h1)
          subst ec; subst ec2
          have hvc := hR.arr hv64 hvn (by rw [hcv]; decide)
          rw [hcv] at hvc
          obtain ⟨-, kv, hkv, -⟩ := (KC.2.1 20 .int rfl).1 0 (fun _ => .null)
          exact ⟨k, kv, _, _, by rw [hc1]; exact h3, h4, rfl, hvc, (fun q z => by cases z), hkv⟩
      obtain ⟨kA, kv, cv, t, k1, k2, k3, e2, e3, e5⟩ := hel
      have hrf : (ax_ty h a).1 = 24 ∨ 30 ≤ (ax_ty h a).1 := by rcases hcc with z | z <;> omega
      unfold ax_W at K ⊢
      rw [List.map_cons, List.map_cons, List.map_cons, ax_adr_own ha, e1]
      refine W.aast hx hb hcell (fun q z => by cases z) (fun z => by cases z) k1 k2 k3 e5 ⟨fun z => hin (Or.inl z), by rw [arrV_size]; exact Nat.not_le.mp fun z => hin (Or.inr z)⟩ e2 e3 e5 (va_asg _ _) rfl rfl hd fun H1 g1 g2 g3 => ?_
      exact K H1 _ (hR.wr ha hn hc3 g2 g3 (ax_at_arr h20 (by rw [ax_ev_ref hrf]; exact e1) g1)) (ax_lo_app hlo)
    · cases hs
  · cases hs
end AxD
