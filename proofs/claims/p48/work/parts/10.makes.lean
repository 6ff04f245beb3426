/-! ONE INSTRUCTION THAT MAKES A CELL -/
section AxE
variable {base : Nat} {av : Nat → Value} {D : va_G} {cA : Nat → ClassId} {Hs : Heap} {Ls : Nat} {xs : Nat → Int32} {ph : Bool}
variable {p : Program} {l : Launch} {e : Env} {R : Room} {s : State} {mth : MethodId} {args : Array Value} {below : List Frame} {meth : Method} {c : Code} {H : Heap} {locs : List Loc} {cells slots : Nat} {Q : State → Prop} {m pc : Nat} {cls : Array Slot} {ls st ls1 st1 : List Value} {h h1 : AH} {pc1 : Nat}
theorem ax_defv {k j : Nat} (hk : k < 12) (hj : j < ax_nf k) : defaultValue (ax_fy k j) = ax_cv base av (ax_tv (ax_fc k j) (ax_df (ax_fc k j))) := by
  rcases (ax_fy_in hk hj).2.2.2 with ⟨e1, e2⟩ | ⟨e1, e2⟩ | ⟨e1, e2⟩ | ⟨e1, e2⟩
  · rw [e1, e2]; rfl
  · rw [e1, e2]; rfl
  · rw [e1]
    cases hf : ax_fy k j <;> rw [hf] at e2 <;> first | rfl | (exact absurd e2 (by decide))
  · rw [e1, e2]; rfl
theorem ax_s_new {k : Nat} (hs : ax_step ph m (.new k) pc ls st h = some (pc1, ls1, st1, h1)) (hd : decode (ax_code m) pc = .ok (.new k, 3)) (CX : ax_Cx base av D cA Hs Ls xs p s mth args meth c m) (hR : ax_Rep base av D cA Hs Ls xs ph h H) (hce : cells + (h1.2.2.1 - h.2.2.1) ≤ R.cells) (hsl : slots + (h1.2.2.2.1 - h.2.2.2.1) ≤ R.slots)
    (K : ls1 = ls → h.2.2.1 ≤ h1.2.2.1 → h.2.2.2.1 ≤ h1.2.2.2.1 → ∀ H1, ax_Rep base av D cA Hs Ls xs ph h1 H1 → ax_W base av p l e R s mth args below meth c H1 locs (cells + (h1.2.2.1 - h.2.2.1)) (slots + (h1.2.2.2.1 - h.2.2.2.1)) Q pc1 cls st1) : ax_W base av p l e R s mth args below meth c H locs cells slots Q pc cls st := by
  obtain ⟨hx, hb, hml, hown, hts, hnm, KC⟩ := CX
  simp only [ax_step] at hs
  split at hs
  · rename_i k1 hq
    obtain ⟨h2, hm, e1⟩ := Option.map_eq_some_iff.mp hs
    cases e1
    unfold ax_mkO at hm
    split at hm
    · rename_i hc
      cases hm
      obtain ⟨c1, c2, c3⟩ := hc
      have K := K rfl
      have z1 : (ax_mk h k1 (ax_nf k1) (fun j => ax_df (ax_fc k1 j))).2.2.1 - h.2.2.1 = 1 := Nat.add_sub_cancel_left ..
      have z2 : (ax_mk h k1 (ax_nf k1) (fun j => ax_df (ax_fc k1 j))).2.2.2.1 - h.2.2.2.1 = ax_nf k1 := Nat.add_sub_cancel_left ..
      rw [z1] at hce K
      rw [z2] at hsl K
      have K := K (Nat.le_add_right _ _) (Nat.le_add_right _ _)
      obtain ⟨hcl, hws, hnd⟩ := ax_cl_in k1 c2
      have htc : ∀ w ∈ u_ws (ax_nm k1) (ax_fT k1) (ax_nf k1), w.before args s = true := fun w hw => hts w (hws w hw) (ax_uws_good w hw)
      have hKn := KC.1 k1 _ hcl
      have hHs : H.size = base + (h.2.2.1 - 64) := by have := hR.2.2.1; omega
      have hia := (ax_adr_own (base := base) (av := av) c1)
      unfold ax_W at K ⊢
      refine W.newcK hx hb hown (hts _ (ax_new_in hq) rfl) (hts _ (ax_ins_in c2) rfl) (hts _ (ax_ini_in (by omega)) rfl) rfl hd hce hsl hKn.2.1 rfl fun H1 kC hkC e1 e2 e3 => ?_
      have hob := u_born (ax_fy k1) htc (fun _ z => z) hKn hkC e1 (fun j hj => (ax_fy_in c2 hj).1)
      have K := K H1 (hR.mk e2 e3 (fun _ => Or.inl c2) ?_)
      · rw [List.map_cons, hia, ← hHs] at K
        exact K
      · have et : (ax_ty (ax_mk h k1 (ax_nf k1) (fun j => ax_df (ax_fc k1 j))) h.2.2.1).1 = k1 := by
          rw [ax_ty_own c1]
          by_cases q : h.2.2.1 < 168
          · rw [if_pos q, c3 q]
          · rw [if_neg q]
            show (ax_dty (if h.2.2.1 = h.2.2.1 then k1 else _)).1 = k1
            rw [if_pos rfl]
            unfold ax_dty
            rw [if_pos (by omega)]
        refine ⟨fun _ => ?_, fun z => by rw [et] at z; omega⟩
        rw [et, ← hHs]
        refine hob.to fun j hj => ?_
        rw [ax_defv (base := base) (av := av) c2 hj]
        show _ = ax_cv base av (ax_tv _ (if h.2.2.1 = h.2.2.1 then _ else _))
        rw [if_pos rfl]
    · cases hm
  · cases hs
/-- an array that was made -/
theorem ax_dty_dcd {t len : Nat} (h : t = 20 ∨ t = 24) : ax_dty (ax_dcd t len) = (t, len) := by
  rcases h with rfl | rfl
  · show ax_dty (100 + 2 * len) = _
    unfold ax_dty
    rw [if_neg (by omega), if_pos (by omega), show (100 + 2 * len - 100) / 2 = len by omega]
  · show ax_dty (101 + 2 * len) = _
    unfold ax_dty
    rw [if_neg (by omega), if_neg (by omega), show (101 + 2 * len - 101) / 2 = len by omega]
theorem ax_dok_dcd {t len : Nat} (h : t = 20 ∨ t = 24) (hl : len < 19900) : ax_dok (ax_dcd t len) := by
  rcases h with rfl | rfl
  · exact Or.inr ⟨by show 100 ≤ 100 + 2 * len; omega, by show 100 + 2 * len < 40000; omega⟩
  · exact Or.inr ⟨by show 100 ≤ 101 + 2 * len; omega, by show 101 + 2 * len < 40000; omega⟩
theorem ax_Rep.mkA {H1 : Heap} (hR : ax_Rep base av D cA Hs Ls xs ph h H) {t len : Nat} {v : Value} (hm : ax_mkA h t len v = some h1) (ht : 20 ≤ t) (z : H1.size = H.size + 1) (oq : ∀ q, q < H.size → H1[q]? = H[q]?) (he : H1[H.size]? = some (arrV (cA t) len (fun _ => ax_cv base av (ax_ev t v)))) : ax_Rep base av D cA Hs Ls xs ph h1 H1 ∧ H.size = base + (h.2.2.1 - 64) ∧ 64 ≤ h.2.2.1 ∧ len ≤ 20000 ∧ h1.2.2.1 - h.2.2.1 = 1 ∧ h1.2.2.2.1 - h.2.2.2.1 = len ∧ h.2.2.1 ≤ h1.2.2.1 ∧ h.2.2.2.1 ≤ h1.2.2.2.1 := by
  unfold ax_mkA at hm
  split at hm
  · rename_i hc
    cases hm
    obtain ⟨c1, c3, c4, c5⟩ := hc
    have hHs : H.size = base + (h.2.2.1 - 64) := by have := hR.2.2.1; omega
    refine ⟨hR.mk z oq (fun q => ?_) ?_, hHs, c1, by omega, Nat.add_sub_cancel_left .., Nat.add_sub_cancel_left .., Nat.le_add_right _ _, Nat.le_add_right _ _⟩
    · exact ax_dok_dcd (c5 (by omega)) c3
    have et : ax_ty (ax_mk h (ax_dcd t len) len (fun _ => v)) h.2.2.1 = (t, len) := by
      rw [ax_ty_own c1]
      by_cases q : h.2.2.1 < 168
      · rw [if_pos q, c4 q]
      · rw [if_neg q]
        show ax_dty (if h.2.2.1 = h.2.2.1 then ax_dcd t len else _) = _
        rw [if_pos rfl, ax_dty_dcd (c5 q)]
    refine ⟨fun q => by rw [et] at q; exact absurd q (by show ¬ t < 12; omega), fun _ => ?_⟩
    rw [et, ← hHs, he]
    congr 2
    funext j
    show _ = ax_cv base av (ax_ev t (if h.2.2.1 = h.2.2.1 then v else _))
    rw [if_pos rfl]
  · cases hm
theorem ax_mkA_facts {t len : Nat} {v : Value} (hm : ax_mkA h t len v = some h1) : 64 ≤ h.2.2.1 ∧ len ≤ 20000 ∧ h1.2.2.1 - h.2.2.1 = 1 ∧ h1.2.2.2.1 - h.2.2.2.1 = len ∧ h.2.2.1 ≤ h1.2.2.1 ∧ h.2.2.2.1 ≤ h1.2.2.2.1 := by
  unfold ax_mkA at hm
  split at hm
  · rename_i hc
    cases hm
    exact ⟨hc.1, by omega, Nat.add_sub_cancel_left .., Nat.add_sub_cancel_left .., Nat.le_add_right _ _, Nat.le_add_right _ _⟩
  · cases hm
theorem ax_s_newarray {t : ArrayType} (hs : ax_step ph m (.newarray t) pc ls st h = some (pc1, ls1, st1, h1)) (hd : decode (ax_code m) pc = .ok (.newarray t, 2)) (CX : ax_Cx base av D cA Hs Ls xs p s mth args meth c m) (hR : ax_Rep base av D cA Hs Ls xs ph h H) (hce : cells + (h1.2.2.1 - h.2.2.1) ≤ R.cells) (hsl : slots + (h1.2.2.2.1 - h.2.2.2.1) ≤ R.slots)
    (K : ls1 = ls → h.2.2.1 ≤ h1.2.2.1 → h.2.2.2.1 ≤ h1.2.2.2.1 → ∀ H1, ax_Rep base av D cA Hs Ls xs ph h1 H1 → ax_W base av p l e R s mth args below meth c H1 locs (cells + (h1.2.2.1 - h.2.2.1)) (slots + (h1.2.2.2.1 - h.2.2.2.1)) Q pc1 cls st1) : ax_W base av p l e R s mth args below meth c H locs cells slots Q pc cls st := by
  obtain ⟨hx, hb, hml, hown, hts, hnm, KC⟩ := CX
  simp only [ax_step] at hs
  split at hs
  · rename_i n r
    split at hs
    · cases hs
    · rename_i hn
      split at hs
      · obtain ⟨h2, hm, e1⟩ := Option.map_eq_some_iff.mp hs
        cases e1
        obtain ⟨c1, c3, f3, f4, f5, f6⟩ := ax_mkA_facts hm
        have K := K rfl f5 f6
        rw [f3] at hce K
        rw [f4] at hsl K
        unfold ax_W at K ⊢
        rw [List.map_cons]
        refine va_newaK (atype := .int) hx hb (hts _ ax_arr_in.1 rfl) rfl hd rfl hn rfl (Nat.le_trans (Nat.mul_le_mul_right _ c3) (by decide)) hce hsl rfl fun H1 cAr e1 e2 e3 e4 e5 => ?_
        have ec : cA 20 = cAr := Option.some.inj ((KC.2.1 20 .int rfl).2.symm.trans e5)
        subst ec
        obtain ⟨g1, g2, -⟩ := hR.mkA hm (by decide) e2 e3 e1
        have K := K H1 g1
        rw [List.map_cons, ax_adr_own c1, ← g2] at K
        exact K
      · obtain ⟨h2, hm, e1⟩ := Option.map_eq_some_iff.mp hs
        cases e1
        obtain ⟨c1, c3, f3, f4, f5, f6⟩ := ax_mkA_facts hm
        have K := K rfl f5 f6
        rw [f3] at hce K
        rw [f4] at hsl K
        unfold ax_W at K ⊢
        rw [List.map_cons]
        refine va_newaK (atype := .long) hx hb (hts _ ax_arr_in.2.1 rfl) rfl hd rfl hn rfl (Nat.le_trans (Nat.mul_le_mul_right _ c3) (by decide)) hce hsl rfl fun H1 cAr e1 e2 e3 e4 e5 => ?_
        have ec : cA 21 = cAr := Option.some.inj ((KC.2.1 21 .long rfl).2.symm.trans e5)
        subst ec
        obtain ⟨g1, g2, -⟩ := hR.mkA hm (by decide) e2 e3 e1
        have K := K H1 g1
        rw [List.map_cons, ax_adr_own c1, ← g2] at K
        exact K
      · cases hs
  · cases hs
theorem ax_anew_ok : (ax_newT.all fun q => (ax_aty (30 + q.2)).isNone || decide (q.2 = 17) || decide (ax_nm q.2 ∈ ax_aoL)) = true := by decide +kernel
theorem ax_sty_30 : ∀ i, i < 104 → 30 ≤ (ax_styL.getD i (99, 0)).1 → (ax_aty (ax_styL.getD i (99, 0)).1).isSome = true := by decide +kernel
theorem ax_s_anewarray {k : Nat} (hs : ax_step ph m (.anewarray k) pc ls st h = some (pc1, ls1, st1, h1)) (hd : decode (ax_code m) pc = .ok (.anewarray k, 3)) (CX : ax_Cx base av D cA Hs Ls xs p s mth args meth c m) (hR : ax_Rep base av D cA Hs Ls xs ph h H) (hce : cells + (h1.2.2.1 - h.2.2.1) ≤ R.cells) (hsl : slots + (h1.2.2.2.1 - h.2.2.2.1) ≤ R.slots)
    (K : ls1 = ls → h.2.2.1 ≤ h1.2.2.1 → h.2.2.2.1 ≤ h1.2.2.2.1 → ∀ H1, ax_Rep base av D cA Hs Ls xs ph h1 H1 → ax_W base av p l e R s mth args below meth c H1 locs (cells + (h1.2.2.1 - h.2.2.1)) (slots + (h1.2.2.2.1 - h.2.2.2.1)) Q pc1 cls st1) : ax_W base av p l e R s mth args below meth c H locs cells slots Q pc cls st := by
  obtain ⟨hx, hb, hml, hown, hts, hnm, KC⟩ := CX
  simp only [ax_step] at hs
  split at hs
  · rename_i n r
    split at hs
    · cases hs
    · rename_i hn
      split at hs
      · rename_i k1 hq
        obtain ⟨h2, hm, e1⟩ := Option.map_eq_some_iff.mp hs
        cases e1
        obtain ⟨c1, c3, f3, f4, f5, f6⟩ := ax_mkA_facts hm
        have K := K rfl f5 f6
        rw [f3] at hce K
        rw [f4] at hsl K
        by_cases h17 : k1 = 17
        · subst h17
          rw [if_pos rfl] at hm
          have hlk : (Cond.classLink (ax_nm (ax_own m)) k (FieldType.array .int).toString).before args s = true := by
            obtain ⟨g1, g2⟩ := ax_new17 hq
            rw [g1, g2]
            exact hts _ ax_arr_in.2.2.2.2.2.2.2.2.2 rfl
          unfold ax_W at K ⊢
          rw [List.map_cons]
          refine W.anewA (t := .int) hx hb hown hlk KC.2.2.2.1.2.1 rfl hd rfl hn (Nat.le_trans (Nat.mul_le_mul_right _ c3) (by decide)) hce hsl fun cAr kA comp g1 g2 g3 g4 => ?_
          have ec : cA 24 = cAr := Option.some.inj ((KC.2.1 24 (.array .int) rfl).2.symm.trans g1)
          subst ec
          obtain ⟨g5, g6, -⟩ := hR.mkA (H1 := H.push { cls := cA 24, slots := Array.replicate n.toNatClampNeg .null, vm := .none }) hm (by decide) (by rw [Array.size_push]) (fun q hq => by rw [Array.getElem?_push, if_neg (Nat.ne_of_lt hq)]) (by rw [Array.getElem?_push_size, ← arrV_new, ax_ev_ref (Or.inl rfl)]; rfl)
          have K := K _ g5
          rw [List.map_cons, ax_adr_own c1, ← g6] at K
          exact K
        rw [if_neg h17] at hm
        have hsty : ∃ ty, ax_aty (30 + k1) = some ty := by
          unfold ax_mkA at hm
          split at hm
          · rename_i hc
            by_cases q : h.2.2.1 < 168
            · have hc3 := hc.2.2.1 q
              have := ax_sty_30 (h.2.2.1 - 64) (by omega) (by rw [hc3]; exact Nat.le_add_right _ _)
              rw [hc3] at this
              exact Option.isSome_iff_exists.mp this
            · have hc3 := hc.2.2.2 q
              omega
          · cases hm
        obtain ⟨ty, hty⟩ := hsty
        obtain ⟨e9, -⟩ := ax_aty_obj (Nat.le_add_right _ _) hty
        rw [Nat.add_sub_cancel_left] at e9
        subst e9
        have hover : va_AO (ax_nm k1) s := by
          refine KC.2.2.2.1.1 _ ?_
          have h5 := List.all_eq_true.mp ax_anew_ok _ (ax_lookup_mem hq)
          rw [hty] at h5
          simpa [h17] using h5
        unfold ax_W at K ⊢
        rw [List.map_cons]
        refine W.anew hx hb hown (hts _ (ax_new_in hq) rfl) (va_AO.use hover) rfl hd rfl hn (Nat.le_trans (Nat.mul_le_mul_right _ c3) (by decide)) hce hsl fun cAr kA comp g1 g2 g3 g4 => ?_
        obtain ⟨-, kA', comp', k1', k2', k3', k4'⟩ := KC.2.1 _ _ hty
        have ec : cA (30 + k1) = cAr := Option.some.inj (k4'.symm.trans g1)
        subst ec
        obtain ⟨g5, g6, -⟩ := hR.mkA (H1 := H.push { cls := cA (30 + k1), slots := Array.replicate n.toNatClampNeg .null, vm := .none }) hm (by omega) (by rw [Array.size_push]) (fun q hq => by rw [Array.getElem?_push, if_neg (Nat.ne_of_lt hq)]) (by rw [Array.getElem?_push_size, ← arrV_new, ax_ev_ref (Or.inr (Nat.le_add_right _ _))]; rfl)
        have K := K _ g5
        rw [List.map_cons, ax_adr_own c1, ← g6] at K
        exact K
      · cases hs
  · cases hs
end AxE
