/-! new int[n][w] -/
theorem ax_outer (c : ClassId) (N h0 : Nat) : ∀ i : Nat, Jvm.Free.Multi.outerC c N h0 i = arrV c N (fun j => if j < i then .ref (h0 + 1 + j) else .null)
  | 0 => by
    show ({ cls := c, slots := Array.replicate N .null, vm := .none } : Cell) = _
    rw [arrV_new]
    refine congrArg (arrV c N) (funext fun j => ?_)
    simp
  | i + 1 => by
    show (Jvm.Free.Multi.outerC c N h0 i).setSlot i (.ref (h0 + 1 + i)) = _
    rw [ax_outer c N h0 i, arrV_store]
    refine congrArg (arrV c N) (funext fun j => ?_)
    by_cases e : j = i
    · subst e
      simp [updV]
    · by_cases h : j < i
      · simp [updV, e, h, Nat.lt_succ_of_lt h]
      · simp [updV, e, h, show ¬ j < i + 1 by omega]
theorem ax_arrV_cong {c : ClassId} {n : Nat} {f g : Nat → Value} (h : ∀ j, j < n → f j = g j) : arrV c n f = arrV c n g := by
  unfold arrV
  congr 1
  apply Array.ext
  · simp
  · intro i h1 h2
    simp only [Array.getElem_ofFn]
    exact h i (by simpa using h1)
section AxF
variable {base : Nat} {av : Nat → Value} {D : va_G} {cA : Nat → ClassId} {Hs : Heap} {Ls : Nat} {xs : Nat → Int32} {ph : Bool}
variable {p : Program} {l : Launch} {e : Env} {R : Room} {s : State} {mth : MethodId} {args : Array Value} {below : List Frame} {meth : Method} {c : Code} {H : Heap} {locs : List Loc} {cells slots : Nat} {Q : State → Prop} {m pc : Nat} {cls : Array Slot} {ls st ls1 st1 : List Value} {h h1 : AH} {pc1 : Nat}
theorem ax_Rep.mkM {H1 : Heap} (hR : ax_Rep base av D cA Hs Ls xs ph h H) {n w : Nat} (hm : ax_mkM h n w = some h1) (z : H1.size = H.size + 1 + n) (oq : ∀ q, q < H.size → H1[q]? = H[q]?) (he : H1[H.size]? = some (arrV (cA 24) n (fun j => if j < n then .ref (H.size + 1 + j) else .null))) (hi : ∀ j, j < n → H1[H.size + 1 + j]? = some (arrV (cA 20) w (fun _ => .int 0))) : ax_Rep base av D cA Hs Ls xs ph h1 H1 := by
  unfold ax_mkM at hm
  split at hm
  · rename_i hc
    cases hm
    obtain ⟨c1, c2, c3, c4, c5, c6⟩ := hc
    have c6 : ∀ i, i < n → ax_styL.getD (h.2.2.1 + 1 + i - 64) (99, 0) = (20, w) := by
      intro i hi
      have := List.all_eq_true.mp c6 i (List.mem_range.mpr hi)
      simpa using this
    obtain ⟨h1, h2, h3, h4, h5, h6, h7, h8, h9, h10⟩ := hR
    have hb : base ≤ H.size := by omega
    have hHs : H.size = base + (h.2.2.1 - 64) := by omega
    refine ⟨h1, by show 64 ≤ h.2.2.1 + 1 + n; omega, by show H1.size + 64 = base + (h.2.2.1 + 1 + n); omega, fun q hq => by rw [oq q (by omega)]; exact h4 q hq, fun k hk hkn => ?_, fun k hk hkn => ?_, fun i => ?_, h8, fun hp => by have := h9 hp; omega, fun hp b i q hb hq => by have := h9 hp; omega⟩
    · have hkn : k < h.2.2.1 + 1 + n := hkn
      by_cases e0 : k = h.2.2.1
      · subst e0
        refine ⟨fun q => ?_, fun _ => ?_⟩
        · rw [ax_ty_own hk, if_pos (by omega), c5] at q
          exact absurd q (by decide : ¬ 24 < 12)
        · rw [ax_ty_own hk, if_pos (by omega), c5, ← hHs, he]
          congr 1
          refine ax_arrV_cong fun j hj => ?_
          rw [if_pos hj]
          show _ = ax_cv base av (ax_ev 24 (if h.2.2.1 = h.2.2.1 then .ref (h.2.2.1 + 1 + j) else _))
          rw [if_pos rfl]
          show _ = ax_cv base av (.ref (h.2.2.1 + 1 + j))
          rw [ax_adr_own (Nat.le_trans c1 (Nat.le_trans (Nat.le_succ _) (Nat.le_add_right _ _)))]
          congr 1
          rw [hHs]
          generalize h.2.2.1 = z at c1 ⊢
          show (base + (z - 64) + 1 + j : Nat) = base + (z + 1 + j - 64)
          omega
      · by_cases e1 : h.2.2.1 < k
        · obtain ⟨i, hi', rfl⟩ : ∃ i, i < n ∧ k = h.2.2.1 + 1 + i := ⟨k - h.2.2.1 - 1, by omega, by omega⟩
          refine ⟨fun q => ?_, fun _ => ?_⟩
          · rw [ax_ty_own hk, if_pos (by omega), c6 i hi'] at q
            exact absurd q (by show ¬ 20 < 12; decide)
          · rw [ax_ty_own hk, if_pos (by omega), c6 i hi']
            have ea : base + (h.2.2.1 + 1 + i - 64) = H.size + 1 + i := by omega
            rw [ea, hi i hi']
            congr 1
            refine ax_arrV_cong fun j hj => ?_
            show _ = ax_cv base av (ax_ev 20 (if h.2.2.1 + 1 + i = h.2.2.1 then _ else if h.2.2.1 < h.2.2.1 + 1 + i ∧ h.2.2.1 + 1 + i < h.2.2.1 + 1 + n then .int 0 else _))
            rw [if_neg (by omega), if_pos (by omega)]
            rfl
        · have hlt : k < h.2.2.1 := by omega
          obtain ⟨g1, g2⟩ := h5 k hk hlt
          have e2 : H1[base + (k - 64)]? = H[base + (k - 64)]? := oq _ (by omega)
          refine ⟨fun hc => ?_, fun hc => ?_⟩
          · refine (g1 hc).kept e2 |>.to fun j hj => ?_
            show ax_cv base av (ax_tv _ (h.1 k j)) = ax_cv base av (ax_tv _ (if k = h.2.2.1 then _ else if h.2.2.1 < k ∧ k < h.2.2.1 + 1 + n then _ else h.1 k j))
            rw [if_neg e0, if_neg (by omega)]
            rfl
          · rw [e2]
            refine (g2 hc).trans ?_
            show some (arrV (cA (ax_ty h k).1) (ax_ty h k).2 _) = some (arrV (cA (ax_ty h k).1) (ax_ty h k).2 _)
            congr 1
            refine ax_arrV_cong fun j hj => ?_
            show _ = ax_cv base av (ax_ev _ (if k = h.2.2.1 then _ else if h.2.2.1 < k ∧ k < h.2.2.1 + 1 + n then _ else h.1 k j))
            rw [if_neg e0, if_neg (by omega)]
            rfl
    · have hkn : k < h.2.2.1 + 1 + n := hkn
      omega
    · show (if 48 = h.2.2.1 then _ else if h.2.2.1 < 48 ∧ _ then _ else h.1 48 i) = _
      rw [if_neg (by omega), if_neg (by omega)]
      exact h7 i
  · cases hm
theorem ax_s_multi {k d : Nat} (hs : ax_step ph m (.multianewarray k d) pc ls st h = some (pc1, ls1, st1, h1)) (hd : decode (ax_code m) pc = .ok (.multianewarray k d, 4)) (CX : ax_Cx base av D cA Hs Ls xs p s mth args meth c m) (hR : ax_Rep base av D cA Hs Ls xs ph h H) (hce : cells + (h1.2.2.1 - h.2.2.1) ≤ R.cells) (hsl : slots + (h1.2.2.2.1 - h.2.2.2.1) ≤ R.slots)
    (K : ls1 = ls → h.2.2.1 ≤ h1.2.2.1 → h.2.2.2.1 ≤ h1.2.2.2.1 → ∀ H1, ax_Rep base av D cA Hs Ls xs ph h1 H1 → ax_W base av p l e R s mth args below meth c H1 locs (cells + (h1.2.2.1 - h.2.2.1)) (slots + (h1.2.2.2.1 - h.2.2.2.1)) Q pc1 cls st1) : ax_W base av p l e R s mth args below meth c H locs cells slots Q pc cls st := by
  obtain ⟨hx, hb, hml, hown, hts, hnm, KC⟩ := CX
  simp only [ax_step] at hs
  split at hs
  · rename_i w n r
    split at hs
    · cases hs
    · rename_i hc0
      have hn : ¬ n < 0 := fun q => hc0 (Or.inl q)
      have hw : ¬ w < 0 := fun q => hc0 (Or.inr (Or.inl q))
      have hd2 : d = 2 := Classical.byContradiction fun q => hc0 (Or.inr (Or.inr (Or.inl q)))
      have hmn : ax_mna (ax_own m) k = true := by
        cases hq : ax_mna (ax_own m) k with
        | true => rfl
        | false => exact absurd (Or.inr (Or.inr (Or.inr hq))) hc0
      subst hd2
      obtain ⟨h2, hm, e1⟩ := Option.map_eq_some_iff.mp hs
      cases e1
      have hlk := ax_mna_in hmn
      have hm0 := hm
      unfold ax_mkM at hm0
      split at hm0
      · rename_i hc
        obtain ⟨c1, c2, c3, c4, c5, c6⟩ := hc
        have hh : h1.2.2.1 = h.2.2.1 + 1 + n.toNatClampNeg ∧ h1.2.2.2.1 = h.2.2.2.1 + n.toNatClampNeg + n.toNatClampNeg * w.toNatClampNeg := by
          have := Option.some.inj hm0
          rw [← this]
          exact ⟨rfl, rfl⟩
        have K := K rfl (by rw [hh.1]; omega) (by rw [hh.2]; omega)
        have z1 : h1.2.2.1 - h.2.2.1 = 1 + n.toNatClampNeg := by rw [hh.1]; omega
        have z2 : h1.2.2.2.1 - h.2.2.2.1 = n.toNatClampNeg + n.toNatClampNeg * w.toNatClampNeg := by rw [hh.2]; omega
        rw [z1] at hce K
        rw [z2] at hsl K
        unfold ax_W at K ⊢
        rw [List.map_cons, List.map_cons]
        intro T hT Xs
        obtain ⟨vm₁, cB, comp, -, fA, fC, hO, -, X', step⟩ := Xs.multianewarray2F (ty := .int) hx hown (hts _ hlk rfl) KC.2.2.2.1.2.1 (hts _ ax_arr_in.1 rfl) (g := F0 mth pc cls (.int w :: .int n :: r.map (ax_cv base av))) rfl (by rw [hb]; exact hd) rfl hn hw (Nat.le_trans (Nat.mul_le_mul_right _ c3) (by decide)) (Nat.le_trans (Nat.mul_le_mul_right _ c4) (by decide)) (Nat.le_trans c4 (by decide)) rfl rfl hce hsl
        have ec : cA 24 = cB := Option.some.inj ((KC.2.1 24 (.array .int) rfl).2.symm.trans fA)
        have ec2 : cA 20 = comp := Option.some.inj ((KC.2.1 20 .int rfl).2.symm.trans fC)
        subst ec; subst ec2
        generalize hF : Jvm.Free.Multi.fill (T.setVm vm₁) (cA 24) (cA 20) n.toNatClampNeg w.toNatClampNeg (defaultValue .int) n.toNatClampNeg = F at X' step
        have hTh : (T.setVm vm₁).heap = H := hT
        obtain ⟨f1, f2, -, -⟩ := Jvm.Free.Multi.fill_facts (T.setVm vm₁) (cA 24) (cA 20) n.toNatClampNeg w.toNatClampNeg (defaultValue .int) n.toNatClampNeg
        rw [hF, hTh] at f1 f2
        have hold : ∀ x : Nat, x < H.size → F.heap[x]? = H[x]? := fun x hx => by
          have := Jvm.Free.Multi.fill_old (T.setVm vm₁) (cA 24) (cA 20) n.toNatClampNeg w.toNatClampNeg (defaultValue .int) (a := x) (by rw [hTh]; exact hx) n.toNatClampNeg
          rw [hF, hTh] at this
          exact this
        have hrow : ∀ j : Nat, j < n.toNatClampNeg → F.heap[H.size + 1 + j]? = some (arrV (cA 20) w.toNatClampNeg (fun _ => .int 0)) := fun j hj => by
          have := Jvm.Free.Multi.fill_inner (T.setVm vm₁) (cA 24) (cA 20) n.toNatClampNeg w.toNatClampNeg (defaultValue .int) n.toNatClampNeg j hj
          rw [hF, hTh] at this
          rw [this]
          show some ({ cls := cA 20, slots := Array.replicate w.toNatClampNeg (.int 0), vm := .none } : Cell) = _
          rw [arrV_new]
        rw [ax_outer] at f2
        have hR1 := hR.mkM hm f1 hold f2 hrow
        have K := K F.heap hR1 F rfl (by rw [← Nat.add_assoc, ← Nat.add_assoc]; exact X')
        obtain ⟨t, a1, b1⟩ := K
        refine ⟨t, step t ?_, b1⟩
        rw [hT]
        have e8 : H.size = base + (h.2.2.1 - 64) := by have := hR.2.2.1; omega
        rw [e8, ← ax_adr_own (av := av) c1]
        exact a1
      · cases hm0
  · cases hs
end AxF
