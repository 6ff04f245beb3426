/-! THE HEAP: what is read, written and made in the small machine is so in the real one -/
theorem ax_sty_no : ∀ i, i < 104 → (ax_styL.getD i (99, 0)).1 ≠ 12 ∧ (ax_styL.getD i (99, 0)).1 ≠ 13 := by decide +kernel
theorem ax_sty_arr : ∀ i, i < 104 → (ax_styL.getD i (99, 0)).1 = 99 → False := by decide +kernel
theorem ax_sty_nf : ∀ i, i < 104 → (ax_styL.getD i (99, 0)).1 < 12 ∨ ((ax_styL.getD i (99, 0)).1 = 20 ∨ (ax_styL.getD i (99, 0)).1 = 21 ∨ (ax_styL.getD i (99, 0)).1 = 24 ∨ (ax_styL.getD i (99, 0)).1 = 30 ∨ (ax_styL.getD i (99, 0)).1 = 35 ∨ (ax_styL.getD i (99, 0)).1 = 36 ∨ (ax_styL.getD i (99, 0)).1 = 39) := by decide +kernel
theorem ax_sty_len : ∀ i, i < 104 → (ax_styL.getD i (99, 0)).2 < 20000 := by decide +kernel
theorem ax_ty_own {h : AH} {a : Nat} (ha : 64 ≤ a) : ax_ty h a = if a < 168 then ax_styL.getD (a - 64) (99, 0) else ax_dty (h.2.1 a) := by
  unfold ax_ty
  rw [if_neg (by omega), if_neg (by omega), if_neg (by omega)]
theorem ax_ty_con {h : AH} {a : Nat} (ha : a < 64) : ax_ty h a = ax_cty h.2.2.2.2 a := by
  unfold ax_ty ax_cty
  by_cases h1 : a < 48
  · rw [if_pos h1, if_neg (by omega)]
  · rw [if_neg h1]
    by_cases h2 : a = 48
    · rw [if_pos h2, if_pos h2]
    · rw [if_neg h2, if_pos ha, if_neg h2]
      rw [List.getD_eq_getElem?_getD, List.getElem?_eq_none (by show ax_ctyL.length ≤ a; have : ax_ctyL.length = 9 := rfl; omega)]
      rfl
theorem ax_con_lt {Ls a : Nat} (h : (ax_cty Ls a).1 ≠ 99) : a < 49 := by
  rcases Nat.lt_or_ge a 49 with q | q
  · exact q
  · refine absurd ?_ h
    unfold ax_cty
    rw [if_neg (by omega), List.getD_eq_getElem?_getD, List.getElem?_eq_none (by show ax_ctyL.length ≤ a; have : ax_ctyL.length = 9 := rfl; omega)]
    rfl
section AxB
variable {base : Nat} {av : Nat → Value} {D : va_G} {cA : Nat → ClassId} {Hs : Heap} {Ls : Nat} {xs : Nat → Int32} {ph : Bool}
theorem ax_Rep.ok {h : AH} {H : Heap} (hR : ax_Rep base av D cA Hs Ls xs ph h H) {a : Nat} (hk : ax_ok ph h a = true) (ha : ¬ a < 64) : a < h.2.2.1 := by
  obtain ⟨-, -, -, -, -, -, -, -, h9, -⟩ := hR
  unfold ax_ok at hk
  simp only [Bool.or_eq_true, decide_eq_true_eq, Bool.and_eq_true] at hk
  rcases hk with (q | ⟨q1, q2⟩) | q
  · exact absurd q ha
  · exact Nat.lt_of_lt_of_le q2 (h9 q1)
  · exact q
theorem ax_Rep.own {h : AH} {H : Heap} (hR : ax_Rep base av D cA Hs Ls xs ph h H) {a : Nat} (ha : 64 ≤ a) (hn : a < h.2.2.1) : (ax_ty h a).1 < 12 ∨ (∃ ty, ax_aty (ax_ty h a).1 = some ty ∧ 20 ≤ (ax_ty h a).1 ∧ (ax_ty h a).2 < 20000 ∧ ((ax_ty h a).1 = 20 ∨ (ax_ty h a).1 = 21 ∨ (ax_ty h a).1 = 24 ∨ 30 ≤ (ax_ty h a).1)) := by
  obtain ⟨-, -, -, -, -, h6, -⟩ := hR
  rw [ax_ty_own ha]
  by_cases h1 : a < 168
  · rw [if_pos h1]
    have hl := ax_sty_len (a - 64) (by omega)
    rcases ax_sty_nf (a - 64) (by omega) with q | q
    · exact Or.inl q
    · refine Or.inr ?_
      generalize hg : ax_styL.getD (a - 64) (99, 0) = t at q hl
      obtain ⟨c, n⟩ := t
      dsimp only at q hl ⊢
      rcases q with rfl | rfl | rfl | rfl | rfl | rfl | rfl <;> exact ⟨_, rfl, by decide, hl, by decide⟩
  · rw [if_neg h1]
    unfold ax_dty
    rcases h6 a (by omega) hn with q | ⟨q1, q2⟩
    · rw [if_pos (by omega)]
      exact Or.inl q
    · rw [if_neg (by omega)]
      refine Or.inr ?_
      split
      · exact ⟨_, rfl, by show 20 ≤ 20; decide, by show (h.2.1 a - 100) / 2 < 20000; omega, Or.inl rfl⟩
      · exact ⟨_, rfl, by show 20 ≤ 24; decide, by show (h.2.1 a - 101) / 2 < 20000; omega, Or.inr (Or.inr (Or.inl rfl))⟩
theorem ax_Rep.rd {h : AH} {H : Heap} (hR : ax_Rep base av D cA Hs Ls xs ph h H) {a : Nat} (ha : 64 ≤ a) (j : Nat) : ax_rd ph h a j = h.1 a j := by
  obtain ⟨-, -, -, -, -, -, -, -, -, h10⟩ := hR
  unfold ax_rd
  rw [if_neg (by omega)]
  by_cases hp : ph = true
  · subst hp
    rw [if_pos (by simp [ha])]
    split
    · rename_i q hq
      exact (h10 rfl a j q ha hq).symm
    · rfl
  · rw [if_neg (by simp [hp])]
/-- constants are read -/
theorem ax_rd_con {h : AH} {H : Heap} (hR : ax_Rep base av D cA Hs Ls xs ph h H) {a : Nat} (ha : a < 49) (j : Nat) : ax_rd ph h a j = ax_cc xs a j := by
  obtain ⟨-, -, -, -, -, -, h7, -⟩ := hR
  unfold ax_rd ax_cc
  by_cases h1 : a < 48
  · rw [if_pos h1, if_neg (by omega)]
  · have h2 : a = 48 := by omega
    subst h2
    rw [if_neg h1, if_pos rfl]
    have e : (ph && decide (64 ≤ 48)) = false := by cases ph <;> rfl
    rw [if_neg (by rw [e]; decide)]
    exact h7 j
theorem ax_adr_own {a : Nat} (ha : 64 ≤ a) : ax_cv base av (.ref a) = .ref (base + (a - 64)) := if_neg (by omega)
/-- behind a write -/
theorem ax_Rep.wr {h : AH} {H H1 : Heap} (hR : ax_Rep base av D cA Hs Ls xs ph h H) {a j : Nat} {v : Value} (ha : 64 ≤ a) (hn : a < h.2.2.1) (hw : ax_wok ph a j = true) (z : H1.size = H.size) (oq : ∀ q, q ≠ base + (a - 64) → H1[q]? = H[q]?) (hat : ax_at base av D cA (ax_wr h a j v) a H1) : ax_Rep base av D cA Hs Ls xs ph (ax_wr h a j v) H1 := by
  obtain ⟨h1, h2, h3, h4, h5, h6, h7, h8, h9, h10⟩ := hR
  refine ⟨h1, h2, by rw [z]; exact h3, fun q hq => by rw [oq q (by omega)]; exact h4 q hq, fun k hk hkn => ?_, h6, fun i => ?_, h8, h9, fun hp b i q hb hq => ?_⟩
  · by_cases e : k = a
    · subst e; exact hat
    · have e1 : (ax_wr h a j v).1 k = h.1 k := by
        funext i
        show (if k = a ∧ i = j then v else h.1 k i) = h.1 k i
        rw [if_neg (fun q => e q.1)]
      have e2 : H1[base + (k - 64)]? = H[base + (k - 64)]? := oq _ (by omega)
      obtain ⟨g1, g2⟩ := h5 k hk hkn
      refine ⟨fun hc => ?_, fun hc => ?_⟩
      · rw [e1]
        exact (g1 hc).kept e2
      · rw [e1, e2]
        exact g2 hc
  · show (if 48 = a ∧ i = j then v else h.1 48 i) = _
    rw [if_neg (fun q => by omega)]
    exact h7 i
  · show (if b = a ∧ i = j then v else h.1 b i) = _
    by_cases e : b = a ∧ i = j
    · obtain ⟨rfl, rfl⟩ := e
      unfold ax_wok at hw
      simp [hp] at hw
      simp [List.getD_eq_getElem?_getD] at hq
      rw [hw.2] at hq
      cases hq
    · rw [if_neg e]
      exact h10 hp b i q hb hq
/-- behind a making -/
theorem ax_Rep.mk {h : AH} {H H1 : Heap} (hR : ax_Rep base av D cA Hs Ls xs ph h H) {c len : Nat} {f : Nat → Value} (z : H1.size = H.size + 1) (oq : ∀ q, q < H.size → H1[q]? = H[q]?) (hdyn : 168 ≤ h.2.2.1 → ax_dok c) (hat : ax_at base av D cA (ax_mk h c len f) h.2.2.1 H1) : ax_Rep base av D cA Hs Ls xs ph (ax_mk h c len f) H1 := by
  obtain ⟨h1, h2, h3, h4, h5, h6, h7, h8, h9, h10⟩ := hR
  have hb : base ≤ H.size := by omega
  refine ⟨h1, by show 64 ≤ h.2.2.1 + 1; omega, by show H1.size + 64 = base + (h.2.2.1 + 1); omega, fun q hq => by rw [oq q (by omega)]; exact h4 q hq, fun k hk hkn => ?_, fun k hk hkn => ?_, fun i => ?_, h8, fun hp => Nat.le_succ_of_le (h9 hp), fun hp b i q hb hq => ?_⟩
  · have hkn : k < h.2.2.1 + 1 := hkn
    by_cases e : k = h.2.2.1
    · subst e; exact hat
    · have e1 : (ax_mk h c len f).1 k = h.1 k := by
        funext i
        show (if k = h.2.2.1 then f i else h.1 k i) = h.1 k i
        rw [if_neg e]
      have e2 : H1[base + (k - 64)]? = H[base + (k - 64)]? := oq _ (by omega)
      have e3 : ax_ty (ax_mk h c len f) k = ax_ty h k := by
        rw [ax_ty_own hk, ax_ty_own hk]
        by_cases q : k < 168
        · rw [if_pos q, if_pos q]
        · rw [if_neg q, if_neg q]
          show ax_dty (if k = h.2.2.1 then c else h.2.1 k) = _
          rw [if_neg e]
      obtain ⟨g1, g2⟩ := h5 k hk (by omega)
      unfold ax_at
      rw [e3, e1]
      exact ⟨fun hc => (g1 hc).kept e2, fun hc => by rw [e2]; exact g2 hc⟩
  · have hkn : k < h.2.2.1 + 1 := hkn
    show ax_dok (if k = h.2.2.1 then c else h.2.1 k)
    by_cases e : k = h.2.2.1
    · rw [if_pos e]; exact hdyn (by omega)
    · rw [if_neg e]; exact h6 k hk (by omega)
  · show (if 48 = h.2.2.1 then f i else h.1 48 i) = _
    rw [if_neg (by omega)]
    exact h7 i
  · show (if b = h.2.2.1 then f i else h.1 b i) = _
    by_cases e : b = h.2.2.1
    · subst e
      have h11 := h9 hp
      have hlen : ax_cfL.length = 104 := rfl
      have e0 : ax_cfL.getD (h.2.2.1 - 64) [] = [] := by
        rw [List.getD_eq_getElem?_getD, List.getElem?_eq_none (by omega)]
        rfl
      rw [e0] at hq
      cases hq
    · rw [if_neg e]
      exact h10 hp b i q hb hq
/-- an array's cell -/
theorem ax_Rep.arr {h : AH} {H : Heap} (hR : ax_Rep base av D cA Hs Ls xs ph h H) {a : Nat} (ha : 64 ≤ a) (hn : a < h.2.2.1) (hc : 20 ≤ (ax_ty h a).1) : H[base + (a - 64)]? = some (arrV (cA (ax_ty h a).1) (ax_ty h a).2 (fun j => ax_cv base av (ax_ev (ax_ty h a).1 (h.1 a j)))) := by
  obtain ⟨-, -, -, -, h5, -⟩ := hR
  exact (h5 a ha hn).2 hc
theorem ax_in_inv {i : Int32} {n : Nat} (h : ax_in i n = true) : ¬ (i < 0 ∨ n ≤ i.toNatClampNeg) := by
  unfold ax_in at h
  simp only [Bool.not_eq_true', Bool.or_eq_false_iff, decide_eq_false_iff_not] at h
  rintro (q | q)
  · exact h.1 q
  · exact h.2 q
/-- a store into an array's cell -/
theorem ax_at_arr {h : AH} {H1 : Heap} {a j : Nat} {v w : Value} (hc : 20 ≤ (ax_ty h a).1) (hw : ax_cv base av (ax_ev (ax_ty h a).1 v) = w) (e : H1[base + (a - 64)]? = some ((arrV (cA (ax_ty h a).1) (ax_ty h a).2 (fun j => ax_cv base av (ax_ev (ax_ty h a).1 (h.1 a j)))).setSlot j w)) : ax_at base av D cA (ax_wr h a j v) a H1 := by
  have et : ax_ty (ax_wr h a j v) a = ax_ty h a := rfl
  refine ⟨fun q => ?_, fun _ => ?_⟩
  · rw [et] at q; omega
  · rw [et, e, arrV_store]
    congr 2
    funext i
    show updV _ j w i = ax_cv base av (ax_ev _ (if a = a ∧ i = j then v else h.1 a i))
    by_cases q : i = j
    · subst q
      rw [if_pos ⟨rfl, rfl⟩, hw]
      simp [updV]
    · rw [if_neg (fun z => q z.2)]
      simp [updV, q]
end AxB
