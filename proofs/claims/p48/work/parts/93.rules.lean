/-! THE LAW: a game is made by cells, its rules; and all together -/
section S93
variable {c n np nr : Nat} {K P B T C : Nat → Nat} {U : Nat → Nat → Nat} {V W : Nat → Int} {h h1 h' : AH}
theorem row7 {hA : AH} {a : Nat} (y : yA hA a 7) (v1 v2 v3 v4 v5 v6 : Int32) : gI (ax_wr (ax_wr (ax_wr (ax_wr (ax_wr (ax_wr hA a 1 (.int v1)) a 2 (.int v2)) a 3 (.int v3)) a 4 (.int v4)) a 5 (.int v5)) a 6 (.int v6)) a 0 = hI hA a 0 ∧ gI (ax_wr (ax_wr (ax_wr (ax_wr (ax_wr (ax_wr hA a 1 (.int v1)) a 2 (.int v2)) a 3 (.int v3)) a 4 (.int v4)) a 5 (.int v5)) a 6 (.int v6)) a 1 = v1 ∧ gI (ax_wr (ax_wr (ax_wr (ax_wr (ax_wr (ax_wr hA a 1 (.int v1)) a 2 (.int v2)) a 3 (.int v3)) a 4 (.int v4)) a 5 (.int v5)) a 6 (.int v6)) a 2 = v2 ∧ gI (ax_wr (ax_wr (ax_wr (ax_wr (ax_wr (ax_wr hA a 1 (.int v1)) a 2 (.int v2)) a 3 (.int v3)) a 4 (.int v4)) a 5 (.int v5)) a 6 (.int v6)) a 3 = v3 ∧ gI (ax_wr (ax_wr (ax_wr (ax_wr (ax_wr (ax_wr hA a 1 (.int v1)) a 2 (.int v2)) a 3 (.int v3)) a 4 (.int v4)) a 5 (.int v5)) a 6 (.int v6)) a 4 = v4 ∧ gI (ax_wr (ax_wr (ax_wr (ax_wr (ax_wr (ax_wr hA a 1 (.int v1)) a 2 (.int v2)) a 3 (.int v3)) a 4 (.int v4)) a 5 (.int v5)) a 6 (.int v6)) a 5 = v5 ∧ gI (ax_wr (ax_wr (ax_wr (ax_wr (ax_wr (ax_wr hA a 1 (.int v1)) a 2 (.int v2)) a 3 (.int v3)) a 4 (.int v4)) a 5 (.int v5)) a 6 (.int v6)) a 6 = v6 := by
  have g : ∀ hh j, gI hh a j = hI hh a j := fun hh j => gI_dyn y.1 j
  simp only [g]
  refine ⟨?_, ?_, ?_, ?_, ?_, ?_, ?_⟩
  · rw [wr_Ij (by decide), wr_Ij (by decide), wr_Ij (by decide), wr_Ij (by decide), wr_Ij (by decide), wr_Ij (by decide)]
  · rw [wr_Ij (by decide), wr_Ij (by decide), wr_Ij (by decide), wr_Ij (by decide), wr_Ij (by decide), wr_I]
  · rw [wr_Ij (by decide), wr_Ij (by decide), wr_Ij (by decide), wr_Ij (by decide), wr_I]
  · rw [wr_Ij (by decide), wr_Ij (by decide), wr_Ij (by decide), wr_I]
  · rw [wr_Ij (by decide), wr_Ij (by decide), wr_I]
  · rw [wr_Ij (by decide), wr_I]
  · rw [wr_I]
theorem max1n {m : Nat} (hm : m < 2 ^ 31) : (if nI 1 < nI m then nI m else nI 1) = nI (if 1 < m then m else 1) := by
  by_cases q : 1 < m
  · rw [if_pos (nI_lt q hm), if_pos q]
  · rw [if_neg (nI_nlt (by omega) (by decide)), if_neg q]
theorem lm_396 {hA : AH} {R r v x w q a : Nat} (y : yA hA a 7) (nn : hI hA 153 1 = nI n) (n6 : n ≤ 6) (hv : v < 2 ^ 31) (hx : x < 2 ^ 31) (hw : w < 3) (q1 : 1 ≤ q) (q8 : q ≤ 8) (y0 : hI hA a 0 = nI (v % 5)) : ∃ x2 y2 w2 z2 e2, x2 ≤ 7 ∧ y2 ≤ 7 ∧ w2 < 3 ∧ w2 ≠ w ∧ z2 < 199 ∧ e2 ≤ 4 ∧ ∀ RR, XX true 7 84 491 [.ref 64, .ref 48, ax_junk, .ref 153, ax_junk, .int (nI R), .int (nI r), ax_junk, ax_junk, ax_junk, rf (a)] [.int (nI z2 - nI 99), .int (nI e2), .int (nI w2), .int (nI w), .int (nI y2), .int (nI x2), .int (nI (v % 5)), .ref 64] (ax_wr (ax_wr (ax_wr (ax_wr (ax_wr (ax_wr hA a 1 (.int (nI x2))) a 2 (.int (nI y2))) a 3 (.int (nI w))) a 4 (.int (nI w2))) a 5 (.int (nI e2))) a 6 (.int (nI z2 - nI 99))) (RR) → XX true 7 84 396 [.ref 64, .ref 48, ax_junk, .ref 153, ax_junk, .int (nI R), .int (nI r), .int (nI v), .int (nI x), .int (nI w), ax_junk] [.int (nI q), .int (nI (v / 2 ^ 3)), .int (nI 1), rf (a), rf (a)] (hA) (RR) := by
  have lt : ∀ k, v / 2 ^ k < 2 ^ 31 := fun k => Nat.lt_of_le_of_lt (Nat.div_le_self _ _) hv
  have hx3 : x / 2 ^ 3 < 2 ^ 31 := Nat.lt_of_le_of_lt (Nat.div_le_self _ _) hx
  obtain ⟨d, d2, ed⟩ := nI_and1 (lt 13)
  have m1 := Nat.mod_lt (v / 2 ^ 3) (show 0 < q by omega)
  have M1 : 0 < (if 1 < n then n else 1) := by split <;> omega
  have M6 : (if 1 < n then n else 1) ≤ 6 := by split <;> omega
  have m2 := Nat.mod_lt (v / 2 ^ 6) M1
  have m3 := Nat.mod_lt (w + 1 + d) (show 0 < 3 by decide)
  have m4 := Nat.mod_lt x (show 0 < 5 by decide)
  have m5 := Nat.mod_lt (x / 2 ^ 3) (show 0 < 199 by decide)
  have y168 := y.1
  refine ⟨v / 2 ^ 3 % q, v / 2 ^ 6 % (if 1 < n then n else 1), (w + 1 + d) % 3, x / 2 ^ 3 % 199, x % 5, by omega, by omega, m3, by omega, m5, by omega, fun RR X => ?_⟩
  obtain ⟨r0, r1, r2, r3, r4, r5, r6⟩ := row7 y (nI (v / 2 ^ 3 % q)) (nI (v / 2 ^ 6 % (if 1 < n then n else 1))) (nI w) (nI ((w + 1 + d) % 3)) (nI (x % 5)) (nI (x / 2 ^ 3 % 199) - nI 99)
  have e1 : hI (ax_wr hA a 1 (.int (nI (v / 2 ^ 3 % q)))) 153 1 = nI n := (wr_Ia (by omega)).trans nn
  refine wb_L_made_396 ?_
  rw [nI_rem (lt 3) (by omega), show ix (nI 0) = 0 from rfl, show ix (nI 1) = 1 from rfl, show ix (nI 2) = 2 from rfl, show ix (nI 3) = 3 from rfl, show ix (nI 4) = 4 from rfl, show ix (nI 5) = 5 from rfl, show ix (nI 6) = 6 from rfl, e1, max1n (by omega), nI_shr hv 6 (by decide), nI_rem (lt 6) (by omega), nI_shr hv 13 (by decide), ed, nI_s, nI_add, nI_rem (by omega) (by decide), nI_rem hx (by decide), nI_shr hx 3 (by decide), nI_rem hx3 (by decide), r0, r1, r2, r3, r4, r5, r6, y0]
  exact ⟨nI_nz (by omega) (by omega), 7, y.d, by decide, y.w _, nI_nz M1 (by omega), 7, y.d, by decide, y.w _, 7, y.d, by decide, y.w _, by decide, 7, y.d, by decide, y.w _, by decide, 7, y.d, by decide, y.w _, by decide, 7, y.d, by decide, y.w _, 7, y.d, by decide, 7, y.d, by decide, 7, y.d, by decide, 7, y.d, by decide, 7, y.d, by decide, 7, y.d, by decide, 7, y.d, by decide, wkj X⟩
theorem lm_rule {R r k : Nat} (hL : h.2.2.2.2 < 2 ^ 31) (hR : R ≤ 5) (hr : r < R) (s : mS c n K P B r U V W T C k h h1) : ∃ U2 V2 h2, mS c n K P B (r + 1) U2 V2 W T C (k + 17) h h2 ∧ ∀ RR, XX true 7 84 314 [.ref 64, .ref 48, ax_junk, .ref 153, ax_junk, .int (nI R), .int (nI (r + 1)), ax_junk, ax_junk, ax_junk, ax_junk] [] (h2) (RR) → XX true 7 84 314 [.ref 64, .ref 48, ax_junk, .ref 153, ax_junk, .int (nI R), .int (nI r), ax_junk, ax_junk, ax_junk, ax_junk] [] (h1) (RR) := by
  obtain ⟨f, o, g, z9⟩ := s
  have n6 := o.n6
  have al := o.al
  have hL1 : h1.2.2.2.2 < 2 ^ 31 := by rw [f.2.2.2.1]; exact hL
  obtain ⟨v, hv, xv⟩ := ll_cell (h := h1) hL1 (k := 8 + 2 * r) (by omega)
  obtain ⟨x, hx, xx⟩ := ll_cell (h := h1) hL1 (k := 9 + 2 * r) (by omega)
  have lt : ∀ k, v / 2 ^ k < 2 ^ 31 := fun k => Nat.lt_of_le_of_lt (Nat.div_le_self _ _) hv
  have w3 := Nat.mod_lt (v / 2 ^ 10) (show 0 < 3 by decide)
  obtain ⟨d, d4, ed⟩ := nI_and3 (lt 25)
  -- the row
  let hA := ax_wr (mkI h1 7) h1.2.2.1 0 (.int (nI (v % 5)))
  have y0 : yA (mkI h1 7) h1.2.2.1 7 := yA.new al _
  have y : yA hA h1.2.2.1 7 := y0
  have fA : fy 8 X8 h1 hA := ((fy.rf _ h1).mk.wr (Or.inr (Nat.le_refl _))).mono (fun _ z => z) (by decide)
  have oA : oS c n K P B hA := o.y (((fy.rf (fun _ => False) h1).mk.wr (Or.inr (Nat.le_refl _)))) (fun _ z => z.elim)
  obtain ⟨q, q1, q8, xq⟩ : ∃ q, 1 ≤ q ∧ q ≤ 8 ∧ ∀ RR, XX true 7 84 396 [.ref 64, .ref 48, ax_junk, .ref 153, ax_junk, .int (nI R), .int (nI r), .int (nI v), .int (nI x), .int (nI (v / 2 ^ 10 % 3)), ax_junk] [.int (nI q), .int (nI (v / 2 ^ 3)), .int (nI 1), rf (h1.2.2.1), rf (h1.2.2.1)] (hA) (RR) → XX true 7 84 314 [.ref 64, .ref 48, ax_junk, .ref 153, ax_junk, .int (nI R), .int (nI r), ax_junk, ax_junk, ax_junk, ax_junk] [] (h1) (RR) := by
    have go : ∀ RR (s0 : Int32), s0 = (if nI d = nI 0 then nI 8 else nI (if 1 < n then n else 1)) → XX true 7 84 396 [.ref 64, .ref 48, ax_junk, .ref 153, ax_junk, .int (nI R), .int (nI r), .int (nI v), .int (nI x), .int (nI (v / 2 ^ 10 % 3)), ax_junk] [.int (s0), .int (nI (v / 2 ^ 3)), .int (nI 1), rf (h1.2.2.1), rf (h1.2.2.1)] (hA) (RR) → XX true 7 84 314 [.ref 64, .ref 48, ax_junk, .ref 153, ax_junk, .int (nI R), .int (nI r), ax_junk, ax_junk, ax_junk, ax_junk] [] (h1) (RR) := by
      intro RR s0 hs X
      refine wb_L_made_314 ?_
      rw [if_pos (nI_lt hr (by omega)), nI_mulI, nI_add]
      refine cl_L_made_329 rfl (by decide) (xv) ?_
      refine wb_L_made_332 ?_
      rw [nI_mulI, nI_add]
      refine cl_L_made_342 rfl (by decide) (xx) ?_
      refine wb_L_made_345 ?_
      have e1 : hI (ax_wr (mkI h1 7) h1.2.2.1 0 (.int (nI (v % 5)))) 153 1 = nI n := oA.nn
      rw [show ix (nI 7) = 7 from rfl, show ix (nI 0) = 0 from rfl, nI_rem hv (by decide), nI_shr hv 25 (by decide), ed, nI_shr hv 3 (by decide), nI_shr hv 10 (by decide), nI_rem (lt 10) (by decide), e1, max1n (by omega)]
      refine ⟨by decide, ⟨al, by decide, by decide⟩, by decide, 7, y0.d, by decide, y0.w _, ?_⟩
      by_cases z : nI d = nI 0
      · rw [if_pos z]
        rw [if_pos z] at hs
        rw [hs] at X
        exact X
      · rw [if_neg z]
        rw [if_neg z] at hs
        rw [hs] at X
        exact X
    by_cases z : nI d = nI 0
    · exact ⟨8, by decide, by decide, fun RR X => go RR (nI 8) (by rw [if_pos z]) X⟩
    · exact ⟨if 1 < n then n else 1, by split <;> omega, by split <;> omega, fun RR X => go RR _ (by rw [if_neg z]) X⟩
  obtain ⟨x2, y2, w2, z2, e2, b1, b2, b3, b4, b5, b6, x396⟩ := lm_396 (R := R) (r := r) (n := n) y oA.nn n6 hv hx w3 q1 q8 (wr_I _ _ _ _)
  have fB : fy 8 X8 h1 (ax_wr (ax_wr (ax_wr (ax_wr (ax_wr (ax_wr hA h1.2.2.1 1 (.int (nI x2))) h1.2.2.1 2 (.int (nI y2))) h1.2.2.1 3 (.int (nI (v / 2 ^ 10 % 3)))) h1.2.2.1 4 (.int (nI w2))) h1.2.2.1 5 (.int (nI e2))) h1.2.2.1 6 (.int (nI z2 - nI 99))) := (((((fA.wr (Or.inr (Nat.le_refl _))).wr (Or.inr (Nat.le_refl _))).wr (Or.inr (Nat.le_refl _))).wr (Or.inr (Nat.le_refl _))).wr (Or.inr (Nat.le_refl _))).wr (Or.inr (Nat.le_refl _))
  have fN : fy 8 (fun _ => False) h1 (ax_wr (ax_wr (ax_wr (ax_wr (ax_wr (ax_wr hA h1.2.2.1 1 (.int (nI x2))) h1.2.2.1 2 (.int (nI y2))) h1.2.2.1 3 (.int (nI (v / 2 ^ 10 % 3)))) h1.2.2.1 4 (.int (nI w2))) h1.2.2.1 5 (.int (nI e2))) h1.2.2.1 6 (.int (nI z2 - nI 99))) := ((((((((fy.rf (fun _ => False) h1).mk.wr (Or.inr (Nat.le_refl _))).mono (fun _ z => z) (by decide)).wr (Or.inr (Nat.le_refl _))).wr (Or.inr (Nat.le_refl _))).wr (Or.inr (Nat.le_refl _))).wr (Or.inr (Nat.le_refl _))).wr (Or.inr (Nat.le_refl _))).wr (Or.inr (Nat.le_refl _))
  have yB : yA (ax_wr (ax_wr (ax_wr (ax_wr (ax_wr (ax_wr hA h1.2.2.1 1 (.int (nI x2))) h1.2.2.1 2 (.int (nI y2))) h1.2.2.1 3 (.int (nI (v / 2 ^ 10 % 3)))) h1.2.2.1 4 (.int (nI w2))) h1.2.2.1 5 (.int (nI e2))) h1.2.2.1 6 (.int (nI z2 - nI 99))) h1.2.2.1 7 := y
  generalize hB' : ax_wr (ax_wr (ax_wr (ax_wr (ax_wr (ax_wr hA h1.2.2.1 1 (.int (nI x2))) h1.2.2.1 2 (.int (nI y2))) h1.2.2.1 3 (.int (nI (v / 2 ^ 10 % 3)))) h1.2.2.1 4 (.int (nI w2))) h1.2.2.1 5 (.int (nI e2))) h1.2.2.1 6 (.int (nI z2 - nI 99)) = hB at *
  have gB := g.o fN (fun _ z => z.elim)
  have oB := o.y fN (fun _ z => z.elim)
  have zB : hI hB 153 9 = nI 0 := (fN.I (by omega) (fun z => z)).trans z9
  have m5 := Nat.mod_lt v (show 0 < 5 by decide)
  have isR : isRule r (nI (v % 5)) (nI x2) (nI y2) (nI (v / 2 ^ 10 % 3)) (nI w2) (nI e2) (nI z2 - nI 99) := by
    have v9 := nI_v99 z2 b5
    refine ⟨⟨(isLe_nI (by omega) (by omega)).mpr (by omega), (isLe_nI (by omega) (by omega)).mpr b1, (isLe_nI (by omega) (by omega)).mpr b2, ⟨nI_le (Nat.zero_le _) (by omega), nI_le (by omega) (by decide)⟩, ⟨nI_le (Nat.zero_le _) (by omega), nI_le (by omega) (by decide)⟩, fun z => b4 ((nI_eq (by omega) (by omega)).mp z).symm, (isLe_nI (by omega) (by omega)).mpr b6, v9.1, v9.2⟩, by omega⟩
  obtain ⟨h2, r2, f2, g2⟩ := lg_rule gB _ _ _ _ _ _ _ isR
  have o2 := oB.y f2 (fun a z => by omega)
  have al2 := o2.al
  have alB := oB.al
  have z2' : hI h2 153 9 = nI 0 := (f2.I (by omega) (by decide)).trans zB
  have yC := yB.y f2
  let h3 := ax_wr (ax_wr h2 158 r (rf h1.2.2.1)) 153 2 (.int (hI (ax_wr h2 158 r (rf h1.2.2.1)) 153 2 + nI 1))
  have f3 : fy 0 (fun a => a = 153 ∨ a = 158) h2 h3 := ((fy.rf (fun a => a = 153 ∨ a = 158) h2).wr (a := 158) (Or.inl (Or.inr rfl))).wr (a := 153) (Or.inl (Or.inl rfl))
  have g3 := g2.o f3 (fun a z => ⟨by omega, by omega⟩)
  refine ⟨_, _, h3, ⟨(((f.trans fB (fun a z => Or.inl z)).trans f2 (fun a z => by left; show a < 168; omega)).trans f3 (fun a z => by left; show a < 168; omega)).mono (fun _ z => z) (by omega), ⟨o2.ok, al2, ?_, ?_, fun i hi => ⟨?_, ?_, ?_⟩⟩, g3, ?_⟩, fun RR X => xq RR (x396 RR ?_)⟩
  · exact (wr_Ij (by decide)).trans ((wr_Ia (by decide)).trans o2.mm)
  · exact (wr_Ij (by decide)).trans ((wr_Ia (by decide)).trans o2.nn)
  · exact (wr_Ia (by decide)).trans ((wr_Ia (by decide)).trans (o2.KK hi))
  · exact (wr_Ia (by decide)).trans ((wr_Ia (by decide)).trans (o2.PP hi))
  · exact (wr_Ia (by decide)).trans ((wr_Ia (by decide)).trans (o2.BB hi))
  · exact (wr_Ij (by decide)).trans ((wr_Ia (by decide)).trans z2')
  · refine cl_L_made_491 rfl (by decide) (r2) ?_
    refine wb_L_made_494 ?_
    rw [if_pos rfl, ix_nI (by omega), show nI r + nI 1 = nI (r + 1) from nI_s r]
    exact ⟨in_nI (by omega) (by decide), yC.c, X⟩
theorem lm_rules (hL : h.2.2.2.2 < 2 ^ 31) {R : Nat} (hR : R ≤ 5) : ∀ m r U V k h1, r + m = R → mS c n K P B r U V W T C k h h1 → ∃ U2 V2 h2, mS c n K P B R U2 V2 W T C (k + 17 * m) h h2 ∧ ∀ RR, XX true 7 84 314 [.ref 64, .ref 48, ax_junk, .ref 153, ax_junk, .int (nI R), .int (nI R), ax_junk, ax_junk, ax_junk, ax_junk] [] (h2) (RR) → XX true 7 84 314 [.ref 64, .ref 48, ax_junk, .ref 153, ax_junk, .int (nI R), .int (nI r), ax_junk, ax_junk, ax_junk, ax_junk] [] (h1) (RR) := by
  intro m
  induction m with
  | zero =>
    intro r U V k h1 hr s
    obtain rfl : r = R := hr
    exact ⟨U, V, h1, s, fun R x => x⟩
  | succ m ih =>
    intro r U V k h1 hr s
    obtain ⟨U2, V2, h2, s2, x2⟩ := lm_rule hL hR (by omega) s
    obtain ⟨U3, V3, h3, s3, x3⟩ := ih (r + 1) U2 V2 (k + 17) h2 (by omega) s2
    rw [show k + 17 + 17 * m = k + 17 * (m + 1) by omega] at s3
    exact ⟨U3, V3, h3, s3, fun R x => x2 R (x3 R x)⟩
/-- the worths of the cards -/
theorem lm_worths (hL : h.2.2.2.2 < 2 ^ 31) (hc : c ≤ 5) {x2 : Int32} : ∀ m i W h1, i + m = c → (∀ j, i ≤ j → W j = 0) → fy 0 X8 h h1 → hI h1 153 0 = nI c → hI h1 153 1 = nI 0 → hI h1 153 9 = nI 0 → lG c 0 K P B 0 T C 0 U V W h1 → ∃ W2 h2, fy 0 X8 h h2 ∧ hI h2 153 0 = nI c ∧ hI h2 153 1 = nI 0 ∧ hI h2 153 9 = nI 0 ∧ lG c 0 K P B 0 T C 0 U V W2 h2 ∧ ∀ RR, XX true 7 84 38 [.ref 64, .ref 48, .int (x2), .ref 153, .int (nI c), ax_junk, ax_junk, ax_junk, ax_junk, ax_junk, ax_junk] [] (h2) (RR) → XX true 7 84 38 [.ref 64, .ref 48, .int (x2), .ref 153, .int (nI i), ax_junk, ax_junk, ax_junk, ax_junk, ax_junk, ax_junk] [] (h1) (RR) := by
  intro m
  induction m with
  | zero =>
    intro i W h1 hi w0 f a0 a1 a9 g
    obtain rfl : i = c := hi
    exact ⟨W, h1, f, a0, a1, a9, g, fun R x => x⟩
  | succ m ih =>
    intro i W h1 hi w0 f a0 a1 a9 g
    obtain ⟨v, hv, xv⟩ := ll_cell (h := h1) (by rw [f.2.2.2.1]; exact hL) (k := 1) (by omega)
    have lt : v / 2 ^ (5 * i) < 2 ^ 31 := Nat.lt_of_le_of_lt (Nat.div_le_self _ _) hv
    have m19 := Nat.mod_lt (v / 2 ^ (5 * i)) (show 0 < 19 by decide)
    have w9 := nI_w9 _ m19
    have al := g.al
    have f1 : fy 0 (fun a => a = 154) h1 (ax_wr h1 154 i (.int (nI (v / 2 ^ (5 * i) % 19) - nI 9))) := (fy.rf _ h1).wr (Or.inl rfl)
    have g1 := g.o f1 (fun a z => ⟨by omega, by omega⟩)
    obtain ⟨h2, r2, f2, g2⟩ := lg_worth g1 (i := i) (by omega) w9.1 w9.2
    have n3 : ¬ (153 : Nat) < 153 := by decide
    have k2 : ∀ {j}, hI h2 153 j = hI h1 153 j := fun {j} => (f2.I (show 153 < h1.2.2.1 by omega) (by decide)).trans (wr_Ia (by decide))
    obtain ⟨W2, h3, b1, b2, b3, b4, b5, b6⟩ := ih (i + 1) _ h2 (by omega) (fun j hj => (if_neg (by omega)).trans (w0 j (by omega))) ((f.trans f1 (fun a z => by left; show a < 168; omega)).trans f2 (fun a z => by left; show a < 168; omega)) (k2.trans a0) (k2.trans a1) (k2.trans a9) g2
    refine ⟨W2, h3, b1, b2, b3, b4, b5, fun RR X => ?_⟩
    rw [w0 i (Nat.le_refl _)] at r2
    refine wb_L_made_38 ?_
    rw [a0, if_pos (nI_lt (by omega) (by omega))]
    refine cl_L_made_55 rfl (by decide) (xv) ?_
    refine wb_L_made_58 ?_
    rw [nI_mulI, nI_shr hv (5 * i) (by omega), nI_rem lt (by decide), ix_nI (by omega), wr_I]
    refine ⟨by decide, in_nI (by omega) (by decide), in_nI (by omega) (by decide), ?_⟩
    refine cl_L_made_80 rfl (by decide) (r2) ?_
    refine wb_L_made_83 ?_
    rw [if_pos (show iI 0 = nI 0 from rfl), nI_s]
    exact b6 RR X
/-- made by cells, from behind its constructor -/
theorem lm_made (hL : h.2.2.2.2 < 2 ^ 31) (s : lG 3 n K P B np T C nr U V W h) (a1 : hI h 153 1 = nI 0) (a9 : hI h 153 9 = nI 0) : ∃ c n K P B nr U V W h', XX true 7 84 8 [.ref 64, .ref 48, .int (nI 5), .ref 153, ax_junk, ax_junk, ax_junk, ax_junk, ax_junk, ax_junk, ax_junk] [] (h) ((some (rf 153), h')) ∧ n ≤ 5 ∧ fy 100 X8 h h' ∧ oS c n K P B h' ∧ lG c n K P B 0 T C nr U V W h' ∧ hI h' 153 9 = nI 0 := by
  have al := s.al
  obtain ⟨v, hv, xv⟩ := ll_cell (h := h) hL (k := 0) (by decide)
  have m5 := Nat.mod_lt v (show 0 < 5 by decide)
  let h1 := ax_wr h 153 0 (.int (nI (1 + v % 5)))
  have f1 : fy 0 X8 h h1 := (fy.rf _ h).wr (Or.inl (by decide))
  have g1 := s.o ((fy.rf (fun a => a = 153) h).wr (a := 153) (j := 0) (v := .int (nI (1 + v % 5))) (Or.inl rfl)) (fun a z => ⟨by omega, by omega⟩)
  obtain ⟨h2, r2, f2, g2⟩ := lg_pack g1 (m := 1 + v % 5) (by omega) (by omega)
  have k2 : ∀ {j}, hI h2 153 j = hI h1 153 j := fun {j} => f2.I (show 153 < h.2.2.1 by omega) (by decide)
  have f12 : fy 0 X8 h h2 := f1.trans f2 (fun a z => by left; show a < 168; omega)
  obtain ⟨W3, h3, f3, c0, c1, c9, g3, x3⟩ := lm_worths (h := h) hL (c := 1 + v % 5) (by omega) (x2 := nI 5) (1 + v % 5) 0 _ h2 (Nat.zero_add _) (fun _ _ => rfl) f12 (k2.trans (wr_I _ _ _ _)) (k2.trans ((wr_Ij (by decide)).trans a1)) (k2.trans ((wr_Ij (by decide)).trans a9)) g2
  have al3 := g3.al
  obtain ⟨v3, hv3, xv3⟩ := ll_cell (h := h3) (by rw [f3.2.2.2.1]; exact hL) (k := 0) (by decide)
  have m3 := Nat.mod_lt (v3 / 2 ^ 4) (show 0 < 5 by decide)
  have lt3 : v3 / 2 ^ 4 < 2 ^ 31 := Nat.lt_of_le_of_lt (Nat.div_le_self _ _) hv3
  have s3 : mS (1 + v % 5) 0 K P B 0 U V W3 T C (3 * 0) h h3 := ⟨f3, ⟨g3.ok, al3, c0, c1, fun i hi => absurd hi (Nat.not_lt_zero _)⟩, g3, c9⟩
  obtain ⟨n4, K4, P4, B4, h4, hn4, s4, x4⟩ := lm_stages (h := h) hL (N := 1 + v3 / 2 ^ 4 % 5) (by omega) _ 0 0 K P B h3 (Nat.zero_add _) (Nat.le_refl _) s3
  obtain ⟨v4, hv4, xv4⟩ := ll_cell (h := h4) (by rw [s4.1.2.2.2.1]; exact hL) (k := 0) (by decide)
  have m6 := Nat.mod_lt (v4 / 2 ^ 8) (show 0 < 6 by decide)
  have lt4 : v4 / 2 ^ 8 < 2 ^ 31 := Nat.lt_of_le_of_lt (Nat.div_le_self _ _) hv4
  obtain ⟨U5, V5, h5, s5, x5⟩ := lm_rules (h := h) hL (R := v4 / 2 ^ 8 % 6) (by omega) _ 0 U V _ h4 (Nat.zero_add _) s4
  refine ⟨_, n4, K4, P4, B4, _, U5, V5, W3, h5, ?_, by omega, s5.1.mono (fun _ z => z) (by omega), s5.2.1, s5.2.2.1, s5.2.2.2⟩
  refine wb_L_made_8 ?_
  refine cl_L_made_12 rfl (by decide) (xv) ?_
  refine wb_L_made_15 ?_
  rw [nI_rem hv (by decide), nI_add, wr_I]
  refine ⟨by decide, ?_⟩
  refine cl_L_made_26 rfl (by decide) (r2) ?_
  refine wb_L_made_29 ?_
  rw [if_pos rfl]
  refine x3 _ ?_
  refine wb_L_made_38 ?_
  rw [c0, if_neg (nI_nlt (Nat.le_refl _) (by omega))]
  refine cl_L_made_97 rfl (by decide) (xv3) ?_
  refine wb_L_made_100 ?_
  rw [nI_shr hv3 4 (by decide), nI_rem lt3 (by decide), nI_add]
  refine ⟨by decide, x4 _ ?_⟩
  refine wb_L_made_110 ?_
  rw [if_neg (nI_nlt (Nat.le_refl _) (by omega))]
  refine cl_L_made_300 rfl (by decide) (xv4) ?_
  refine wb_L_made_303 ?_
  rw [nI_shr hv4 8 (by decide), nI_rem lt4 (by decide)]
  refine ⟨by decide, x5 _ ?_⟩
  refine wb_L_made_314 ?_
  rw [if_neg (nI_nlt (Nat.le_refl _) (by omega))]
end S93
