/-! THE LAW: plans by lot are told as many by both -/
section S89
variable {c n np nr : Nat} {K P B T C : Nat → Nat} {U : Nat → Nat → Nat} {V W : Nat → Int} {h h0 h' : AH}
theorem ySs.y {k p r : Nat} {X : Nat → Prop} (s : ySs c n K P B p h0 h r) (f : fy k X h h') (q : ∀ a, X a → a < 168 ∨ h.2.1 a = 108) : ySs c n K P B p h0 h' r := by
  have r1 := s.1
  have nr : ¬ X r := fun z => by rcases q _ z with y | y; have := r1.1; omega; have := r1.2.2; omega
  refine ⟨r1.y f, s.2.1, fun t ht => ?_⟩
  obtain ⟨a, z1, z2, z3⟩ := s.2.2 t ht
  exact ⟨a, (f.R r1.2.1 nr).trans z1, z2, z3.y f (fun z => by rcases q _ z with y | y; have := z3.1.1; omega; have := z3.1.2.2; omega)⟩
theorem Xt_t {k : Nat} {X : Nat → Prop} {h h1 : AH} (f : fy k X h h1) (a : Nat) (z : Xt h1 a) : Xt h a ∨ h.2.2.1 ≤ a := by
  rcases z with z | z | z
  · exact Or.inl (Or.inl z)
  · exact Or.inl (Or.inr (Or.inl z))
  · by_cases q : a < h.2.2.1
    · exact Or.inl (Or.inr (Or.inr ⟨z.1, (f.2.2.2.2.1 a q).symm.trans z.2⟩))
    · exact Or.inr (by omega)
theorem ll_full {r p m : Nat} {sd : Int32} {h1 : AH} (z : ySs c n K P B p h0 h1 r) (hM : v_sM c n K P B p ≤ 806) : ∀ f t, t + f = v_sM c n K P B p → ∀ w, ∃ w', ∀ R, XX true 17 106 11 [.ref 64, .ref 153, .int (sd), .int (w'), .int (nI m), .int (nI 1), .int (nI (p + 1)), ax_junk, ax_junk, ax_junk, ax_junk] [] (h1) (R) → XX true 17 106 38 [.ref 64, .ref 153, .int (sd), .int (w), .int (nI m), .int (nI 1), .int (nI p), rf (r), .int (nI (v_sM c n K P B p)), .int (nI t), ax_junk] [] (h1) (R) := by
  intro f
  induction f with
  | zero =>
    intro t ht w
    refine ⟨w, fun R x => ?_⟩
    refine wb_L_lots_38 ?_
    rw [if_neg (nI_nlt (by omega) (by omega)), nI_s]
    exact x
  | succ f ih =>
    intro t ht w
    obtain ⟨w', y⟩ := ih (t + 1) (by omega) (w * nI 1103515245 + nI 12345)
    obtain ⟨a, z1, z2, z3⟩ := z.2.2 t (by omega)
    refine ⟨w', fun R x => ?_⟩
    refine wb_L_lots_38 ?_
    rw [if_pos (nI_lt (by omega) (by omega)), ix_nI (by omega), z.1.g, z1]
    refine ⟨_, z.1.d, in_nI (by omega) (by omega), a, rfl, ?_⟩
    rw [if_neg (by decide)]
    refine wb_L_lots_104 ?_
    rw [if_neg (by decide)]
    refine wb_L_lots_116 ?_
    rw [nI_s, nI_add]
    exact y R x
theorem ll_in {r p m : Nat} {sd : Int32} (hp : p < 3) : ∀ f t, t + f = v_sM c n K P B p → ∀ (x : PS) (h1 : AH), oS c n K P B h1 → ySs c n K P B p h0 h1 r → oP x.2.1 x.2.2.1 h1 → ∃ h2, fy (5 * f) (Xt h1) h1 h2 ∧ oS c n K P B h2 ∧ oP (v_lk c n K P B p f t x).2.2.1 (v_lk c n K P B p f t x).2.2.2.1 h2 ∧ ((v_lk c n K P B p f t x).1 = true → ∀ R, XX true 17 106 11 [.ref 64, .ref 153, .int (sd), .int ((v_lk c n K P B p f t x).2.1), .int (nI (m + v_sM c n K P B p)), .int (nI 0), .int (nI (p + 1)), ax_junk, ax_junk, ax_junk, ax_junk] [] (h2) (R) → XX true 17 106 38 [.ref 64, .ref 153, .int (sd), .int (x.1), .int (nI (m + t)), .int (nI 0), .int (nI p), rf (r), .int (nI (v_sM c n K P B p)), .int (nI t), ax_junk] [] (h1) (R)) ∧ ((v_lk c n K P B p f t x).1 = false → ∃ w m', ∀ R, XX true 17 106 11 [.ref 64, .ref 153, .int (sd), .int (w), .int (nI m'), .int (nI 1), .int (nI (p + 1)), ax_junk, ax_junk, ax_junk, ax_junk] [] (h2) (R) → XX true 17 106 38 [.ref 64, .ref 153, .int (sd), .int (x.1), .int (nI (m + t)), .int (nI 0), .int (nI p), rf (r), .int (nI (v_sM c n K P B p)), .int (nI t), ax_junk] [] (h1) (R)) := by
  intro f
  induction f with
  | zero =>
    intro t ht x h1 s z mx
    have e : t = v_sM c n K P B p := ht
    have m8 := v_sM_le s.ok p
    refine ⟨h1, fy.rf _ _, s, mx, fun _ R u => ?_, fun u => (by cases u)⟩
    refine wb_L_lots_38 ?_
    rw [if_neg (nI_nlt (by omega) (by omega)), nI_s]
    rw [← e] at u
    exact u
  | succ f ih =>
    intro t ht x h1 s z mx
    have m8 := v_sM_le s.ok p
    have h6 := s.n6
    have si := v_set_is s.ok (p := p) (t := t) (by omega)
    have vl := v_sV_lt c n K P B p t
    have b3 := v_setB s.ok (p := p) (t := t) (by omega)
    have l8 := v_l8_lt (v_lz x.1)
    have ml := Nat.mod_lt (v_l8 (v_lz x.1)) (show 0 < B (v_sJ c n K P B p t) by omega)
    obtain ⟨a, z1, z2, z3⟩ := z.2.2 t (by omega)
    have g0 : gI h1 a 0 = nI (v_sJ c n K P B p t) := (z3.1.g _).trans z3.2.1
    have g1 : gI h1 a 1 = nI (v_sV c n K P B p t) := (z3.1.g _).trans z3.2.2
    obtain ⟨h2, r2, f2, s2, t2, t3⟩ := so_tell s mx (p := p) (j := v_sJ c n K P B p t) (v := v_sV c n K P B p t) (y := v_l8 (v_lz x.1) % B (v_sJ c n K P B p t)) hp (by omega) vl
    have z' : ySs c n K P B p h0 h2 r := z.y f2 (fun a y => by rcases y with y | y | y; left; omega; left; omega; right; exact y.2)
    have pre : ∀ R, (∀ s0, s0 = b2i (v_pat x.2.1 x.2.2.1 p (v_sJ c n K P B p t) (v_sV c n K P B p t) < 40) → XX true 17 106 94 [.ref 64, .ref 153, .int (sd), .int (v_lz x.1), .int (nI (m + t)), ax_junk, .int (nI p), rf (r), .int (nI (v_sM c n K P B p)), .int (nI t), ax_junk] [.int (s0)] (h2) (R)) → XX true 17 106 38 [.ref 64, .ref 153, .int (sd), .int (x.1), .int (nI (m + t)), .int (nI 0), .int (nI p), rf (r), .int (nI (v_sM c n K P B p)), .int (nI t), ax_junk] [] (h1) (R) := by
      intro R u
      refine wb_L_lots_38 ?_
      rw [if_pos (nI_lt (by omega) (by omega)), ix_nI (show t < 2 ^ 31 by omega), z.1.g, z1]
      refine ⟨_, z.1.d, in_nI (by omega) (by omega), a, rfl, ?_⟩
      rw [if_pos rfl]
      refine ⟨_, z3.1.d, by decide, _, z3.1.d, by decide, _, z3.1.d, by decide, ?_⟩
      rw [show ix (nI 0) = 0 from rfl, show ix (nI 1) = 1 from rfl, g0, g1, ix_nI (by omega), s.BB si.1, ← v_lz_eq, v_l8_is, nI_divI (by omega) (by omega), nI_mulI, nI_remI]
      refine ⟨in_nI (by omega) (by decide), ?_, ?_⟩
      · simp only [Bool.not_eq_true', decide_eq_false_iff_not]
        exact nI_ne0 (by omega) (by omega)
      · refine cl_L_lots_91 rfl (by decide) (r2) ?_
        exact wkj (u _ rfl)
    unfold v_lk
    by_cases q : v_pat x.2.1 x.2.2.1 p (v_sJ c n K P B p t) (v_sV c n K P B p t) < 40
    · rw [if_pos q]
      obtain ⟨h3, f3, s3, mx3, c1, c2⟩ := ih (t + 1) (by omega) (v_tl x (v_lz x.1) p (v_sJ c n K P B p t) (v_sV c n K P B p t) (v_l8 (v_lz x.1) % B (v_sJ c n K P B p t))) h2 s2 z' (t2 q)
      have nx : ∀ R, XX true 17 106 38 [.ref 64, .ref 153, .int (sd), .int (v_lz x.1), .int (nI (m + (t + 1))), .int (nI 0), .int (nI p), rf (r), .int (nI (v_sM c n K P B p)), .int (nI (t + 1)), ax_junk] [] (h2) (R) → XX true 17 106 38 [.ref 64, .ref 153, .int (sd), .int (x.1), .int (nI (m + t)), .int (nI 0), .int (nI p), rf (r), .int (nI (v_sM c n K P B p)), .int (nI t), ax_junk] [] (h1) (R) := by
        intro R u
        refine pre R (fun s0 e => ?_)
        rw [e, b2i_t q]
        refine wb_L_lots_94 ?_
        rw [if_neg (by decide)]
        refine wb_L_lots_102 ?_
        refine wb_L_lots_104 ?_
        rw [if_pos rfl]
        refine wb_L_lots_116 ?_
        rw [nI_s, nI_s]
        exact u
      exact ⟨h3, (f2.trans f3 (Xt_t f2)).mono (fun _ z => z) (by omega), s3, mx3, fun u R y => nx R (c1 u R y), fun u => by
        obtain ⟨w, m', y⟩ := c2 u
        exact ⟨w, m', fun R x => nx R (y R x)⟩⟩
    · rw [if_neg q]
      obtain ⟨w', y⟩ := ll_full (m := m + t) (sd := sd) z' m8 f (t + 1) (by omega) (v_lz x.1)
      refine ⟨h2, f2.mono (fun _ z => z) (by omega), s2, t3 q, fun u => (by cases u), fun _ => ⟨w', m + t, fun R u => pre R (fun s0 e => ?_)⟩⟩
      rw [e, b2i_f q]
      refine wb_L_lots_94 ?_
      rw [if_pos rfl]
      refine wb_L_lots_102 ?_
      refine wb_L_lots_104 ?_
      rw [if_neg (by decide)]
      refine wb_L_lots_116 ?_
      rw [nI_s, nI_add]
      exact y R u
theorem ll_lots (s : oS c n K P B h) (g : lG c n K P B np T C nr U V W h) (t : oP np T h) (sd : Int32) : ∃ h' np' T' C', XX true 17 106 0 [.ref 64, .ref 153, .int (sd), ax_junk, ax_junk, ax_junk, ax_junk, ax_junk, ax_junk, ax_junk, ax_junk] [] (h) (some (.int (nI 1)), h') ∧ fy 96090 (fun a => Xt h a ∨ Xc a) h h' ∧ oS c n K P B h' ∧ lG c n K P B np' T' C' nr U V W h' := by
  have h6 := s.n6
  have lp : ∀ f p, p + f = 3 → ∀ m, m ≤ 806 * p → ∀ (x : PS) (h1 : AH), fy (32030 * p) (Xt h) h h1 → oS c n K P B h1 → oP x.2.1 x.2.2.1 h1 → ∃ h' cnt fl, fy 96090 (Xt h) h h' ∧ oS c n K P B h' ∧ (if fl = nI 0 then cnt else -nI 4) = (v_lp c n K P B f p m x).1 ∧ ∀ R, XX true 17 106 131 [.ref 64, ax_junk, .int (sd), ax_junk, .int (cnt), .int (fl), ax_junk, ax_junk, ax_junk, ax_junk, ax_junk] [] (h') (R) → XX true 17 106 11 [.ref 64, .ref 153, .int (sd), .int (x.1), .int (nI m), .int (nI 0), .int (nI p), ax_junk, ax_junk, ax_junk, ax_junk] [] (h1) (R) := by
    intro f
    induction f with
    | zero =>
      intro p hp m hm x h1 f1 s1 mx
      obtain rfl : p = 3 := hp
      refine ⟨h1, nI m, nI 0, f1, s1, ?_, fun R u => ?_⟩
      · rw [if_pos rfl]
        rfl
      · refine wb_L_lots_11 ?_
        rw [if_neg (by decide)]
        exact u
    | succ f ih =>
      intro p hp m hm x h1 f1 s1 mx
      have m8 := v_sM_le s1.ok p
      obtain ⟨h2, r, x2, f2, z2⟩ := so_sets s1 (p := p) (by omega)
      have s2 : oS c n K P B h2 := s1.y f2 (fun _ z => z.elim)
      obtain ⟨h3, f3, s3, mx3, g1, g2⟩ := ll_in (h0 := h1) (c := c) (n := n) (K := K) (P := P) (B := B) (p := p) (m := m) (r := r) (sd := sd) (by omega) (v_sM c n K P B p) 0 (Nat.zero_add _) x h2 s2 z2 (mx.y s1.al f2 (fun _ z => z.elim))
      have f12 := f1.trans f2 (fun _ z => z.elim)
      have f13 : fy (32030 * (p + 1)) (Xt h) h h3 := (f12.trans f3 (Xt_t f12)).mono (fun _ z => z) (by omega)
      have pre : ∀ R, XX true 17 106 38 [.ref 64, .ref 153, .int (sd), .int (x.1), .int (nI (m + 0)), .int (nI 0), .int (nI p), rf (r), .int (nI (v_sM c n K P B p)), .int (nI 0), ax_junk] [] (h2) (R) → XX true 17 106 11 [.ref 64, .ref 153, .int (sd), .int (x.1), .int (nI m), .int (nI 0), .int (nI p), ax_junk, ax_junk, ax_junk, ax_junk] [] (h1) (R) := by
        intro R u
        refine wb_L_lots_11 ?_
        rw [if_pos (nI_lt (by omega) (by decide)), if_pos rfl]
        refine cl_L_lots_25 rfl (by decide) (x2) ?_
        refine wb_L_lots_28 ?_
        exact ⟨_, z2.1.d, u⟩
      unfold v_lp
      by_cases q : (v_lk c n K P B p (v_sM c n K P B p) 0 x).1 = true
      · rw [if_pos q]
        obtain ⟨h', cnt, fl, a1, a2, a3, a4⟩ := ih (p + 1) (by omega) (m + v_sM c n K P B p) (by omega) _ h3 f13 s3 mx3
        exact ⟨h', cnt, fl, a1, a2, a3, fun R u => pre R (g1 q R (a4 R u))⟩
      · rw [if_neg q]
        obtain ⟨w, m', y⟩ := g2 (Bool.eq_false_iff.mpr q)
        refine ⟨h3, nI m', nI 1, f13.mono (fun _ z => z) (by omega), s3, ?_, fun R u => pre R (y R ?_)⟩
        · rw [if_neg (by decide)]
        · refine wb_L_lots_11 ?_
          by_cases z : p + 1 < 3
          · rw [if_pos (nI_lt z (by decide)), if_neg (by decide)]
            exact u
          · rw [if_neg (nI_nlt (by omega) (by omega))]
            exact u
  obtain ⟨h1, cnt, fl, f1, s1, e, x1⟩ := lp 3 0 rfl 0 (Nat.le_refl _) (sd, np, T, C) h (fy.rf _ _) s t
  have g1 := g.o f1 (fun a z => by rcases z with z | z | z; exact ⟨by omega, by omega⟩; exact ⟨by omega, by omega⟩; exact ⟨by omega, by omega⟩)
  obtain ⟨h', x2, f2, g2⟩ := lg_lot g1 sd
  refine ⟨h', _, _, _, ?_, ((f1.mono (Y := fun a => Xt h a ∨ Xc a) (fun _ z => Or.inl z) (Nat.le_refl _)).trans f2 (fun _ z => Or.inl (Or.inr z))), s1.y f2 (fun a z => by omega), g2⟩
  refine wb_L_lots_0 ?_
  refine x1 _ ?_
  refine wb_L_lots_131 ?_
  refine cl_L_lots_133 rfl (by decide) (x2) ?_
  refine wb_L_lots_136 ?_
  have fin : ∀ v, v = (v_lot c n K P B np T C sd).1 → XX true 17 106 148 [ax_junk, ax_junk, ax_junk, ax_junk, ax_junk, ax_junk, ax_junk, ax_junk, ax_junk, ax_junk, ax_junk] [.int (v), .int ((v_lot c n K P B np T C sd).1)] (h') ((some (.int (nI 1)), h')) := by
    intro v hv
    refine wb_L_lots_148 ?_
    rw [if_pos hv.symm]
  by_cases q : fl = nI 0
  · rw [if_pos q]
    rw [if_pos q] at e
    exact fin _ e
  · rw [if_neg q]
    rw [if_neg q] at e
    exact fin _ e
end S89
