/-! THE LAW's OWN GAME: sets of a player, in rows -/
/-- rows that hold stage and view -/
def yS (h : AH) (r x : Nat) : Prop := yA h r 3 ∧ hI h r 0 = nI (x / 524288) ∧ hI h r 1 = nI (x % 524288)
def yL (h0 h : AH) (A M : Nat) (G : Nat → Nat) : Prop := ∀ t, t < M → ∃ r, hR h A t = rf r ∧ h0.2.2.1 ≤ r ∧ yS h r (G t)
theorem yS.y {k : Nat} {X : Nat → Prop} {h h' : AH} {r x : Nat} (s : yS h r x) (f : fy k X h h') (q : ¬ X r) : yS h' r x := ⟨s.1.y f, (f.I s.1.2.1 q).trans s.2.1, (f.I s.1.2.1 q).trans s.2.2⟩
theorem yL.y {k : Nat} {X : Nat → Prop} {h0 h h' : AH} {A M : Nat} {G : Nat → Nat} (s : yL h0 h A M G) (hA : A < h.2.2.1) (f : fy k X h h') (q : ∀ a, ¬ X a) : yL h0 h' A M G := fun t ht => by
  obtain ⟨r, z1, z2, z3⟩ := s t ht
  exact ⟨r, (f.R hA (q _)).trans z1, z2, z3.y f (q _)⟩
theorem yWs.y {k : Nat} {X : Nat → Prop} {c : Nat} {K B : Nat → Nat} {h0 h h' : AH} {r j : Nat} (s : yWs c K B h0 h r j) (f : fy k X h h') (q : ∀ a, X a → h0.2.2.1 ≤ a → h.2.1 a ≠ 112 ∧ h.2.1 a ≠ 101 + 2 * v_ways c K B j) : yWs c K B h0 h' r j := ⟨s.1.y f, s.2.1, fun w hw => by
  obtain ⟨a, z1, z2, z3⟩ := s.2.2 w hw
  exact ⟨a, (f.R s.1.2.1 (fun z => (q _ z s.2.1).2 s.1.2.2)).trans z1, z2, z3.y f (fun z => (q _ z z2).1 z3.1.2.2)⟩⟩
section S86
variable {c n : Nat} {K P B : Nat → Nat} {h h' : AH}
/-- where it stands or would stand -/
theorem so_sets_at {h1 : AH} {A M F j V : Nat} {G : Nat → Nat} (yQ : yM h1 A 2000) (L : yL h h1 A M G) (hM : M ≤ 806) (hV : V < 524288) (hG : ∀ t, F ≤ t → t < M → G t / 524288 = j) : ∀ m at', at' + m = M → F ≤ at' → ∃ a, at' ≤ a ∧ a ≤ M ∧ (∀ t, at' ≤ t → t < a → G t < j * 524288 + V) ∧ (a < M → j * 524288 + V ≤ G a) ∧ ∀ p W x7 w R, XX true 16 107 105 [.ref 153, .int (p), rf (A), .int (nI M), .int (nI j), .int (nI F), rf (W), .int (x7), .int (w), ax_junk, .int (nI V), .int (nI a), ax_junk] [] (h1) (R) → XX true 16 107 82 [.ref 153, .int (p), rf (A), .int (nI M), .int (nI j), .int (nI F), rf (W), .int (x7), .int (w), ax_junk, .int (nI V), .int (nI at'), ax_junk] [] (h1) (R) := by
  intro m
  induction m with
  | zero =>
    intro at' ha hF
    obtain rfl : at' = M := ha
    refine ⟨at', Nat.le_refl _, Nat.le_refl _, fun t h1 h2 => by omega, fun z => by omega, fun p W x7 w R x => ?_⟩
    refine wb_X12_sets_82 ?_
    rw [if_neg (nI_nlt (Nat.le_refl _) (by omega))]
    exact x
  | succ m ih =>
    intro at' ha hF
    obtain ⟨r, z1, z2, z3⟩ := L at' (by omega)
    have g := hG at' hF (by omega)
    by_cases q : G at' % 524288 < V
    · obtain ⟨a, b1, b2, b3, b4, b5⟩ := ih (at' + 1) (by omega) (by omega)
      refine ⟨a, by omega, b2, fun t h1 h2 => ?_, b4, fun p W x7 w R x => ?_⟩
      · by_cases z : t = at'
        · rw [z]; omega
        · exact b3 t (by omega) h2
      · refine wb_X12_sets_82 ?_
        rw [if_pos (nI_lt (by omega) (by omega)), ix_nI (by omega), yQ.g, z1]
        refine ⟨_, yQ.d, in_nI (by omega) (by decide), r, rfl, _, z3.1.d, by decide, ?_⟩
        rw [show ix (nI 1) = 1 from rfl, z3.1.g, z3.2.2, if_pos (nI_lt q (by omega)), nI_s]
        exact b5 p W x7 w R x
    · refine ⟨at', Nat.le_refl _, by omega, fun t h1 h2 => by omega, fun _ => by omega, fun p W x7 w R x => ?_⟩
      refine wb_X12_sets_82 ?_
      rw [if_pos (nI_lt (by omega) (by omega)), ix_nI (by omega), yQ.g, z1]
      refine ⟨_, yQ.d, in_nI (by omega) (by decide), r, rfl, _, z3.1.d, by decide, ?_⟩
      rw [show ix (nI 1) = 1 from rfl, z3.1.g, z3.2.2, if_neg (nI_nlt (by omega) (by omega))]
      exact x
/-- room is made -/
theorem so_sets_sh {h2 : AH} {A M a : Nat} (yQ : yM h2 A 2000) (hM : M ≤ 806) (rows : ∀ t, t < M → ∃ r, hR h2 A t = rf r ∧ yA h2 r 3) : ∀ m e, e = a + m → e ≤ M → ∀ h3, fy 0 (fun b => b = A) h2 h3 → (∀ t, t < e → hR h3 A t = hR h2 A t) → (∀ t, e < t → t ≤ M → hR h3 A t = hR h2 A (t - 1)) → ∃ h4, fy 0 (fun b => b = A) h2 h4 ∧ (∀ t, t < a → hR h4 A t = hR h2 A t) ∧ (∀ t, a < t → t ≤ M → hR h4 A t = hR h2 A (t - 1)) ∧ ∀ p x3 x4 x5 W x7 w V R, XX true 16 107 138 [.ref 153, .int (p), rf (A), .int (x3), .int (x4), .int (x5), rf (W), .int (x7), .int (w), ax_junk, .int (V), .int (nI a), .int (nI a)] [] (h4) (R) → XX true 16 107 138 [.ref 153, .int (p), rf (A), .int (x3), .int (x4), .int (x5), rf (W), .int (x7), .int (w), ax_junk, .int (V), .int (nI a), .int (nI e)] [] (h3) (R) := by
  intro m
  induction m with
  | zero =>
    intro e he hM' h3 f o1 o2
    obtain rfl : e = a := he
    exact ⟨h3, f, o1, o2, fun p x3 x4 x5 W x7 w V R x => x⟩
  | succ m ih =>
    intro e he hM' h3 f o1 o2
    obtain ⟨r, z1, z2⟩ := rows (e - 1) (by omega)
    have er : hR h3 A (e - 1) = rf r := (o1 (e - 1) (by omega)).trans z1
    obtain ⟨h4, b1, b2, b3, b4⟩ := ih (e - 1) (by omega) (by omega) (ax_wr h3 A e (rf r)) (f.wr (Or.inl rfl)) (fun t ht => by rw [wr_Rj (by omega)]; exact o1 t (by omega)) (fun t h1 h2 => by
      by_cases z : t = e
      · rw [z, wr_R, toR_rf, z1]
      · rw [wr_Rj z]; exact o2 t (by omega) h2)
    refine ⟨h4, b1, b2, b3, fun p x3 x4 x5 W x7 w V R x => ?_⟩
    refine wb_X12_sets_138 ?_
    rw [if_neg (Int32.not_le.mpr (nI_lt (show a < e by omega) (by omega))), nI_dec, show nI e - nI 1 = nI (e - 1) from nI_subI (by omega), ix_nI (by omega), ix_nI (by omega), (yQ.y f).g, er]
    exact ⟨_, (yQ.y f).d, in_nI (by omega) (by decide), r, rfl, _, (yQ.y f).d, in_nI (by omega) (by decide), (yQ.y f).w _, (z2.y f).c, b4 p x3 x4 x5 W x7 w V R x⟩
/-- behind w ways of a stage -/
def sW (c : Nat) (K P B : Nat → Nat) (h hW h1 : AH) (p j F A w M : Nat) (G : Nat → Nat) : Prop := fy (11 * w) (fun a => h.2.2.1 ≤ a ∧ (hW.2.1 a = 4101 ∨ hW.2.1 a = 106)) hW h1 ∧ yL h h1 A M G ∧ enumS (fun x => setQ c K P B p j x ∨ ∃ v, vwQ c K P B p j w v ∧ x = j * 524288 + v) M G ∧ F ≤ M ∧ M ≤ F + w ∧ (∀ t, t < F → G t < j * 524288) ∧ ∀ t, F ≤ t → t < M → G t / 524288 = j
theorem so_sets_way {hW h1 : AH} {p j F A w M r : Nat} {G : Nat → Nat} (hp : p < 3) (hj : j < n) (s : oS c n K P B hW) (al : 168 ≤ h.2.2.1) (hA : h.2.2.1 ≤ A) (yQ : yM hW A 2000) (yr : yWs c K B h hW r j) (hw : w < v_ways c K B j) (hF : F + v_ways c K B j ≤ 806) (H : sW c K P B h hW h1 p j F A w M G) : ∃ h2 M2 G2, sW c K P B h hW h2 p j F A (w + 1) M2 G2 ∧ ∀ R, XX true 16 107 53 [.ref 153, .int (nI p), rf (A), .int (nI M2), .int (nI j), .int (nI F), rf (r), .int (nI (v_ways c K B j)), .int (nI (w + 1)), ax_junk, ax_junk, ax_junk, ax_junk] [] (h2) (R) → XX true 16 107 53 [.ref 153, .int (nI p), rf (A), .int (nI M), .int (nI j), .int (nI F), rf (r), .int (nI (v_ways c K B j)), .int (nI w), ax_junk, ax_junk, ax_junk, ax_junk] [] (h1) (R) := by
  obtain ⟨f, L, en, H1, H2, H3, H4⟩ := H
  have n6 := s.n6
  have wj := v_ways_le s.ok (Nat.le_of_lt hj)
  have alW := s.al
  have f1 := f.1
  have co : ∀ a, h.2.2.1 ≤ a ∧ (hW.2.1 a = 4101 ∨ hW.2.1 a = 106) → h.2.2.1 ≤ a → hW.2.1 a ≠ 112 ∧ hW.2.1 a ≠ 101 + 2 * v_ways c K B j := fun a z _ => by rcases z.2 with z | z <;> (constructor <;> omega)
  have s1 : oS c n K P B h1 := s.y f (fun a z q => by omega)
  obtain ⟨r1, y1, y2, y3⟩ := (yr.y f co).2.2 w hw
  obtain ⟨hV, xV, fV⟩ := so_view s1 (a := r1) hp (Nat.le_of_lt hj) y3.1 (by omega) (by decide) y3.2
  have vv := v_vw_lt s.ok (Nat.le_of_lt hj) p w
  have pq : ∀ x, ((setQ c K P B p j x ∨ ∃ v, vwQ c K P B p j w v ∧ x = j * 524288 + v) ∨ x = j * 524288 + v_vw c K P B p j w) ↔ (setQ c K P B p j x ∨ ∃ v, vwQ c K P B p j (w + 1) v ∧ x = j * 524288 + v) := by
    intro x
    constructor
    · rintro ((z | ⟨v, z, e⟩) | z)
      · exact Or.inl z
      · exact Or.inr ⟨v, (vwQ_succ c K P B p j w v).mp (Or.inl z), e⟩
      · exact Or.inr ⟨_, (vwQ_succ c K P B p j w _).mp (Or.inr rfl), z⟩
    · rintro (z | ⟨v, z, e⟩)
      · exact Or.inl (Or.inl z)
      · rcases (vwQ_succ c K P B p j w v).mpr z with y | y
        · exact Or.inl (Or.inr ⟨v, y, e⟩)
        · exact Or.inr (by rw [e, y])
  show ∃ h2 M2 G2, sW c K P B h hW h2 p j F A (w + 1) M2 G2 ∧ _
  generalize hV' : v_vw c K P B p j w = V at *
  have yA1 := yQ.y f
  have yAV := yA1.y fV
  have LV : yL h hV A M G := L.y yA1.2.1 fV (fun _ z => z)
  have fW := f.trans fV (fun _ z => z.elim)
  obtain ⟨a, _, b2, b3, b4, b5⟩ := so_sets_at yAV LV (by omega) vv.2 H4 (M - F) F (by omega) (Nat.le_refl _)
  have AX : h.2.2.1 ≤ A ∧ (hW.2.1 A = 4101 ∨ hW.2.1 A = 106) := ⟨hA, Or.inl yQ.2.2⟩
  have yrb := yr.y f co
  -- up to the place
  have go : ∀ R, XX true 16 107 105 [.ref 153, .int (nI p), rf (A), .int (nI M), .int (nI j), .int (nI F), rf (r), .int (nI (v_ways c K B j)), .int (nI w), ax_junk, .int (nI V), .int (nI a), ax_junk] [] (hV) (R) → XX true 16 107 53 [.ref 153, .int (nI p), rf (A), .int (nI M), .int (nI j), .int (nI F), rf (r), .int (nI (v_ways c K B j)), .int (nI w), ax_junk, ax_junk, ax_junk, ax_junk] [] (h1) (R) := by
    intro R x
    refine wb_X12_sets_53 ?_
    rw [if_pos (nI_lt hw (by omega)), ix_nI (by omega), yrb.1.g, y1]
    refine ⟨_, yrb.1.d, in_nI hw (by omega), r1, rfl, ?_⟩
    have xV' : XX true 3 81 0 [.ref 153, .int (nI p), rf (r1), .int (nI j), ax_junk, ax_junk, ax_junk] [] (h1) (some (.int (nI V)), hV) := by rw [← hV']; exact xV
    refine cl_X12_sets_73 rfl (by decide) (xV') ?_
    refine wb_X12_sets_76 ?_
    exact b5 _ _ _ _ _ x
  by_cases q : a < M ∧ G a = j * 524288 + V
  · obtain ⟨r0, z1, z2, z3⟩ := LV a q.1
    have ne : r0 ≠ A := yA_ne z3.1 yAV
    have w0 : (h.2.2.1 ≤ r0 ∧ (hW.2.1 r0 = 4101 ∨ hW.2.1 r0 = 106)) ∨ hW.2.2.1 ≤ r0 := by
      by_cases z : r0 < hW.2.2.1
      · exact Or.inl ⟨z2, Or.inr ((fW.2.2.2.2.1 r0 z).symm.trans z3.1.2.2)⟩
      · exact Or.inr (by omega)
    refine ⟨ax_wr hV r0 2 (.int (gI hV r0 2 + nI 1)), M, G, ⟨(fW.wr w0).mono (fun _ z => z) (by omega), fun t ht => ?_, en.congr (fun x => ?_), H1, by omega, H3, H4⟩, fun R x => go R ?_⟩
    · obtain ⟨r', x1, x2, x3⟩ := LV t ht
      exact ⟨r', (wr_Ra (fun z => ne z.symm)).trans x1, x2, x3.1.wr _ _ _, (wr_Ij (by decide)).trans x3.2.1, (wr_Ij (by decide)).trans x3.2.2⟩
    · rw [← pq x]
      exact ⟨Or.inl, fun z => z.elim id (fun z => by rw [z, ← q.2]; exact en.2.1 a q.1)⟩
    · refine wb_X12_sets_105 ?_
      rw [if_pos (nI_lt q.1 (by omega)), ix_nI (by omega), yAV.g, z1, show ix (nI 1) = 1 from rfl, show ix (nI 2) = 2 from rfl]
      refine ⟨_, yAV.d, in_nI (by omega) (by decide), r0, rfl, _, z3.1.d, by decide, ?_⟩
      rw [z3.1.g, z3.2.2, if_pos (by rw [q.2]; congr 1; omega)]
      refine ⟨_, yAV.d, in_nI (by omega) (by decide), r0, rfl, _, z3.1.d, by decide, _, z3.1.d, by decide, z3.1.w _, ?_⟩
      refine wb_X12_sets_189 ?_
      rw [nI_s]
      exact x
  · have lo : ∀ t, t < a → G t < j * 524288 + V := fun t ht => by
      by_cases z : t < F
      · exact Nat.lt_of_lt_of_le (H3 t z) (Nat.le_add_right _ _)
      · exact b3 t (by omega) ht
    have ia : insA G M (j * 524288 + V) a := by
      refine ⟨b2, fun t ht at' => ?_, ?_⟩
      · have g1 := b4 (by omega)
        have g2 : G a ≠ j * 524288 + V := fun z => q ⟨by omega, z⟩
        by_cases z : t = a
        · rw [z]; omega
        · have := en.1 a t (by omega) ht; omega
      · by_cases z : a = 0
        · exact Or.inl z
        · exact Or.inr (Nat.le_of_lt (lo (a - 1) (by omega)))
    have qa : a = 0 ∨ G (a - 1) ≠ j * 524288 + V := by
      by_cases z : a = 0
      · exact Or.inl z
      · have := lo (a - 1) (by omega)
        exact Or.inr (by omega)
    obtain ⟨h4, f4, o1, o2, o3⟩ := so_sets_sh yAV (a := a) (M := M) (by omega) (fun t ht => by
      obtain ⟨r', x1, _, x3⟩ := LV t ht
      exact ⟨r', x1, x3.1⟩) (M - a) M (by omega) (Nat.le_refl _) hV (fy.rf _ _) (fun _ _ => rfl) (fun t h1 h2 => by omega)
    have al4 : 168 ≤ h4.2.2.1 := Nat.le_trans (s1.y fV (fun _ z => z.elim)).al f4.1
    have yN : yA (mkI h4 3) h4.2.2.1 3 := yA.new al4 _
    have A4 : A < h4.2.2.1 := (yAV.y f4).2.1
    have nA : h4.2.2.1 ≠ A := by omega
    let h5 := ax_wr (ax_wr (ax_wr (ax_wr (mkI h4 3) h4.2.2.1 0 (.int (nI j))) h4.2.2.1 1 (.int (nI V))) h4.2.2.1 2 (.int (nI 1))) A a (rf h4.2.2.1)
    have f5 : fy 4 (fun b => b = A) h4 h5 := ((((((fy.rf (fun b => b = A) h4).mk).wr (Or.inr (Nat.le_refl _))).wr (Or.inr (Nat.le_refl _))).wr (Or.inr (Nat.le_refl _))).wr (Or.inl rfl)).mono (fun _ z => z) (by decide)
    have f6 : fy (0 + 4) (fun b => b = A) hV h5 := f4.trans f5 (fun _ z => Or.inl z)
    have old : ∀ t t', t < M → hR h5 A t' = hR hV A t → ∃ r, hR h5 A t' = rf r ∧ h.2.2.1 ≤ r ∧ yS h5 r (G t) := fun t t' ht e => by
      obtain ⟨r', x1, x2, x3⟩ := LV t ht
      exact ⟨r', e.trans x1, x2, x3.y f6 (yA_ne x3.1 yAV)⟩
    have e5 : ∀ t, t ≠ a → hR h5 A t = hR h4 A t := fun t ht => by
      show hR (ax_wr _ A a _) A t = _
      rw [wr_Rj ht, wr_Ra (fun z => nA z.symm), wr_Ra (fun z => nA z.symm), wr_Ra (fun z => nA z.symm)]
      show toR (if A = h4.2.2.1 then _ else h4.1 A t) = _
      rw [if_neg (fun z => nA z.symm)]
      rfl
    refine ⟨h5, M + 1, insF G (j * 524288 + V) a, ⟨(fW.trans f6 (fun b z => by rw [z]; exact Or.inl AX)).mono (fun _ z => z) (by omega), fun t ht => ?_, (en.ins ia qa).congr pq, by omega, by omega, fun t ht => ?_, fun t h1 h2 => ?_⟩, fun R x => go R ?_⟩
    · unfold insF
      by_cases t1 : t < a
      · rw [if_pos t1]
        exact old t t (by omega) ((e5 t (by omega)).trans (o1 t t1))
      · rw [if_neg t1]
        by_cases t2 : t = a
        · rw [if_pos t2]
          refine ⟨h4.2.2.1, ?_, Nat.le_trans (by have := f.1; have := yr.2.1; have := yQ.2.1; omega) (Nat.le_of_lt A4), ⟨yN.1, yN.2.1, yN.2.2⟩, ?_, ?_⟩
          · rw [t2]
            exact (wr_R _ _ _ _).trans (toR_rf _)
          · show hI (ax_wr _ A a _) h4.2.2.1 0 = _
            rw [wr_Ia nA, wr_Ij (by decide), wr_Ij (by decide), wr_I]
            congr 1; omega
          · show hI (ax_wr _ A a _) h4.2.2.1 1 = _
            rw [wr_Ia nA, wr_Ij (by decide), wr_I]
            congr 1; omega
        · rw [if_neg t2]
          exact old (t - 1) t (by omega) ((e5 t t2).trans (o2 t (by omega) (by omega)))
    · have : t < a := by omega
      unfold insF
      rw [if_pos this]
      exact H3 t ht
    · unfold insF
      by_cases t1 : t < a
      · rw [if_pos t1]
        exact H4 t h1 (by omega)
      · rw [if_neg t1]
        by_cases t2 : t = a
        · rw [if_pos t2]; omega
        · rw [if_neg t2]
          exact H4 (t - 1) (by omega) (by omega)
    · have x138 : XX true 16 107 138 [.ref 153, .int (nI p), rf (A), .int (nI M), .int (nI j), .int (nI F), rf (r), .int (nI (v_ways c K B j)), .int (nI w), ax_junk, .int (nI V), .int (nI a), .int (nI a)] [] (h4) (R) := by
        refine wb_X12_sets_138 ?_
        rw [if_pos (Int32.le_refl _), show ix (nI 3) = 3 from rfl, show ix (nI 0) = 0 from rfl, show ix (nI 1) = 1 from rfl, show ix (nI 2) = 2 from rfl, ix_nI (show a < 2 ^ 31 by omega), nI_s]
        refine ⟨⟨al4, by decide, by decide⟩, _, yN.d, by decide, yN.w _, _, (yN.wr _ _ _).d, by decide, yN.w _, _, ((yN.wr _ _ _).wr _ _ _).d, by decide, yN.w _, _, ?_, in_nI (show a < 2000 by omega) (by decide), yAV.w _, (((yN.wr _ _ _).wr _ _ _).wr _ _ _).c, ?_⟩
        · exact ((((yAV.y f4).y ((fy.rf (fun _ => False) h4).mk (c := ax_dcd 20 3) (len := 3) (g := fun _ => .int 0))).wr _ _ _).wr _ _ _).wr _ _ _ |>.d
        · refine wb_X12_sets_189 ?_
          rw [nI_s]
          exact x
      refine wb_X12_sets_105 ?_
      by_cases z : a < M
      · obtain ⟨r0, z1, z2, z3⟩ := LV a z
        have gj := H4 a (by omega) z
        have ne : G a ≠ j * 524288 + V := fun y => q ⟨z, y⟩
        rw [if_pos (nI_lt z (by omega)), ix_nI (by omega), yAV.g, z1, show ix (nI 1) = 1 from rfl, show ix (nI 2) = 2 from rfl]
        refine ⟨_, yAV.d, in_nI (by omega) (by decide), r0, rfl, _, z3.1.d, by decide, ?_⟩
        rw [z3.1.g, z3.2.2, if_neg (fun y => by have := (nI_eq (by omega) (by omega)).mp y; omega)]
        refine wb_X12_sets_135 ?_
        exact o3 _ _ _ _ _ _ _ _ _ x138
      · rw [if_neg (nI_nlt (by omega) (by omega))]
        refine wb_X12_sets_135 ?_
        exact o3 _ _ _ _ _ _ _ _ _ x138
def v_kS (c : Nat) (K B : Nat → Nat) : Nat → Nat
  | 0 => 0
  | j + 1 => v_kS c K B j + (1629 + 19 * v_ways c K B j)
theorem v_kS_le (s : okS c n K P B) : ∀ j, j ≤ n → v_kS c K B j ≤ 1629 * j + 19 * v_cB j
  | 0, _ => Nat.zero_le _
  | j + 1, hj => by
    have h6 := s.2.2.1
    have ih := v_kS_le s j (by omega)
    have h1 := v_ways_b s (j := j) (by omega) (by omega)
    have h2 := v_wc j (by omega)
    show v_kS c K B j + (1629 + 19 * v_ways c K B j) ≤ _
    omega
/-- the sets of a player, in their order -/
def ySs (c n : Nat) (K P B : Nat → Nat) (p : Nat) (h0 h : AH) (r : Nat) : Prop := yM h r (v_sM c n K P B p) ∧ h0.2.2.1 ≤ r ∧ yL h0 h r (v_sM c n K P B p) (v_sets c n K P B p).2
theorem so_sets (s : oS c n K P B h) {p : Nat} (hp : p < 3) : ∃ h' r, XX true 16 107 0 [.ref 153, .int (nI p), ax_junk, ax_junk, ax_junk, ax_junk, ax_junk, ax_junk, ax_junk, ax_junk, ax_junk, ax_junk, ax_junk] [] (h) (some (rf (r)), h') ∧ fy 28000 (fun _ => False) h h' ∧ ySs c n K P B p h h' r := by
  have n6 := s.n6
  have al := s.al
  have f1 : fy 2001 (fun _ => False) h (mkR h 2000) := (fy.rf _ h).mk.mono (fun _ z => z) (by decide)
  have a1 : yM (mkR h 2000) h.2.2.1 2000 := yM.new al _
  -- the ways of a stage
  have wl : ∀ {hW : AH} {j F r : Nat}, j < n → oS c n K P B hW → yM hW h.2.2.1 2000 → yWs c K B h hW r j → F + v_ways c K B j ≤ 806 → ∀ m w h1 M G, w + m = v_ways c K B j → sW c K P B h hW h1 p j F h.2.2.1 w M G → ∃ h2 M2 G2, sW c K P B h hW h2 p j F h.2.2.1 (v_ways c K B j) M2 G2 ∧ ∀ R, XX true 16 107 195 [.ref 153, .int (nI p), rf (h.2.2.1), .int (nI M2), .int (nI j), ax_junk, ax_junk, ax_junk, ax_junk, ax_junk, ax_junk, ax_junk, ax_junk] [] (h2) (R) → XX true 16 107 53 [.ref 153, .int (nI p), rf (h.2.2.1), .int (nI M), .int (nI j), .int (nI F), rf (r), .int (nI (v_ways c K B j)), .int (nI w), ax_junk, ax_junk, ax_junk, ax_junk] [] (h1) (R) := by
    intro hW j F r hj sW' yW' yr hF m
    have wj := v_ways_le sW'.ok (Nat.le_of_lt hj)
    induction m with
    | zero =>
      intro w h1 M G hw H
      obtain rfl : w = v_ways c K B j := hw
      refine ⟨h1, M, G, H, fun R x => ?_⟩
      refine wb_X12_sets_53 ?_
      rw [if_neg (nI_nlt (Nat.le_refl _) (by omega))]
      exact x
    | succ m ih =>
      intro w h1 M G hw H
      obtain ⟨h2, M2, G2, H2, x2⟩ := so_sets_way hp hj sW' al (Nat.le_refl _) yW' yr (by omega) hF H
      obtain ⟨h3, M3, G3, H3, x3⟩ := ih (w + 1) h2 M2 G2 (by omega) H2
      exact ⟨h3, M3, G3, H3, fun R x => x2 R (x3 R x)⟩
  have out : ∀ m j, j + m = n → ∀ h1 M G, fy (2001 + v_kS c K B j) (fun _ => False) h h1 → yM h1 h.2.2.1 2000 → yL h h1 h.2.2.1 M G → enumS (setQ c K P B p j) M G → M ≤ setB c K P B p j → ∃ h2 M2 G2, fy (2001 + v_kS c K B n) (fun _ => False) h h2 ∧ yM h2 h.2.2.1 2000 ∧ yL h h2 h.2.2.1 M2 G2 ∧ enumS (setQ c K P B p n) M2 G2 ∧ M2 ≤ 806 ∧ ∀ R, XX true 16 107 12 [.ref 153, .int (nI p), rf (h.2.2.1), .int (nI M2), .int (nI n), ax_junk, ax_junk, ax_junk, ax_junk, ax_junk, ax_junk, ax_junk, ax_junk] [] (h2) (R) → XX true 16 107 12 [.ref 153, .int (nI p), rf (h.2.2.1), .int (nI M), .int (nI j), ax_junk, ax_junk, ax_junk, ax_junk, ax_junk, ax_junk, ax_junk, ax_junk] [] (h1) (R) := by
    intro m
    induction m with
    | zero =>
      intro j hj h1 M G f y L en hM
      obtain rfl : j = n := hj
      exact ⟨h1, M, G, f, y, L, en, Nat.le_trans hM (setB_le s.ok p), fun R x => x⟩
    | succ m ih =>
      intro j hj h1 M G f y L en hM
      have s1 : oS c n K P B h1 := s.y f (fun _ z => z.elim)
      have wj := v_ways_le s.ok (j := j) (by omega)
      have sb : setB c K P B p (j + 1) = setB c K P B p j + (if picks K P p j then v_ways c K B j else 0) := rfl
      have ks : v_kS c K B (j + 1) = v_kS c K B j + (1629 + 19 * v_ways c K B j) := rfl
      have s8 := Nat.le_trans (setB_le1 s.ok p (j + 1) (by omega)) (v_c8 (j + 1) (by omega))
      by_cases q : picks K P p j
      · rw [if_pos q] at sb
        obtain ⟨hW, r, xW, fW, yr⟩ := so_ways s1 (j := j) (by omega)
        have fh := f.trans fW (fun _ z => z.elim)
        have l1 := f.1
        have yr' : yWs c K B h hW r j := ⟨yr.1, Nat.le_trans l1 yr.2.1, fun w hw => by
          obtain ⟨a, z1, z2, z3⟩ := yr.2.2 w hw
          exact ⟨a, z1, Nat.le_trans l1 z2, z3⟩⟩
        obtain ⟨h2, M2, G2, H2, x2⟩ := wl (hW := hW) (j := j) (F := M) (r := r) (by omega) (s1.y fW (fun _ z => z.elim)) (y.y fW) yr' (by omega) (v_ways c K B j) 0 hW M G (Nat.zero_add _) ⟨fy.rf _ _, L.y y.2.1 fW (fun _ z => z), en.congr (fun x => ⟨Or.inl, fun z => z.elim id (fun ⟨v, ⟨w, hw, _⟩, _⟩ => absurd hw (Nat.not_lt_zero _))⟩), Nat.le_refl _, Nat.le_refl _, fun t ht => setQ_lt s.ok (by omega) (en.2.1 t ht), fun t h1 h2 => by omega⟩
        obtain ⟨f2, L2, en2, c1, c2, c3, c4⟩ := H2
        have fz := fh.trans f2 (fun a z => Or.inr z.1)
        obtain ⟨h3, M3, G3, b1, b2, b3, b4, b5, b6⟩ := ih (j + 1) (by omega) h2 M2 G2 (fz.mono (fun _ z => z) (by omega)) ((y.y fW).y f2) L2 (en2.congr (setQ_more q)) (by omega)
        refine ⟨h3, M3, G3, b1, b2, b3, b4, b5, fun R x => ?_⟩
        refine wb_X12_sets_12 ?_
        rw [s1.nn, if_pos (nI_lt (by omega) (by omega))]
        refine cl_X12_sets_25 rfl (by decide) (so_chooses s1 (i := j) (by omega) hp) ?_
        refine wb_X12_sets_28 ?_
        rw [b2i_t q, if_neg (by decide)]
        refine cl_X12_sets_40 rfl (by decide) (xW) ?_
        refine wb_X12_sets_43 ?_
        refine ⟨_, yr.1.d, x2 R ?_⟩
        refine wb_X12_sets_195 ?_
        rw [nI_s]
        exact b6 R x
      · rw [if_neg q] at sb
        obtain ⟨h3, M3, G3, b1, b2, b3, b4, b5, b6⟩ := ih (j + 1) (by omega) h1 M G (f.mono (fun _ z => z) (by omega)) y L (en.congr (setQ_skip q)) (by omega)
        refine ⟨h3, M3, G3, b1, b2, b3, b4, b5, fun R x => ?_⟩
        refine wb_X12_sets_12 ?_
        rw [s1.nn, if_pos (nI_lt (by omega) (by omega))]
        refine cl_X12_sets_25 rfl (by decide) (so_chooses s1 (i := j) (by omega) hp) ?_
        refine wb_X12_sets_28 ?_
        rw [b2i_f q, if_pos rfl]
        refine wb_X12_sets_195 ?_
        rw [nI_s]
        exact b6 R x
  obtain ⟨h2, M, G, f2, y2, L2, en2, M8, x2⟩ := out n 0 (Nat.zero_add _) (mkR h 2000) 0 id f1 a1 (fun t ht => absurd ht (Nat.not_lt_zero _)) (enumS.nil _ (fun x ⟨j, v, hj, _⟩ => Nat.not_lt_zero _ hj)) (Nat.zero_le _)
  obtain ⟨eM, eG⟩ := en2.eq (v_sets_ok s.ok p).2
  have kl := v_kS_le s.ok n (Nat.le_refl _)
  have c8 := v_c8 n n6
  -- just so many
  have al2 : 168 ≤ h2.2.2.1 := Nat.le_trans al f2.1
  have fm : fy (0 + (M + 1)) (fun _ => False) h2 (mkR h2 M) := (fy.rf _ h2).mk
  have m5 : yM (mkR h2 M) h2.2.2.1 M := yM.new al2 _
  have a5 := y2.y fm
  have lp : ∀ m w, w + m = M → ∀ h1, fy 0 (fun a => a = h2.2.2.1) (mkR h2 M) h1 → (∀ v, v < w → hR h1 h2.2.2.1 v = hR h2 h.2.2.1 v) → ∃ h', XX true 16 107 210 [ax_junk, ax_junk, rf (h.2.2.1), .int (nI M), rf (h2.2.2.1), .int (nI w), ax_junk, ax_junk, ax_junk, ax_junk, ax_junk, ax_junk, ax_junk] [] (h1) ((some (rf h2.2.2.1), h')) ∧ fy 0 (fun a => a = h2.2.2.1) (mkR h2 M) h' ∧ ∀ v, v < M → hR h' h2.2.2.1 v = hR h2 h.2.2.1 v := by
    intro m
    induction m with
    | zero =>
      intro w hw h1 f o
      obtain rfl : w = M := hw
      refine ⟨h1, ?_, f, o⟩
      refine wb_X12_sets_210 ?_
      rw [if_neg (nI_nlt (Nat.le_refl _) (by omega))]
    | succ m ih =>
      intro w hw h1 f o
      obtain ⟨r, z1, z2, z3⟩ := L2 w (by omega)
      have ne : h.2.2.1 ≠ h2.2.2.1 := Nat.ne_of_lt y2.2.1
      have e : hR h1 h.2.2.1 w = rf r := by
        rw [f.R a5.2.1 ne, fm.R y2.2.1 (fun z => z)]
        exact z1
      obtain ⟨h', x, y⟩ := ih (w + 1) (by omega) (ax_wr h1 h2.2.2.1 w (rf r)) (f.wr (Or.inl rfl)) (fun v hv => by
        by_cases z : v = w
        · rw [z, wr_R, toR_rf, z1]
        · rw [wr_Rj z]; exact o v (by omega))
      refine ⟨h', ?_, y⟩
      refine wb_X12_sets_210 ?_
      rw [if_pos (nI_lt (by omega) (by omega)), ix_nI (by omega), (a5.y f).g, e]
      refine ⟨_, (a5.y f).d, in_nI (by omega) (by decide), r, rfl, _, (m5.y f).d, in_nI (by omega) (by omega), (m5.y f).w _, ((z3.1.y fm).y f).c, ?_⟩
      rw [nI_s]
      exact x
  obtain ⟨h', x, f6, o⟩ := lp M 0 (by omega) _ (fy.rf _ _) (fun v hv => absurd hv (Nat.not_lt_zero _))
  have f7 := (f2.trans fm (fun _ z => z.elim)).trans f6 (fun a z => by
    have := f2.1
    right; rw [z]; exact this)
  refine ⟨h', h2.2.2.1, ?_, f7.mono (fun _ z => z) (by omega), ?_, f2.1, fun t ht => ?_⟩
  · refine wb_X12_sets_0 ?_
    rw [show ix (nI 2000) = 2000 from ix_nI (by decide)]
    refine ⟨⟨al, by decide, by decide⟩, x2 _ ?_⟩
    refine wb_X12_sets_12 ?_
    rw [(s.y f2 (fun _ z => z.elim)).nn, if_neg (nI_nlt (Nat.le_refl _) (by omega)), ix_nI (by omega)]
    exact ⟨⟨al2, nI_le (Nat.zero_le _) (by omega), by omega⟩, x⟩
  · have := m5.y f6
    rw [eM] at this
    exact this
  · have ht' : t < M := by rw [eM]; exact ht
    obtain ⟨r, z1, z2, z3⟩ := L2 t ht'
    have rl := z3.1.2.1
    rw [eG t ht'] at z3
    exact ⟨r, (o t ht').trans z1, z2, (z3.y fm (fun z => z)).y f6 (by omega)⟩
end S86
