/-! THE CLASS'S CALLS: what hands hold -/
def cHd (hs hk : Nat → Nat) (hU : Nat → Nat → Nat → Nat) (hW : Nat → Nat → Int) (hv : Nat → Int64) (HS : Nat → Nat) (HA : Nat → Nat → Nat) (h : AH) : Prop := ∀ q, q < 4 → hI h 149 q = nI (hs q) ∧ hs q < 4 ∧ hR h 150 q = rf (if hs q = 1 then HS q else 9) ∧ hR h 151 q = rf (if hs q = 2 then HA q (hk q) else 9) ∧ (hs q = 1 → hk q < 8 ∧ ∃ p b, sO h (HS q) (hk q) p b) ∧ (hs q = 2 → cAm h (hk q + 1) (hU q) (hW q) (HA q)) ∧ (hs q = 3 → hL h 152 q = hv q)
abbrev cfHd : List (Nat × Option Nat) := [(149, none), (150, none), (151, none), (152, none)]
theorem cHd_fx {k0 : Nat} {hs hk : Nat → Nat} {hU : Nat → Nat → Nat → Nat} {hW : Nat → Nat → Int} {hv : Nat → Int64} {HS : Nat → Nat} {HA : Nat → Nat → Nat} {h h' : AH} (s : cHd hs hk hU hW hv HS HA h) {L : List (Nat × Option Nat)} (f : fx k0 L h h') (al : 181 ≤ h.2.2.1) (q : outS 149 153 L = true) (q2 : loS L = true) : cHd hs hk hU hW hv HS HA h' := fun a ha => by
  obtain ⟨g1, g2, g3, g4, g5, g6, g7⟩ := s a ha
  exact ⟨(f.I (by omega) (outS_in q (by omega) (by omega) _)).trans g1, g2, (f.R (by omega) (outS_in q (by omega) (by omega) _)).trans g3, (f.R (by omega) (outS_in q (by omega) (by omega) _)).trans g4, fun z => ⟨(g5 z).1, (g5 z).2.elim fun p x => x.elim fun b y => ⟨p, b, sO_fx y f q2⟩⟩, fun z => cAm_fx (g6 z) f q2, fun z => (f.L (by omega) (outS_in q (by omega) (by omega) _)).trans (g7 z)⟩
theorem cAm_cut {h : AH} {m m' : Nat} {U : Nat → Nat → Nat} {V : Nat → Int} {AA : Nat → Nat} (s : cAm h m U V AA) (hm : m' ≤ m) : cAm h m' U V AA := ⟨⟨Nat.le_trans hm s.1.1, fun i hi => s.1.2 i (by omega)⟩, fun i hi => s.2 i (by omega)⟩
theorem lN_32 : ∀ n, n < 100 → (lN n).toInt32 = nI n := by decide +kernel
theorem lt_pred {n : Nat} (hn : n < 100) (v : Int64) : v < (nI n).toInt64 ↔ v ≤ (nI n - nI 1).toInt64 := by
  have e1 : ∀ n, n < 100 → (nI n - nI 1).toInt64.toInt = (n : Int) - 1 := by decide +kernel
  have e2 : ∀ n, n < 100 → (nI n).toInt64.toInt = (n : Int) := by decide +kernel
  rw [Int64.lt_iff_toInt_lt, Int64.le_iff_toInt_le, e1 n hn, e2 n hn]
  omega
section S76
variable {c n np nr : Nat} {K P B S T C TA AA : Nat → Nat} {U : Nat → Nat → Nat} {V W : Nat → Int} {hs hk : Nat → Nat} {hU : Nat → Nat → Nat → Nat} {hW : Nat → Nat → Int} {hv : Nat → Int64} {HS : Nat → Nat} {HA : Nat → Nat → Nat} {h h' : AH}
theorem cp_isHand (p : Int32) (h : AH) : XX true 1 143 0 [.int (p)] [] (h) (some (.int (b2i (isLe 3 p))), h) := by
  have e : p < nI 4 ↔ p ≤ nI 3 := by
    rw [Int32.lt_iff_toInt_lt, Int32.le_iff_toInt_le, show (nI 4).toInt = 4 by decide, show (nI 3).toInt = 3 by decide]
    omega
  refine wb_X11_isHand_0 ?_
  by_cases q : p < nI 0
  · rw [if_pos q, b2i_f (fun z => absurd z.1 (Int32.not_le.mpr q))]
  · rw [if_neg q]
    by_cases r : p < nI 4
    · rw [if_pos r, b2i_t ⟨Int32.not_lt.mp q, e.mp r⟩]
    · rw [if_neg r, b2i_f (fun z => r (e.mpr z.2))]
theorem co_hold (s : tS 0 c n K P B S h) (r : cR 0 nr U V TA AA h) (m : cHd hs hk hU hW hv HS HA h) (q t : Int32) (v : Int64) : (holdOk n nr q t v → ∃ h' HS', XX true 2 142 0 [.ref 64, .int (q), .int (t), .long (v), ax_junk, ax_junk] [] (h) (some (.int (a_hold n nr hs q t v)), h') ∧ fr cfHd h h' ∧ cHd (updN hs (ix q) (ix t)) (updN hk (ix q) (hkN K t v)) (updN hU (ix q) U) (updN hW (ix q) V) (updN hv (ix q) v) HS' (updN HA (ix q) AA) h') ∧ (¬ holdOk n nr q t v → XX true 2 142 0 [.ref 64, .int (q), .int (t), .long (v), ax_junk, ax_junk] [] (h) (some (.int (a_hold n nr hs q t v)), h)) := by
  have h6 := s.n6
  have al := s.al
  have h8 := r.2.1.1.1
  have cm : ∀ x y : Int64, (lg_cmp x y < nI 0) ↔ x < y := lg_lt0
  have p49 : ∀ R, isLe 3 q → isLe 3 t → (t = nI 1 → isLtL n v) → (¬ holdOk n nr q t v → R = (some (.int (-nI 2)), h)) → (holdOk n nr q t v → XX true 2 142 76 [.ref 64, .int (q), .int (t), .long (v), ax_junk, ax_junk] [] (h) (R)) → XX true 2 142 49 [.ref 64, .int (q), .int (t), .long (v), ax_junk, ax_junk] [] (h) (R) := by
    intro R y1 y2 y3 u1 u2
    refine wb_X11_hold_49 ?_
    by_cases y4 : t = nI 2
    · rw [if_pos y4, r.1]
      by_cases y5 : v < lN 0
      · rw [if_pos ((cm _ _).mpr y5)]
        exact u1 (fun z => absurd (z.2.2.2 y4).1 (Int64.not_le.mpr y5))
      · rw [if_neg (fun z => y5 ((cm _ _).mp z))]
        by_cases y6 : v < (nI nr).toInt64
        · rw [if_pos ((cm _ _).mpr y6)]
          exact u2 ⟨y1, y2, y3, fun _ => ⟨Int64.not_lt.mp y5, (lt_pred (by omega) v).mp y6⟩⟩
        · rw [if_neg (fun z => y6 ((cm _ _).mp z))]
          exact u1 (fun z => y6 ((lt_pred (by omega) v).mpr (z.2.2.2 y4).2))
    · rw [if_neg y4]
      exact u2 ⟨y1, y2, y3, fun z => absurd z y4⟩
  have pre : ∀ R, (¬ holdOk n nr q t v → R = (some (.int (-nI 2)), h)) → (holdOk n nr q t v → XX true 2 142 76 [.ref 64, .int (q), .int (t), .long (v), ax_junk, ax_junk] [] (h) (R)) → XX true 2 142 0 [.ref 64, .int (q), .int (t), .long (v), ax_junk, ax_junk] [] (h) (R) := by
    intro R u1 u2
    refine wb_X11_hold_0 ?_
    refine cl_X11_hold_1 rfl (by decide) (cp_isHand _ _) ?_
    refine wb_X11_hold_4 ?_
    by_cases y1 : isLe 3 q
    · rw [b2i_t y1, if_neg (by decide)]
      by_cases w1 : t < nI 0
      · rw [if_pos w1]
        exact u1 (fun z => absurd z.2.1.1 (Int32.not_le.mpr w1))
      · rw [if_neg w1]
        by_cases w2 : t ≤ nI 3
        · rw [if_pos w2]
          have y2 : isLe 3 t := ⟨Int32.not_lt.mp w1, w2⟩
          by_cases y4 : t = nI 1
          · rw [if_pos y4, s.nn]
            by_cases y5 : v < lN 0
            · rw [if_pos ((cm _ _).mpr y5)]
              exact u1 (fun z => absurd (z.2.2.1 y4).1 (Int64.not_le.mpr y5))
            · rw [if_neg (fun z => y5 ((cm _ _).mp z))]
              by_cases y6 : v < (nI n).toInt64
              · rw [if_pos ((cm _ _).mpr y6)]
                exact p49 R y1 y2 (fun _ => ⟨Int64.not_lt.mp y5, (lt_pred (by omega) v).mp y6⟩) u1 u2
              · rw [if_neg (fun z => y6 ((cm _ _).mp z))]
                exact u1 (fun z => y6 ((lt_pred (by omega) v).mpr (z.2.2.1 y4).2))
          · rw [if_neg y4]
            exact p49 R y1 y2 (fun z => absurd z y4) u1 u2
        · rw [if_neg w2]
          exact u1 (fun z => w2 z.2.1.2)
    · rw [b2i_f y1, if_pos rfl]
      exact u1 (fun z => y1 z.1)
  constructor
  · intro ok
    obtain ⟨y1, y2, y3, y4⟩ := id ok
    obtain ⟨q', hq, rfl⟩ := y1.ex (by decide)
    obtain ⟨t', ht, rfl⟩ := y2.ex (by decide)
    have eq : ix (nI q') = q' := ix_nI (by omega)
    have et : ix (nI t') = t' := ix_nI (by omega)
    have g := m q' (by omega)
    have inq : ax_in (nI q') 4 = true := in_nI (by omega) (by decide)
    have n1 : nI t' = nI 1 ↔ t' = 1 := ⟨(nI_eq (by omega) (by omega)).mp, congrArg nI⟩
    have n2 : nI t' = nI 2 ↔ t' = 2 := ⟨(nI_eq (by omega) (by omega)).mp, congrArg nI⟩
    have n3 : nI t' = nI 3 ↔ t' = 3 := ⟨(nI_eq (by omega) (by omega)).mp, congrArg nI⟩
    have eA : a_hold n nr hs (nI q') (nI t') v = nI (hs q') := by
      unfold a_hold
      rw [if_pos ok, eq]
    rw [eA, eq, et]
    have fin : ∀ (HS' : Nat → Nat) (sb ab : Nat) (w : Int64) (h' : AH), h' = ax_wr (ax_wr (ax_wr (ax_wr h 149 q' (.int (nI t'))) 150 q' (rf sb)) 151 q' (rf ab)) 152 q' (.long w) → sb = (if t' = 1 then HS' q' else 9) → ab = (if t' = 2 then AA (hkN K (nI t') v) else 9) → (∀ a, a ≠ q' → HS' a = HS a) → (t' = 1 → hkN K (nI t') v < 8 ∧ ∃ p b, sO h (HS' q') (hkN K (nI t') v) p b) → (t' = 2 → hkN K (nI t') v < nr) → (t' = 3 → w = v) → fr cfHd h h' ∧ cHd (updN hs q' t') (updN hk q' (hkN K (nI t') v)) (updN hU q' U) (updN hW q' V) (updN hv q' v) HS' (updN HA q' AA) h' := by
      intro HS' sb ab w h' e x1 x2 x3 x4 x5 x6
      have f : fr cfHd h h' := by
        rw [e]
        exact (((fr.wr rfl).wr' rfl).wr' rfl).wr' rfl
      refine ⟨f, fun a ha => ?_⟩
      by_cases z : a = q'
      · subst z
        rw [updN_s, updN_s, updN_s, updN_s, updN_s, updN_s]
        refine ⟨?_, by omega, ?_, ?_, fun y => ⟨(x4 y).1, (x4 y).2.elim fun p x => x.elim fun b y => ⟨p, b, y.fr f rfl⟩⟩, fun y => cAm_fx (cAm_cut r.2.1 (x5 y)) f.fx rfl, fun y => ?_⟩
        · rw [e, wr_Ia (by decide), wr_Ia (by decide), wr_Ia (by decide), wr_I]
        · rw [e, wr_Ra (by decide), wr_Ra (by decide), wr_R, toR_rf, x1]
        · rw [e, wr_Ra (by decide), wr_R, toR_rf, x2]
        · rw [e, wr_L, x6 y]
      · rw [updN_o z, updN_o z, updN_o z, updN_o z, updN_o z, updN_o z, x3 a z]
        obtain ⟨g1, g2, g3, g4, g5, g6, g7⟩ := m a ha
        refine ⟨?_, g2, ?_, ?_, fun y => ⟨(g5 y).1, (g5 y).2.elim fun p x => x.elim fun b y => ⟨p, b, y.fr f rfl⟩⟩, fun y => cAm_fx (g6 y) f.fx rfl, fun y => ?_⟩
        · rw [e, wr_Ia (by decide), wr_Ia (by decide), wr_Ia (by decide), wr_Ij z]; exact g1
        · rw [e, wr_Ra (by decide), wr_Ra (by decide), wr_Rj z, wr_Ra (by decide)]; exact g3
        · rw [e, wr_Ra (by decide), wr_Rj z, wr_Ra (by decide), wr_Ra (by decide)]; exact g4
        · rw [e, wr_Ln (fun y => z y.2), wr_La (by decide), wr_La (by decide), wr_La (by decide)]; exact g7 y
    have w141 : ∀ ab h0, dE h0 ab 0 → ∃ w, (t' = 3 → w = v) ∧ XX true 2 142 141 [.ref 64, .int (nI q'), .int (nI t'), .long (v), ax_junk, .int (nI (hs q'))] [rf (ab), .int (nI q'), .ref 151] (h0) ((some (.int (nI (hs q'))), ax_wr (ax_wr h0 151 q' (rf ab)) 152 q' (.long w))) := by
      intro ab h0 d
      by_cases t3 : t' = 3
      · refine ⟨v, fun _ => rfl, ?_⟩
        refine wb_X11_hold_141 ?_
        rw [eq]
        refine ⟨inq, d, ?_⟩
        rw [if_pos (n3.mpr t3)]
        refine wb_X11_hold_157 ?_
        rw [eq]
        exact ⟨inq, rfl⟩
      · refine ⟨lN 0, fun z => absurd z t3, ?_⟩
        refine wb_X11_hold_141 ?_
        rw [eq]
        refine ⟨inq, d, ?_⟩
        rw [if_neg (fun z => t3 (n3.mp z))]
        refine wb_X11_hold_157 ?_
        rw [eq]
        exact ⟨inq, rfl⟩
    have w117 : ∀ sb h0, fr cfHd h h0 → dE h0 sb 6 → ∃ ab w, ab = (if t' = 2 then AA (hkN K (nI t') v) else 9) ∧ (t' = 3 → w = v) ∧ XX true 2 142 117 [.ref 64, .int (nI q'), .int (nI t'), .long (v), ax_junk, .int (nI (hs q'))] [rf (sb), .int (nI q'), .ref 150] (h0) ((some (.int (nI (hs q'))), ax_wr (ax_wr (ax_wr h0 150 q' (rf sb)) 151 q' (rf ab)) 152 q' (.long w))) := by
      intro sb h0 f0 d
      by_cases t2 : t' = 2
      · obtain ⟨k, hk, ev, ek⟩ := (y4 (n2.mpr t2)).ex (by omega)
        have e32 : v.toInt32 = nI k := by rw [ev]; exact lN_32 k (by omega)
        have f1 : fr cfHd h (ax_wr h0 150 q' (rf sb)) := f0.wr' rfl
        have g2 := sp_amountAt (cR_fx r f1.fx al (by decide) rfl rfl rfl) (nI k)
        rw [if_pos ((isLt_nI (by omega) (by omega)).mpr hk), ix_nI (by omega)] at g2
        have ao := (cAm_fx r.2.1 f1.fx rfl).2 k hk
        obtain ⟨w, w3, x⟩ := w141 (AA k) (ax_wr h0 150 q' (rf sb)) (Or.inr ⟨(dyn_dO ao.1 ao.2.1 ao.2.2.1).2.1, (dyn_dO ao.1 ao.2.1 ao.2.2.1).2.2⟩)
        refine ⟨AA k, w, ?_, w3, ?_⟩
        · rw [if_pos t2, hkN_2 (fun z => absurd (n1.mp z) (by omega)) (n2.mpr t2), ek]
        · refine wb_X11_hold_117 ?_
          rw [eq]
          refine ⟨inq, d, ?_⟩
          rw [if_pos (n2.mpr t2), e32]
          refine cl_X11_hold_134 rfl (by decide) (g2) ?_
          refine wb_X11_hold_137 ?_
          exact x
      · obtain ⟨w, w3, x⟩ := w141 9 (ax_wr h0 150 q' (rf sb)) (Or.inl rfl)
        refine ⟨9, w, by rw [if_neg t2], w3, ?_⟩
        refine wb_X11_hold_117 ?_
        rw [eq]
        refine ⟨inq, d, ?_⟩
        rw [if_neg (fun z => t2 (n2.mp z))]
        exact x
    have f1 : fr cfHd h (ax_wr h 149 q' (.int (nI t'))) := fr.wr rfl
    by_cases t1 : t' = 1
    · obtain ⟨k, hk, ev, ek⟩ := (y3 (n1.mpr t1)).ex (by omega)
      have e32 : v.toInt32 = nI k := by rw [ev]; exact lN_32 k (by omega)
      have so := (s.st k hk).2
      have so1 := so.fr f1 rfl
      obtain ⟨ab, w, x1, x2, x3⟩ := w117 (S k) _ f1 (Or.inr ⟨so1.o.2.1, so1.o.2.2⟩)
      have hN : hkN K (nI t') v = K k := by rw [hkN_1 (n1.mpr t1), ek]
      have tt : tS 0 c n K P B S (ax_wr h 149 q' (.int (nI t'))) := s.fr f1 rfl rfl
      refine ⟨_, updN HS q' (S k), pre _ (fun z => absurd ok z) (fun _ => ?_), fin (updN HS q' (S k)) (S k) ab w _ rfl (by rw [if_pos t1, updN_s]) x1 (fun a ha => updN_o ha) (fun _ => ?_) (fun z => absurd (t1.symm.trans z) (by decide)) x2⟩
      · refine wb_X11_hold_76 ?_
        rw [eq, g.1]
        refine ⟨inq, inq, ?_⟩
        rw [if_pos (n1.mpr t1), e32]
        refine cl_X11_hold_110 rfl (by decide) (sp_t_atN tt hk) ?_
        refine wb_X11_hold_113 ?_
        exact x3
      · rw [hN, updN_s]
        exact ⟨(s.kk hk).1, _, _, so⟩
    · obtain ⟨ab, w, x1, x2, x3⟩ := w117 9 _ f1 (Or.inl rfl)
      refine ⟨_, HS, pre _ (fun z => absurd ok z) (fun _ => ?_), fin HS 9 ab w _ rfl (by rw [if_neg t1]) x1 (fun a ha => rfl) (fun z => absurd z t1) (fun z => ?_) x2⟩
      · refine wb_X11_hold_76 ?_
        rw [eq, g.1]
        refine ⟨inq, inq, ?_⟩
        rw [if_neg (fun z => t1 (n1.mp z))]
        exact x3
      · obtain ⟨k, hk, ev, ek⟩ := (y4 (n2.mpr z)).ex (by omega)
        rw [hkN_2 (fun z => t1 (n1.mp z)) (n2.mpr z), ek]
        exact hk
  · intro ok
    unfold a_hold
    rw [if_neg ok]
    exact pre _ (fun _ => rfl) (fun z => absurd z ok)
theorem co_asStage (m : cHd hs hk hU hW hv HS HA h) (q a : Int32) : XX true 3 144 0 [.ref 64, .int (q), .int (a), ax_junk] [] (h) (some (.int (a_asStage hs hk q a)), h) := by
  unfold a_asStage
  refine wb_X11_asStage_0 ?_
  refine cl_X11_asStage_1 rfl (by decide) (cp_isHand _ _) ?_
  refine wb_X11_asStage_4 ?_
  by_cases y1 : isLe 3 q
  · rw [b2i_t y1, if_neg (by decide)]
    by_cases w1 : a < nI 0
    · rw [if_pos w1, if_neg (fun z => absurd z.2.1 (Int32.not_le.mpr w1))]
    · rw [if_neg w1]
      by_cases w2 : a ≤ nI 2
      · rw [if_pos w2, if_pos (show isLe 3 q ∧ isLe 2 a from ⟨y1, Int32.not_lt.mp w1, w2⟩)]
        obtain ⟨q', hq, rfl⟩ := y1.ex (by decide)
        obtain ⟨a', ha, rfl⟩ := nI_of3 (by decide) (Int32.not_lt.mp w1) w2
        have eq : ix (nI q') = q' := ix_nI (by omega)
        rw [eq]
        obtain ⟨g1, g2, g3, g4, g5, g6, g7⟩ := m q' (by omega)
        rw [g1]
        refine ⟨in_nI (by omega) (by decide), ?_⟩
        by_cases z0 : hs q' = 0
        · rw [if_pos (congrArg nI z0), if_pos z0]
        · rw [if_neg (nI_z (by omega) (by omega)), if_neg z0]
          refine ⟨in_nI (by omega) (by decide), _, g3, ?_⟩
          by_cases z1 : hs q' = 1
          · rw [if_pos z1]
            obtain ⟨k8, p, b, so⟩ := g5 z1
            have ek := so.k
            have kk := kO _ k8 h
            rw [if_neg so.n9]
            have w80 : ∀ R, R = (some (.int (nI (hk q'))), h) → XX true 3 144 80 [ax_junk, ax_junk, ax_junk, rf (HS q')] [] (h) (R) := by
              intro R u
              refine wb_X11_asStage_80 ?_
              refine ⟨so.o, _, ek, kk, ?_⟩
              rw [k_num _ k8]
              exact u
            have w62 : ∀ R, a' ≠ 0 → (a' = 2 → R = (some (.int (nI (hk q'))), h)) → (a' = 1 → isCha (hk q') → R = (some (.int (nI (hk q'))), h)) → (a' = 1 → ¬ isCha (hk q') → R = (some (.int (-nI 13)), h)) → XX true 3 144 62 [ax_junk, ax_junk, .int (nI a'), rf (HS q')] [] (h) (R) := by
              intro R u0 u1 u2 u3
              refine wb_X11_asStage_62 ?_
              by_cases a1 : a' = 1
              · rw [if_pos (congrArg nI a1)]
                refine ⟨so.o, _, ek, ?_⟩
                refine cl_X11_asStage_71 rfl (by decide) (sp_kChance k8 h) ?_
                refine ⟨kk, ?_⟩
                refine wb_X11_asStage_74 ?_
                by_cases c1 : isCha (hk q')
                · rw [b2i_t c1, if_neg (by decide)]
                  exact wkj (w80 _ (u2 a1 c1))
                · rw [b2i_f c1, if_pos rfl]
                  exact u3 a1 c1
              · rw [if_neg (fun z => a1 ((nI_eq (by omega) (by omega)).mp z))]
                exact wkj (w80 _ (u1 (by omega)))
            by_cases a0 : a' = 0
            · subst a0
              rw [if_pos rfl]
              refine ⟨so.o, _, ek, ?_⟩
              refine cl_X11_asStage_53 rfl (by decide) (sp_kChoice k8 h) ?_
              refine ⟨kk, ?_⟩
              refine wb_X11_asStage_56 ?_
              by_cases c1 : isChc (hk q')
              · rw [b2i_t c1, if_neg (by decide), if_pos ⟨z1, Or.inr (Or.inl ⟨rfl, c1⟩)⟩]
                refine wb_X11_asStage_62 ?_
                rw [if_neg (by decide)]
                exact wkj (w80 _ rfl)
              · rw [b2i_f c1, if_pos rfl, if_neg (fun w => w.2.elim (fun w => absurd w (by decide)) (fun w => w.elim (fun w => c1 w.2) (fun w => w.1 rfl)))]
            · rw [if_neg (fun z => a0 ((nI_eq (by omega) (by omega)).mp z))]
              refine wkj (w62 _ a0 (fun e => ?_) (fun e c1 => ?_) (fun e c1 => ?_))
              · rw [if_pos ⟨z1, Or.inl (congrArg nI e)⟩]
              · rw [if_pos ⟨z1, Or.inr (Or.inr ⟨fun z => a0 ((nI_eq (by omega) (by omega)).mp z), c1⟩)⟩]
              · rw [if_neg (fun w => w.2.elim (fun w => absurd ((nI_eq (by omega) (by omega)).mp w) (by omega)) (fun w => w.elim (fun w => a0 ((nI_eq (by omega) (by omega)).mp w.1)) (fun w => c1 w.2)))]
          · rw [if_neg z1, if_pos rfl, if_neg (fun w => z1 w.1)]
      · rw [if_neg w2, if_neg (fun z => w2 z.2.2)]
  · rw [b2i_f y1, if_pos rfl, if_neg (fun z => y1 z.1)]
theorem co_asAmount (s : tS 0 c n K P B S h) (w : cW 0 W h) (m : cHd hs hk hU hW hv HS HA h) (q k : Int32) : ∃ h', XX true 3 145 0 [.ref 64, .int (q), .int (k), ax_junk] [] (h) (some (.int (a_asAmount c n K B W hs hk hU hW q k)), h') ∧ fr [(86, none)] h h' := by
  have wl := v_ways_le s.ok (Nat.le_refl n)
  have al := s.al
  unfold a_asAmount
  by_cases y : isLe 3 q ∧ isLt (v_ways c K B n) k
  · rw [if_pos y]
    obtain ⟨y1, y2⟩ := y
    obtain ⟨q', hq, rfl⟩ := y1.ex (by decide)
    obtain ⟨b, hb, rfl⟩ := y2.ex (by omega)
    have eq : ix (nI q') = q' := ix_nI (by omega)
    have eb : ix (nI b) = b := ix_nI (by omega)
    rw [eq, eb]
    obtain ⟨g1, g2, g3, g4, g5, g6, g7⟩ := m q' (by omega)
    have pre : ∀ R, (hs q' = 0 → R = (some (.int (-nI 11)), h)) → (hs q' ≠ 0 → hs q' ≠ 2 → R = (some (.int (-nI 13)), h)) → (hs q' = 2 → HA q' (hk q') ≠ 9 → XX true 3 145 62 [.ref 64, ax_junk, ax_junk, rf (HA q' (hk q'))] [.int (nI n), .int (nI b), .ref 66] (h) (R)) → XX true 3 145 0 [.ref 64, .int (nI q'), .int (nI b), ax_junk] [] (h) (R) := by
      intro R u1 u2 u3
      refine wb_X11_asAmount_0 ?_
      refine cl_X11_asAmount_1 rfl (by decide) (cp_isHand _ _) ?_
      refine wb_X11_asAmount_4 ?_
      rw [b2i_t y1, if_neg (by decide)]
      refine cl_X11_asAmount_9 rfl (by decide) (cp_isWay s _) ?_
      refine wb_X11_asAmount_12 ?_
      rw [b2i_t y2, if_neg (by decide), eq, g1]
      refine ⟨in_nI (by omega) (by decide), ?_⟩
      by_cases z0 : hs q' = 0
      · rw [if_pos (congrArg nI z0)]
        exact u1 z0
      · rw [if_neg (nI_z (by omega) (by omega))]
        refine ⟨in_nI (by omega) (by decide), _, g4, ?_⟩
        by_cases z2 : hs q' = 2
        · rw [if_pos z2]
          have am := ((g6 z2).2 (hk q') (Nat.lt_succ_self _)).1
          rw [if_neg (by omega), s.nn]
          exact wkj (u3 z2 (by omega))
        · rw [if_neg z2, if_pos rfl]
          exact u2 z0 z2
    by_cases z0 : hs q' = 0
    · refine ⟨h, pre _ (fun _ => ?_) (fun z => absurd z0 z) (fun z => absurd (z0.symm.trans z) (by decide)), fr.rfl'⟩
      rw [if_pos z0]
    · by_cases z2 : hs q' = 2
      · obtain ⟨h1, r1, f, o⟩ := sp_t_go s (Nat.le_refl _) hb
        have s1 : tS 0 c n K P B S h1 := s.fr f rfl rfl
        have he : ∀ i, i < n → v_what c K B n b i < 5 := fun i hi => v_what_lt s.ok (Nat.le_refl _) b hi
        have am := cAm_fx (g6 z2) f.fx rfl
        have ao := am.2 (hk q') (Nat.lt_succ_self _)
        refine ⟨h1, pre _ (fun z => absurd z z0) (fun _ z => absurd z2 z) (fun _ _ => ?_), f⟩
        rw [if_neg z0, if_pos z2]
        refine cl_X11_asAmount_62 rfl (by decide) (r1) ?_
        refine wb_X11_asAmount_65 ?_
        refine cl_X11_asAmount_73 rfl (by decide) (sp_amCo s1 (cW_fx w f.fx al (by decide) (fun _ => rfl)) am o he (Nat.lt_succ_self _)) ?_
        refine ⟨dyn_dO ao.1 ao.2.1 ao.2.2.1, ?_⟩
        refine wb_X11_asAmount_76 ?_
        rfl
      · refine ⟨h, pre _ (fun z => absurd z z0) (fun _ _ => ?_) (fun z => absurd z z2), fr.rfl'⟩
        rw [if_neg z0, if_neg z2]
  · rw [if_neg y]
    refine ⟨h, ?_, fr.rfl'⟩
    refine wb_X11_asAmount_0 ?_
    refine cl_X11_asAmount_1 rfl (by decide) (cp_isHand _ _) ?_
    refine wb_X11_asAmount_4 ?_
    by_cases y1 : isLe 3 q
    · rw [b2i_t y1, if_neg (by decide)]
      refine cl_X11_asAmount_9 rfl (by decide) (cp_isWay s _) ?_
      refine wb_X11_asAmount_12 ?_
      rw [b2i_f (fun z => y ⟨y1, z⟩), if_pos rfl]
    · rw [b2i_f y1, if_pos rfl]
theorem co_asView (s : tS 0 c n K P B S h) (m : cHd hs hk hU hW hv HS HA h) (q p j : Int32) : ∃ h', XX true 4 146 0 [.ref 64, .int (q), .int (p), .int (j), ax_junk] [] (h) (some (.int (a_asView c n K P B hs hv q p j)), h') ∧ fr [(86, none)] h h' := by
  have h6 := s.n6
  unfold a_asView
  by_cases y : isLe 3 q ∧ isPl p ∧ isLe n j
  · rw [if_pos y]
    obtain ⟨y1, y2, y3⟩ := y
    obtain ⟨q', hq, rfl⟩ := y1.ex (by decide)
    obtain ⟨p', hp, rfl⟩ := y2.ex
    obtain ⟨j', hj, rfl⟩ := y3.ex (by omega)
    have eq : ix (nI q') = q' := ix_nI (by omega)
    have ep : ix (nI p') = p' := ix_nI (by omega)
    have ej : ix (nI j') = j' := ix_nI (by omega)
    rw [eq, ep, ej]
    obtain ⟨g1, g2, g3, g4, g5, g6, g7⟩ := m q' (by omega)
    have pre : ∀ R, (hs q' = 0 → R = (some (.int (-nI 11)), h)) → (hs q' ≠ 0 → hs q' ≠ 3 → R = (some (.int (-nI 13)), h)) → (hs q' = 3 → (hv q').toInt32.toInt64 ≠ hv q' → R = (some (.int (nI 0)), h)) → (hs q' = 3 → (hv q').toInt32.toInt64 = hv q' → XX true 4 146 83 [ax_junk, ax_junk, ax_junk, ax_junk, ax_junk] [.int ((hv q').toInt32), .int (nI j'), .int (nI p'), .ref 66] (h) (R)) → XX true 4 146 0 [.ref 64, .int (nI q'), .int (nI p'), .int (nI j'), ax_junk] [] (h) (R) := by
      intro R u1 u2 u3 u4
      refine wb_X11_asView_0 ?_
      refine cl_X11_asView_1 rfl (by decide) (cp_isHand _ _) ?_
      refine wb_X11_asView_4 ?_
      rw [b2i_t y1, if_neg (by decide)]
      refine cl_X11_asView_8 rfl (by decide) (cp_isPlayer _ _) ?_
      refine wb_X11_asView_11 ?_
      rw [b2i_t y2, if_neg (by decide)]
      refine cl_X11_asView_16 rfl (by decide) (cp_isPoint s _) ?_
      refine wb_X11_asView_19 ?_
      rw [b2i_t y3, if_neg (by decide), eq, g1]
      refine ⟨in_nI (by omega) (by decide), ?_⟩
      by_cases z0 : hs q' = 0
      · rw [if_pos (congrArg nI z0)]
        exact u1 z0
      · rw [if_neg (nI_z (by omega) (by omega))]
        refine ⟨in_nI (by omega) (by decide), ?_⟩
        by_cases z2 : hs q' = 3
        · rw [if_pos (congrArg nI z2), g7 z2]
          refine ⟨in_nI (by omega) (by decide), in_nI (by omega) (by decide), ?_⟩
          by_cases z3 : (hv q').toInt32.toInt64 = hv q'
          · rw [if_pos ((lg_eq0 _ _).mpr z3)]
            exact wkj (u4 z2 z3)
          · rw [if_neg (fun z => z3 ((lg_eq0 _ _).mp z))]
            exact u3 z2 z3
        · rw [if_neg (fun z => z2 ((nI_eq (by omega) (by omega)).mp z))]
          exact u2 z0 z2
    by_cases z0 : hs q' = 0
    · rw [if_pos z0]
      exact ⟨h, pre _ (fun _ => rfl) (fun z => absurd z0 z) (fun z => absurd (z0.symm.trans z) (by decide)) (fun z => absurd (z0.symm.trans z) (by decide)), fr.rfl'⟩
    · by_cases z2 : hs q' = 3
      · rw [if_neg z0, if_pos z2]
        by_cases z3 : (hv q').toInt32.toInt64 = hv q'
        · obtain ⟨h1, r1, f⟩ := sp_alike s hp hj (hv q').toInt32
          refine ⟨h1, pre _ (fun z => absurd z z0) (fun _ z => absurd z2 z) (fun _ z => absurd z3 z) (fun _ _ => ?_), f⟩
          refine cl_X11_asView_83 rfl (by decide) (r1) ?_
          refine wb_X11_asView_86 ?_
          rw [cntN_cong (r := v_al c K P B p' j' (hv q').toInt32) (v_ways c K B j') (fun w _ => decide_eq_decide.mpr (by rw [← z3, t64_inj, z3]))]
        · refine ⟨h, pre _ (fun z => absurd z z0) (fun _ z => absurd z2 z) (fun _ _ => ?_) (fun _ z => absurd z z3), fr.rfl'⟩
          have e : ∀ k, cntN (fun w => decide ((nI (v_vw c K P B p' j' w)).toInt64 = hv q')) k = 0 := by
            intro k
            induction k with
            | zero => rfl
            | succ k ih =>
              rw [cntN_not (fun z => z3 ?_), ih]
              have e1 := of_decide_eq_true z
              rw [← e1, Int32.toInt32_toInt64]
          rw [e]
      · rw [if_neg z0, if_neg z2]
        exact ⟨h, pre _ (fun z => absurd z z0) (fun _ _ => rfl) (fun z => absurd z z2) (fun z => absurd z z2), fr.rfl'⟩
  · rw [if_neg y]
    refine ⟨h, ?_, fr.rfl'⟩
    refine wb_X11_asView_0 ?_
    refine cl_X11_asView_1 rfl (by decide) (cp_isHand _ _) ?_
    refine wb_X11_asView_4 ?_
    by_cases y1 : isLe 3 q
    · rw [b2i_t y1, if_neg (by decide)]
      refine cl_X11_asView_8 rfl (by decide) (cp_isPlayer _ _) ?_
      refine wb_X11_asView_11 ?_
      by_cases y2 : isPl p
      · rw [b2i_t y2, if_neg (by decide)]
        refine cl_X11_asView_16 rfl (by decide) (cp_isPoint s _) ?_
        refine wb_X11_asView_19 ?_
        rw [b2i_f (fun z => y ⟨y1, y2, z⟩), if_pos rfl]
      · rw [b2i_f y2, if_pos rfl]
    · rw [b2i_f y1, if_pos rfl]
end S76
