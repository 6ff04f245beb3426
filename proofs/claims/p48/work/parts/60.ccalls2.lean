/-! THE CLASS'S CALLS: stages put and dropped, the pack -/
/-- a run that makes objects: at most k cells and slots more -/
def fx (k : Nat) (L : List (Nat × Option Nat)) (h h' : AH) : Prop := h.2.2.1 ≤ h'.2.2.1 ∧ h'.2.2.1 ≤ h.2.2.1 + k ∧ h'.2.2.2.1 ≤ h.2.2.2.1 + k ∧ h'.2.2.2.2 = h.2.2.2.2 ∧ (∀ a, a < h.2.2.1 → h'.2.1 a = h.2.1 a) ∧ ∀ a j, a < h.2.2.1 → inS L a j = false → h'.1 a j = h.1 a j
theorem fr.fx {L : List (Nat × Option Nat)} {h h' : AH} (f : fr L h h') : fx 0 L h h' := by
  have e := f.1
  exact ⟨by rw [e]; exact Nat.le_refl _, by rw [e]; exact Nat.le_refl _, by rw [e]; exact Nat.le_refl _, by rw [e], fun a _ => by rw [e], fun a j _ q => f.2 a j q⟩
theorem fx.trans {k k' : Nat} {L : List (Nat × Option Nat)} {h h1 h2 : AH} (f : fx k L h h1) (g : fx k' L h1 h2) : fx (k + k') L h h2 := by
  obtain ⟨f1, f2, f3, f4, f5, f6⟩ := f
  obtain ⟨g1, g2, g3, g4, g5, g6⟩ := g
  exact ⟨by omega, by omega, by omega, g4.trans f4, fun a ha => (g5 a (by omega)).trans (f5 a ha), fun a j ha q => (g6 a j (by omega) q).trans (f6 a j ha q)⟩
theorem fx.mono {k k' : Nat} {L L' : List (Nat × Option Nat)} {h h' : AH} (f : fx k L h h') (q : subS L L' = true) (hk : k ≤ k') : fx k' L' h h' := ⟨f.1, Nat.le_trans f.2.1 (by omega), Nat.le_trans f.2.2.1 (by omega), f.2.2.2.1, f.2.2.2.2.1, fun a j ha z => f.2.2.2.2.2 a j ha (subS_in q z)⟩
theorem fx.I {k : Nat} {L : List (Nat × Option Nat)} {h h' : AH} (f : fx k L h h') {a j : Nat} (ha : a < h.2.2.1) (q : inS L a j = false) : hI h' a j = hI h a j := congrArg toI (f.2.2.2.2.2 a j ha q)
theorem fx.L {k : Nat} {L : List (Nat × Option Nat)} {h h' : AH} (f : fx k L h h') {a j : Nat} (ha : a < h.2.2.1) (q : inS L a j = false) : hL h' a j = hL h a j := congrArg toL (f.2.2.2.2.2 a j ha q)
theorem fx.R {k : Nat} {L : List (Nat × Option Nat)} {h h' : AH} (f : fx k L h h') {a j : Nat} (ha : a < h.2.2.1) (q : inS L a j = false) : hR h' a j = hR h a j := congrArg toR (f.2.2.2.2.2 a j ha q)
theorem sO_fx {k0 : Nat} {h h' : AH} {a k p b : Nat} (s : sO h a k p b) {L : List (Nat × Option Nat)} (f : fx k0 L h h') (q : loS L = true) : sO h' a k p b := ⟨s.1, Nat.lt_of_lt_of_le s.2.1 f.1, (f.2.2.2.2.1 a s.2.1).trans s.2.2.1, (f.R s.2.1 (loS_in q s.1 0)).trans s.2.2.2.1, (f.I s.2.1 (loS_in q s.1 1)).trans s.2.2.2.2.1, (f.I s.2.1 (loS_in q s.1 2)).trans s.2.2.2.2.2⟩
theorem tS_fx {k0 o c n : Nat} {K P B S : Nat → Nat} {h h' : AH} (s : tS o c n K P B S h) {L : List (Nat × Option Nat)} (f : fx k0 L h h') (ho : o < 30) (q1 : outS (66 + o) (86 + o) L = true) (q2 : loS L = true) : tS o c n K P B S h' := by
  have h6 := s.n6
  have al := s.al
  refine ⟨s.ok, Nat.le_trans al f.1, (f.I (by omega) (outS_in q1 (by omega) (by omega) _)).trans s.cc, (f.I (by omega) (outS_in q1 (by omega) (by omega) _)).trans s.nn, fun i hi => ⟨(f.R (by omega) (outS_in q1 (by omega) (by omega) _)).trans (s.st i hi).1, sO_fx (s.st i hi).2 f q2⟩, fun i hi => (f.I (by omega) (outS_in q1 (by omega) (by omega) _)).trans (s.fan i hi), fun i hi => (f.I (by omega) (outS_in q1 (by omega) (by omega) _)).trans (s.beh i hi), fun i hi w hw => (f.I (by omega) (outS_in q1 (by omega) (by omega) _)).trans (s.bef i hi w hw), fun j hj i hi => (f.I (by omega) (outS_in q1 (by omega) (by omega) _)).trans (s.see j hj i hi)⟩
theorem wok_dyn {a : Nat} (ha : 168 ≤ a) (j : Nat) : ax_wok true a j = true := by
  unfold ax_wok
  have e : ax_cfL.getD (a - 64) [] = [] := by
    rw [List.getD_eq_getElem?_getD, List.getElem?_eq_none (by have : ax_cfL.length = 104 := by decide +kernel
                                                              omega)]
    rfl
  rw [e]
  simp
  omega
/-- an object made -/
theorem mk_fx (h : AH) (c : Nat) {k : Nat} (hc : ax_nf c ≤ k) (hk : 1 ≤ k) : fx k [] h (mkD h c) := by
  refine ⟨Nat.le_succ _, Nat.add_le_add_left hk _, Nat.add_le_add_left hc _, rfl, fun a ha => ?_, fun a j ha _ => ?_⟩
  · show (if a = h.2.2.1 then c else h.2.1 a) = _
    rw [if_neg (by omega)]
  · show (if a = h.2.2.1 then _ else h.1 a j) = _
    rw [if_neg (by omega)]
theorem mk_dO (h : AH) (c : Nat) (ha : 168 ≤ h.2.2.1) (hc : c < 100 := by decide) : dO (mkD h c) h.2.2.1 c := by
  refine ⟨by omega, ?_, ?_⟩
  · rw [ty_dyn _ ha]
    show (ax_dty (if h.2.2.1 = h.2.2.1 then c else _)).1 = _
    rw [if_pos rfl]
    unfold ax_dty
    rw [if_pos hc]
  · unfold ax_ok
    have : h.2.2.1 < (mkD h c).2.2.1 := Nat.lt_succ_self _
    simp [this]
section S60
variable {c n : Nat} {K P B S : Nat → Nat} {W : Nat → Int} {h h' : AH}
theorem sp_stInit {h : AH} {a k p b : Nat} (ha : 168 ≤ a) (d : dO h a 6) (al : a < h.2.2.1) (hc : h.2.1 a = 6) : ∃ h', XX true 1 97 0 [rf (a), rf (k), .int (nI p), .int (nI b)] [] (h) (none, h') ∧ fr [(a, none)] h h' ∧ sO h' a k p b := by
  refine ⟨ax_wr (ax_wr (ax_wr h a 0 (rf k)) a 1 (.int (nI p))) a 2 (.int (nI b)), ?_, ((fr.wr (by simp [inS])).wr' (by simp [inS])).wr' (by simp [inS]), ha, al, hc, ?_, ?_, ?_⟩
  · refine wb_X7_init_0 ?_
    exact ⟨by omega, ⟨d, wok_dyn ha _⟩, ⟨d, wok_dyn ha _⟩, ⟨d, wok_dyn ha _⟩, rfl⟩
  · rw [wr_Rj (by decide), wr_Rj (by decide), wr_R, toR_rf]
  · rw [wr_Ij (by decide), wr_I]
  · rw [wr_I]
/-- a new stage object -/
theorem newS (h : AH) (ha : 168 ≤ h.2.2.1) (k p b : Nat) : ∃ h', XX true 1 97 0 [rf (h.2.2.1), rf (k), .int (nI p), .int (nI b)] [] (mkD h 6) (none, h') ∧ fx 3 [] h h' ∧ sO h' h.2.2.1 k p b := by
  obtain ⟨h1, r, f, s⟩ := sp_stInit (h := mkD h 6) (k := k) (p := p) (b := b) ha (mk_dO h 6 ha) (Nat.lt_succ_self _) (by show (if h.2.2.1 = h.2.2.1 then 6 else _) = 6; rw [if_pos rfl])
  refine ⟨h1, r, ?_, s⟩
  have g := mk_fx h 6 (k := 3) (by decide) (by decide)
  have e := f.1
  refine ⟨by rw [e]; exact g.1, by rw [e]; exact g.2.1, by rw [e]; exact g.2.2.1, by rw [e]; exact g.2.2.2.1, fun a h1 => by rw [e]; exact g.2.2.2.2.1 a h1, fun a j h1 q => ?_⟩
  rw [f.2 a j (by simp [inS]; omega)]
  exact g.2.2.2.2.2 a j h1 q
theorem cp_told (k p b : Int32) (h : AH) : XX true 2 92 0 [.int (k), .int (p), .int (b), ax_junk, ax_junk] [] (h) (some (.int (b2i (told k p b))), h) := by
  have e7 : k < nI 8 ↔ k ≤ nI 7 := by
    rw [Int32.lt_iff_toInt_lt, Int32.le_iff_toInt_le, show (nI 8).toInt = 8 by decide, show (nI 7).toInt = 7 by decide]
    omega
  have e23 : (nI 2 ≤ b ∧ b ≤ nI 3) ↔ b = nI 2 ∨ b = nI 3 := by
    constructor
    · intro z
      have z0 : nI 0 ≤ b := Int32.le_trans (by decide) z.1
      obtain ⟨x, hx, rfl⟩ := nI_of3 (by decide) z0 z.2
      have := (nI_leI (by omega) (by omega)).mp z.1
      have : x = 2 ∨ x = 3 := by omega
      rcases this with rfl | rfl
      · exact Or.inl rfl
      · exact Or.inr rfl
    · rintro (rfl | rfl)
      · exact ⟨by decide, by decide⟩
      · exact ⟨by decide, by decide⟩
  refine wb_X11_isStageToBe_0 ?_
  by_cases q : k < nI 0
  · rw [if_pos q, b2i_f (fun z => absurd z.1.1 (Int32.not_le.mpr q))]
  · rw [if_neg q]
    by_cases r : k < nI 8
    · rw [if_pos r]
      have l7 : isLe 7 k := ⟨Int32.not_lt.mp q, e7.mp r⟩
      obtain ⟨k', hk, rfl⟩ := l7.ex (by decide)
      have ek : ix (nI k') = k' := ix_nI (by omega)
      have k1 : nI k' = nI 1 ↔ k' = 1 := nI_eq (by omega) (by omega)
      have k6 : nI k' = nI 6 ↔ k' = 6 := nI_eq (by omega) (by omega)
      refine ⟨in_nI (by omega) (by decide), by simp only [ek]; exact kO _ (by omega) h, ?_⟩
      have eP : gI h (ix (nI k')) 1 = b2i (¬ (k' = 1 ∨ k' = 6)) := by simp only [ek]; exact k_hasP _ (by omega) h
      rw [eP]
      have g41 : ∀ (Q : Prop) [Decidable Q], (Q ↔ (if nI k' = nI 1 ∨ nI k' = nI 6 then p = nI 0 else isPl p)) → XX true 2 92 41 [.int (nI k'), ax_junk, .int (b), ax_junk, ax_junk] [.int (b2i Q)] (h) ((some (.int (b2i (told (nI k') p b))), h)) := by
        intro Q _ hQ
        have fin : ∀ (X : Prop) [Decidable X], (X ↔ (if hasN k' then nI 2 ≤ b ∧ b ≤ nI 3 else b = nI 0)) → XX true 2 92 80 [ax_junk, ax_junk, ax_junk, .int (b2i Q), ax_junk] [.int (b2i X)] (h) ((some (.int (b2i (told (nI k') p b))), h)) := by
          intro X _ hX
          refine wb_X11_isStageToBe_80 ?_
          by_cases y : Q
          · rw [b2i_t y, if_neg (by decide)]
            by_cases x : X
            · rw [b2i_t x, if_neg (by decide), b2i_t ⟨l7, hQ.mp y, by rw [ek]; exact hX.mp x⟩]
            · rw [b2i_f x, if_pos rfl, b2i_f (fun z => x (hX.mpr (by have := z.2.2; rw [ek] at this; exact this)))]
          · rw [b2i_f y, if_pos rfl, b2i_f (fun z => y (hQ.mpr z.2.1))]
        refine wb_X11_isStageToBe_41 ?_
        refine ⟨in_nI (by omega) (by decide), by simp only [ek]; exact kO _ (by omega) h, ?_⟩
        have eN : gI h (ix (nI k')) 2 = b2i (hasN k') := by simp only [ek]; exact k_hasN _ (by omega) h
        rw [eN]
        by_cases y : hasN k'
        · rw [b2i_t y, if_neg (by decide)]
          have f := fin (nI 2 ≤ b ∧ b ≤ nI 3) (by rw [if_pos y])
          by_cases b2 : b = nI 2
          · rw [if_pos b2]
            rw [b2i_t (e23.mpr (Or.inl b2))] at f
            refine wb_X11_isStageToBe_63 ?_
            exact f
          · rw [if_neg b2]
            by_cases b3 : b = nI 3
            · rw [if_pos b3]
              rw [b2i_t (e23.mpr (Or.inr b3))] at f
              refine wb_X11_isStageToBe_63 ?_
              exact f
            · rw [if_neg b3]
              rw [b2i_f (fun z => (e23.mp z).elim b2 b3)] at f
              exact f
        · rw [b2i_f y, if_pos rfl]
          have f := fin (b = nI 0) (by rw [if_neg y])
          by_cases b0 : b = nI 0
          · rw [if_pos b0]
            rw [b2i_t b0] at f
            exact f
          · rw [if_neg b0]
            rw [b2i_f b0] at f
            exact f
      by_cases y : k' = 1 ∨ k' = 6
      · have y' : nI k' = nI 1 ∨ nI k' = nI 6 := y.elim (fun z => Or.inl (k1.mpr z)) (fun z => Or.inr (k6.mpr z))
        rw [b2i_f (fun z => z y), if_pos rfl]
        have f := g41 (p = nI 0) (by rw [if_pos y'])
        by_cases p0 : p = nI 0
        · rw [if_pos p0]
          rw [b2i_t p0] at f
          exact f
        · rw [if_neg p0]
          rw [b2i_f p0] at f
          exact f
      · have y' : ¬ (nI k' = nI 1 ∨ nI k' = nI 6) := fun z => y (z.elim (fun z => Or.inl (k1.mp z)) (fun z => Or.inr (k6.mp z)))
        rw [b2i_t y, if_neg (by decide)]
        refine cl_X11_isStageToBe_26 rfl (by decide) (cp_isPlayer p h) ?_
        refine wb_X11_isStageToBe_29 ?_
        exact g41 (isPl p) (by rw [if_neg y'])
    · rw [if_neg r, b2i_f (fun z => r (e7.mpr z.1.2))]
theorem co_stage (s : tS 0 c n K P B S h) (k p b : Int32) : (puts c n K k p b → ∃ h', XX true 6 91 0 [.ref 64, .int (k), .int (p), .int (b)] [] (h) (some (.int (a_stage c n K k p b)), h') ∧ fx 3 cfTt h h' ∧ tS 0 c (n + 1) (updN K n (ix k)) (updN P n (ix p)) (updN B n (ix b)) (updN S n h.2.2.1) h') ∧ (¬ puts c n K k p b → XX true 6 91 0 [.ref 64, .int (k), .int (p), .int (b)] [] (h) (some (.int (a_stage c n K k p b)), h)) := by
  have h6 := s.n6
  unfold a_stage
  constructor
  · rintro ⟨t, n6, cl⟩
    obtain ⟨k', p', b', rfl, rfl, rfl, o⟩ := t.ex
    have hb : b' < 2 ^ 31 := by
      by_cases z : hasN k'
      · have := o.2.2.1 z; omega
      · have := o.2.2.2 z; omega
    have hk := o.1
    have hp := o.2.1
    have ek : ix (nI k') = k' := ix_nI (by omega)
    have ep : ix (nI p') = p' := ix_nI (by omega)
    have eb : ix (nI b') = b' := ix_nI hb
    rw [ek] at cl
    obtain ⟨h1, r1, f1, so⟩ := newS h s.al k' p' b'
    have s1 := tS_fx s f1 (by decide) rfl rfl
    obtain ⟨h', r, f, m⟩ := sp_t_put s1 (by omega) o cl so
    simp only [ek, ep, eb]
    refine ⟨h', ?_, (f1.mono rfl (Nat.le_refl _)).trans f.fx, m⟩
    refine wb_X11_stage_0 ?_
    refine cl_X11_stage_3 rfl (by decide) (cp_told _ _ _ _) ?_
    refine wb_X11_stage_6 ?_
    rw [b2i_t t, if_neg (by decide)]
    refine cl_X11_stage_19 rfl (by decide) (sp_t_hasRoom s) ?_
    refine wb_X11_stage_22 ?_
    rw [b2i_t (show n < 6 by omega), if_neg (by decide)]
    simp only [ek]
    refine ⟨in_nI (by omega) (by decide), ?_⟩
    refine cl_X11_stage_40 rfl (by decide) (sp_t_hasCardFor s hk) ?_
    refine wb_X11_stage_43 ?_
    rw [b2i_t cl, if_neg (by decide)]
    simp only [ek]
    refine ⟨s.al, in_nI (by omega) (by decide), ?_⟩
    refine cl_X11_stage_67 rfl (by decide) (r1) ?_
    refine ⟨by have := s.al; omega, ?_⟩
    refine cl_X11_stage_70 rfl (by decide) (r) ?_
    refine wb_X11_stage_73 ?_
    rw [m.nn, nI_subI (by omega), if_pos t, if_neg n6, if_pos cl, Nat.add_sub_cancel]
  · intro q
    refine wb_X11_stage_0 ?_
    refine cl_X11_stage_3 rfl (by decide) (cp_told _ _ _ _) ?_
    refine wb_X11_stage_6 ?_
    by_cases t : told k p b
    · rw [b2i_t t, if_neg (by decide), if_pos t]
      refine cl_X11_stage_19 rfl (by decide) (sp_t_hasRoom s) ?_
      refine wb_X11_stage_22 ?_
      by_cases n6 : n = 6
      · rw [b2i_f (by omega), if_pos rfl, if_pos n6]
      · rw [b2i_t (show n < 6 by omega), if_neg (by decide), if_neg n6]
        obtain ⟨k', p', b', rfl, rfl, rfl, o⟩ := t.ex
        have hk := o.1
        have ek : ix (nI k') = k' := ix_nI (by omega)
        have nq : ¬ (isCd k' → v_out K n < c) := fun z => q ⟨t, n6, by rw [ek]; exact z⟩
        simp only [ek]
        refine ⟨in_nI (by omega) (by decide), ?_⟩
        refine cl_X11_stage_40 rfl (by decide) (sp_t_hasCardFor s hk) ?_
        refine wb_X11_stage_43 ?_
        rw [b2i_f nq, if_pos rfl, if_neg nq]
    · rw [b2i_f t, if_pos rfl, if_neg t]
/-- the cards' worths -/
def cW (o : Nat) (W : Nat → Int) (h : AH) : Prop := ∀ i, i < 5 → hI h (67 + o) i = iI (W i) ∧ -9 ≤ W i ∧ W i ≤ 9
theorem co_worth (s : tS 0 c n K P B S h) (w : cW 0 W h) (i v : Int32) : (isLt c i ∧ -nI 9 ≤ v ∧ v ≤ nI 9 → ∃ h', XX true 1 89 0 [.ref 64, .int (i), .int (v), ax_junk] [] (h) (some (.int (a_worth c W i v)), h') ∧ fr [(67, none)] h h' ∧ cW 0 (updZ W (ix i) v.toInt) h') ∧ (¬ (isLt c i ∧ -nI 9 ≤ v ∧ v ≤ nI 9) → XX true 1 89 0 [.ref 64, .int (i), .int (v), ax_junk] [] (h) (some (.int (a_worth c W i v)), h)) := by
  have hc := s.c5
  unfold a_worth
  constructor
  · intro q
    obtain ⟨k, hk, rfl⟩ := q.1.ex (by omega)
    rw [ix_nI (by omega)]
    have v9 : -9 ≤ v.toInt ∧ v.toInt ≤ 9 := by
      have a := Int32.le_iff_toInt_le.mp q.2.1
      have b := Int32.le_iff_toInt_le.mp q.2.2
      rw [show (-nI 9 : Int32).toInt = -9 by decide] at a
      rw [show (nI 9 : Int32).toInt = 9 by decide] at b
      exact ⟨a, b⟩
    refine ⟨ax_wr h 67 k (.int v), ?_, fr.wr (by simp [inS]), fun a ha => ?_⟩
    · refine wb_X11_worth_0 ?_
      rw [s.cc, if_neg (Int32.not_lt.mpr q.1.1), if_pos q.1.2, if_neg (Int32.not_lt.mpr q.2.1), if_pos q.2.2, ix_nI (by omega), if_pos q, (w k (by omega)).1]
      exact ⟨in_nI (by omega) (by decide), in_nI (by omega) (by decide), rfl⟩
    · by_cases e : a = k
      · rw [e, wr_I]
        unfold updZ
        rw [if_pos rfl]
        exact ⟨(Int32.ofInt_toInt v).symm, v9⟩
      · rw [wr_Ij e]
        unfold updZ
        rw [if_neg e]
        exact w a ha
  · intro q
    refine wb_X11_worth_0 ?_
    rw [s.cc, if_neg q]
    by_cases q1 : i < nI 0
    · rw [if_pos q1]
    · rw [if_neg q1]
      by_cases q2 : i < nI c
      · rw [if_pos q2]
        by_cases q3 : v < -nI 9
        · rw [if_pos q3]
        · rw [if_neg q3]
          by_cases q4 : v ≤ nI 9
          · exact absurd ⟨⟨Int32.not_lt.mp q1, q2⟩, Int32.not_lt.mp q3, q4⟩ q
          · rw [if_neg q4]
      · rw [if_neg q2]
theorem co_pack (s : tS 0 c n K P B S h) (m : Int32) : (nI 1 ≤ m ∧ m ≤ nI 5 → ∃ h', XX true 3 86 0 [.ref 64, .int (m), ax_junk] [] (h) (some (.int (a_pack c m)), h') ∧ fr [(66, some 0), (66, some 3), (67, none), (87, some 2), (65, some 6), (65, some 7)] h h' ∧ tS 0 (ix m) 0 K P B S h' ∧ cW 0 (fun _ => 0) h' ∧ hI h' 87 2 = nI 0 ∧ hI h' 65 6 = nI 0 ∧ hL h' 65 7 = lN 1) ∧ (¬ (nI 1 ≤ m ∧ m ≤ nI 5) → XX true 3 86 0 [.ref 64, .int (m), ax_junk] [] (h) (some (.int (a_pack c m)), h)) := by
  unfold a_pack
  constructor
  · intro q
    obtain ⟨m', hm, rfl⟩ := nI_of3 (by decide) (Int32.le_trans (by decide) q.1) q.2
    have m1 := (nI_leI (by omega) (by omega)).mp q.1
    rw [ix_nI (by omega)]
    obtain ⟨h1, r1, f1, e1, e2, e3⟩ := sp_t_open (h := h) (nI m')
    have f2 : fr [(66, some 0), (66, some 3), (67, none), (87, some 2), (65, some 6), (65, some 7)] h (ax_wr (ax_wr (ax_wr h1 87 2 (.int (nI 0))) 65 6 (.int (nI 0))) 65 7 (.long (lN 1))) := (((f1.mono rfl).wr' rfl).wr' rfl).wr' rfl
    refine ⟨_, ?_, f2, ⟨⟨m1, hm, by decide, fun i hi => absurd hi (Nat.not_lt_zero _)⟩, by rw [f2.1]; exact s.al, ?_, ?_, fun i hi => absurd hi (Nat.not_lt_zero _), fun i hi => absurd hi (Nat.not_lt_zero _), fun i hi => ?_, fun i hi => absurd hi (Nat.not_lt_zero _), fun j hj i hi => absurd hi (by omega)⟩, fun i hi => ⟨?_, by show (-9 : Int) ≤ 0; decide, by show (0 : Int) ≤ 9; decide⟩, ?_, ?_, wr_L _ _ _ _⟩
    · refine wb_X11_pack_0 ?_
      rw [if_neg (Int32.not_lt.mpr q.1), if_pos q.2, s.cc]
      refine cl_X11_pack_29 rfl (by decide) ((show XX true 2 87 0 [.ref 65, .int (nI m')] [] h (none, ax_wr (ax_wr (ax_wr h1 87 2 (.int (nI 0))) 65 6 (.int (nI 0))) 65 7 (.long (lN 1))) from wb_X1_open_0 (cl_X1_open_5 rfl (by decide) r1 (wb_X1_open_8 rfl)))) ?_
      refine wb_X11_pack_32 ?_
      rw [if_pos q]
    · rw [wr_Ia (by decide), wr_Ia (by decide), wr_Ia (by decide)]
      exact e1
    · rw [wr_Ia (by decide), wr_Ia (by decide), wr_Ia (by decide)]
      exact e2
    · obtain rfl : i = 0 := by omega
      rw [f2.I rfl]
      exact s.beh 0 (Nat.zero_le _)
    · rw [wr_Ia (by decide), wr_Ia (by decide), wr_Ia (by decide)]
      exact e3 i hi
    · rw [wr_Ia (by decide), wr_Ia (by decide), wr_I]
    · rw [wr_Ij (by decide), wr_I]
  · intro q
    refine wb_X11_pack_0 ?_
    rw [if_neg q]
    by_cases q1 : m < nI 1
    · rw [if_pos q1]
    · rw [if_neg q1]
      by_cases q2 : m ≤ nI 5
      · exact absurd ⟨Int32.not_lt.mp q1, q2⟩ q
      · rw [if_neg q2]
end S60
