/-! THE REFERENCE'S CALLS: a plan told, plans drawn -/
section S37
variable {c n np nr : Nat} {K P B T C : Nat → Nat} {h h' : AH}
abbrev frL : List (Nat × Option Nat) := [(160, none), (158, none), (153, some 6)]
/-- how many ways look so, the view a word -/
abbrev v_cnt (c : Nat) (K P B : Nat → Nat) (p j : Nat) (v : Int32) : Nat := cntN (fun w => decide ((nI (v_vw c K P B p j w)).toInt64 = v.toInt64)) (v_ways c K B j)
theorem cntN_0 {q : Nat → Bool} : ∀ {m}, cntN q m ≠ 0 → ∃ w, w < m ∧ q w = true
  | 0, h => absurd rfl h
  | m + 1, h => by
    by_cases z : q m = true
    · exact ⟨m, by omega, z⟩
    · have : cntN q (m + 1) = cntN q m + (if q m = true then 1 else 0) := rfl
      rw [if_neg z] at this
      obtain ⟨w, a, b⟩ := cntN_0 (q := q) (m := m) (by omega)
      exact ⟨w, by omega, b⟩
theorem toI64_inj {x y : Int32} (h : x.toInt64 = y.toInt64) : x = y := by
  have := congrArg Int64.toInt h
  rw [Int32.toInt_toInt64, Int32.toInt_toInt64] at this
  exact Int32.toInt.inj this
theorem v_cnt_view {p j : Nat} {v : Int32} (s : okS c n K P B) (hj : j ≤ n) (q : v_cnt c K P B p j v ≠ 0) : ∃ k, v = nI k ∧ k < 524288 := by
  obtain ⟨w, hw, e⟩ := cntN_0 q
  exact ⟨_, (toI64_inj (of_decide_eq_true e)).symm, (v_vw_lt s hj p w).2⟩
abbrev planOk (n : Nat) (K P B : Nat → Nat) (p j x : Int32) : Prop := isPl p ∧ isLt n j ∧ isChc (K (ix j)) ∧ P (ix j) = ix p ∧ isLt (B (ix j)) x
def a_plan (c n : Nat) (K P B : Nat → Nat) (ch : Nat → Nat → Nat → Nat) (np : Nat) (T : Nat → Nat) (p j v x : Int32) : Int32 := if planOk n K P B p j x then (if v_cnt c K P B (ix p) (ix j) v = 0 then -nI 1 else if v_pat np T (ix p) (ix j) (ix v) < 40 then nI (ch (ix p) (ix j) (ix v)) else -nI 4) else -nI 2
abbrev plans' (c n : Nat) (K P B : Nat → Nat) (np : Nat) (T : Nat → Nat) (p j v x : Int32) : Prop := planOk n K P B p j x ∧ v_cnt c K P B (ix p) (ix j) v ≠ 0 ∧ v_pat np T (ix p) (ix j) (ix v) < 40
theorem mo_plan (s : mS c n K P B h) (t : mP np T C h) (p j v x : Int32) : (plans' c n K P B np T p j v x → ∃ h', XX true 6 199 0 [.ref 153, .int (p), .int (j), .int (v), .int (x), ax_junk] [] (h) (some (.int (a_plan c n K P B (v_chs np T C B) np T p j v x)), h') ∧ fr frL h h' ∧ mP (v_tn np T (ix p) (ix j) (ix v)) (updN T (v_pat np T (ix p) (ix j) (ix v)) (v_key (ix p) (ix j) (ix v))) (updN C (v_pat np T (ix p) (ix j) (ix v)) (ix x)) h') ∧ (¬ plans' c n K P B np T p j v x → ∃ h', XX true 6 199 0 [.ref 153, .int (p), .int (j), .int (v), .int (x), ax_junk] [] (h) (some (.int (a_plan c n K P B (v_chs np T C B) np T p j v x)), h') ∧ fr [(160, none)] h h') := by
  have h6 := s.n6
  unfold a_plan
  -- up to the count
  have pre : ∀ R, (¬ planOk n K P B p j x → R = (some (.int (-nI 2)), h)) → (planOk n K P B p j x → XX true 6 199 64 [.ref 153, .int p, .int j, .int v, .int x, ax_junk] [.long v.toInt64, .int j, .int p, .ref 153] h R) → XX true 6 199 0 [.ref 153, .int p, .int j, .int v, .int x, ax_junk] [] h R := by
    intro R u u2
    refine wb_X12_plan_0 ?_
    refine (cl_X12_plan_1 rfl (by decide) (sp_isPlayer _ _)).mpr ?_
    refine wb_X12_plan_4 ?_
    by_cases q0 : isPl p
    · rw [b2i_t q0, if_neg (by decide)]
      refine (cl_X12_plan_9 rfl (by decide) (sp_isStage s _)).mpr ?_
      refine wb_X12_plan_12 ?_
      by_cases q1 : isLt n j
      · rw [b2i_t q1, if_neg (by decide)]
        obtain ⟨a, ha, rfl⟩ := q0.ex
        obtain ⟨b, hb, rfl⟩ := q1.ex (by omega)
        have ea : ix (nI a) = a := ix_nI (by omega)
        have eb : ix (nI b) = b := ix_nI (by omega)
        have ok := s.ok hb
        rw [eb, s.KK hb]
        refine ⟨in_nI (by omega) (by decide), ?_⟩
        refine (cl_X12_plan_21 rfl (by decide) (sp_isChoice (by omega) h)).mpr ?_
        refine wb_X12_plan_24 ?_
        by_cases q2 : isChc (K b)
        · have bb := ok.2.2.1 (by omega)
          rw [b2i_t q2, if_neg (by decide), eb, s.PP hb]
          refine ⟨in_nI (by omega) (by decide), ?_⟩
          by_cases q3 : P b = a
          · rw [if_pos (congrArg nI q3), s.BB hb]
            refine ⟨in_nI (by omega) (by decide), ?_⟩
            refine (cl_X12_plan_50 rfl (by decide) (sp_in _ _ _ _)).mpr ?_
            refine wb_X12_plan_53 ?_
            rw [b2i_cong (in_pred (by omega) x)]
            by_cases q4 : isLt (B b) x
            · rw [b2i_t q4, if_neg (by decide)]
              exact u2 ⟨q0, q1, by rw [eb]; exact q2, by rw [ea, eb]; exact q3, by rw [eb]; exact q4⟩
            · rw [b2i_f q4, if_pos rfl]
              exact u (fun z => q4 (by have := z.2.2.2.2; rw [eb] at this; exact this))
          · rw [if_neg (fun z => q3 ((nI_eq (by omega) (by omega)).mp z))]
            exact u (fun z => q3 (by have := z.2.2.2.1; rw [ea, eb] at this; exact this))
        · rw [b2i_f q2, if_pos rfl]
          exact u (fun z => q2 (by have := z.2.2.1; rw [eb] at this; exact this))
      · rw [b2i_f q1, if_pos rfl]
        exact u (fun z => q1 z.2.1)
    · rw [b2i_f q0, if_pos rfl]
      exact u (fun z => q0 z.1)
  by_cases q : planOk n K P B p j x
  · obtain ⟨q0, q1, q2, q3, q4⟩ := id q
    obtain ⟨a, ha, rfl⟩ := q0.ex
    obtain ⟨b, hb, rfl⟩ := q1.ex (by omega)
    have ea : ix (nI a) = a := ix_nI (by omega)
    have eb : ix (nI b) = b := ix_nI (by omega)
    have ok := s.ok hb
    rw [eb] at q2 q4
    have bb := ok.2.2.1 (by omega)
    obtain ⟨d, hd, rfl⟩ := q4.ex (by omega)
    have ed : ix (nI d) = d := ix_nI (by omega)
    obtain ⟨h1, r1, f1⟩ := sp_worldsOf s (Nat.le_of_lt hb) ha v.toInt64
    have s1 : mS c n K P B h1 := s.fr f1 rfl
    have t1 : mP np T C h1 := t.fr f1 rfl
    have cl := cntN_le (fun w => decide ((nI (v_vw c K P B a b w)).toInt64 = v.toInt64)) (v_ways c K B b)
    have wl := v_ways_le s.1 (Nat.le_of_lt hb)
    unfold plans'
    simp only [ea, eb, ed]
    by_cases z : v_cnt c K P B a b v = 0
    · refine ⟨fun u => absurd z u.2.1, fun _ => ⟨h1, pre _ (fun u => absurd q u) (fun _ => ?_), f1⟩⟩
      refine (cl_X12_plan_64 rfl (by decide) (r1)).mpr ?_
      refine wb_X12_plan_67 ?_
      rw [show cntN (fun w => decide ((nI (v_vw c K P B a b w)).toInt64 = v.toInt64)) (v_ways c K B b) = 0 from z, if_pos rfl, if_pos q, if_pos z]
    · obtain ⟨k, rfl, hk⟩ := v_cnt_view s.1 (Nat.le_of_lt hb) z
      have ek : ix (nI k) = k := ix_nI (by omega)
      simp only [ek]
      have p67 : ∀ R, XX true 6 199 79 [.ref 153, .int (nI a), .int (nI b), .int (nI k), .int (nI d), ax_junk] [.int (nI (v_chs np T C B a b k))] (h1) (R) → XX true 6 199 67 [.ref 153, .int (nI a), .int (nI b), .int (nI k), .int (nI d), ax_junk] [.int (nI (cntN (fun w => decide ((nI (v_vw c K P B a b w)).toInt64 = (nI k).toInt64)) (v_ways c K B b)))] (h1) (R) := by
        intro R u
        have z' : cntN (fun w => decide ((nI (v_vw c K P B a b w)).toInt64 = (nI k).toInt64)) (v_ways c K B b) ≠ 0 := z
        refine wb_X12_plan_67 ?_
        rw [if_neg (fun y => z' ((nI_eq (by omega) (by omega)).mp y))]
        refine (cl_X12_plan_76 rfl (by decide) (sp_chosen s1 t1 (by omega) hb hk)).mpr ?_
        exact u
      have lc : v_chs np T C B a b k < B b := v_chs_lt (by omega)
      by_cases z2 : v_pat np T a b k < 40
      · refine ⟨fun _ => ?_, fun u => absurd ⟨q, z, z2⟩ u⟩
        obtain ⟨h2, r2, f2, m2⟩ := sp_tells t1 (p := a) (j := b) (v := k) (x := d) (by omega) (by omega) hk (by omega) z2
        refine ⟨h2, pre _ (fun u => absurd q u) (fun _ => ?_), (f1.mono rfl).trans (f2.mono rfl), m2⟩
        refine (cl_X12_plan_64 rfl (by decide) (r1)).mpr ?_
        refine wk_X12_plan_67 (p67 _ ?_)
        refine wb_X12_plan_79 ?_
        refine (cl_X12_plan_87 rfl (by decide) (r2)).mpr ?_
        refine wb_X12_plan_90 ?_
        rw [if_neg (by decide), if_pos q, if_neg z, if_pos z2]
      · refine ⟨fun u => absurd u.2.2 z2, fun _ => ⟨h1, pre _ (fun u => absurd q u) (fun _ => ?_), f1⟩⟩
        refine (cl_X12_plan_64 rfl (by decide) (r1)).mpr ?_
        refine wk_X12_plan_67 (p67 _ ?_)
        refine wb_X12_plan_79 ?_
        refine (cl_X12_plan_87 rfl (by decide) (sp_tells_no t1 (p := a) (j := b) (v := k) (x := d) (by omega) (by omega) hk (by omega) z2)).mpr ?_
        refine wb_X12_plan_90 ?_
        rw [if_pos rfl, if_pos q, if_neg z, if_neg z2]
  · refine ⟨fun u => absurd u.1 q, fun _ => ⟨h, pre _ (fun _ => by rw [if_neg q]) (fun u => absurd u q), fr.rfl'⟩⟩
/-- numbers drawn -/
theorem v_lz_ex : ∃ f : Int32 → Int32, ∀ z, f z = z * nI 1103515245 + nI 12345 := ⟨_, fun _ => rfl⟩
/-- kept shut: the kernel would count the factor out -/
noncomputable def v_lz : Int32 → Int32 := Classical.choose v_lz_ex
theorem v_lz_eq (z : Int32) : v_lz z = z * nI 1103515245 + nI 12345 := Classical.choose_spec v_lz_ex z
def v_l8 (z : Int32) : Nat := z.toUInt32.toNat / 256
theorem v_l8_lt (z : Int32) : v_l8 z < 16777216 := by
  have := z.toUInt32.toNat_lt
  unfold v_l8
  omega
theorem v_l8_is (z : Int32) : (z.toUInt32 >>> ((nI 8).toUInt32 &&& Int32.toUInt32 31)).toInt32 = nI (v_l8 z) := by
  have lt := v_l8_lt z
  have e : (nI 8).toUInt32 &&& Int32.toUInt32 31 = 8 := by decide
  rw [e]
  have e2 : (z.toUInt32 >>> 8).toNat = v_l8 z := by
    rw [UInt32.toNat_shiftRight]
    show z.toUInt32.toNat >>> 8 = _
    rw [Nat.shiftRight_eq_div_pow]
    rfl
  apply Int32.toInt.inj
  rw [nI_toInt (by omega), ← e2]
  exact BitVec.toInt_eq_toNat_of_lt (x := (z.toUInt32 >>> 8).toBitVec) (by show 2 * (z.toUInt32 >>> 8).toNat < 2 ^ 32; omega)
theorem sp_draw (z : Int32) (hz : hI h 153 16 = z) : XX true 1 202 0 [.ref 153] [] (h) (some (.int (nI (v_l8 (v_lz z)))), ax_wr h 153 16 (.int (v_lz z))) := by
  refine wb_X12_draw_0 ?_
  rw [hz, ← v_lz_eq, wr_I, v_l8_is]
abbrev PS : Type := Int32 × Nat × (Nat → Nat) × (Nat → Nat)
/-- the plans with one more -/
def v_tl (x : PS) (z : Int32) (p j v y : Nat) : PS := (z, v_tn x.2.1 x.2.2.1 p j v, updN x.2.2.1 (v_pat x.2.1 x.2.2.1 p j v) (v_key p j v), updN x.2.2.2 (v_pat x.2.1 x.2.2.1 p j v) y)
/-- plans drawn for a player's sets from t on: whether there was room for all -/
noncomputable def v_lk (c n : Nat) (K P B : Nat → Nat) (p : Nat) : Nat → Nat → PS → Bool × PS
  | 0, _, x => (true, x)
  | f + 1, t, x => if v_pat x.2.1 x.2.2.1 p (v_sJ c n K P B p t) (v_sV c n K P B p t) < 40 then v_lk c n K P B p f (t + 1) (v_tl x (v_lz x.1) p (v_sJ c n K P B p t) (v_sV c n K P B p t) (v_l8 (v_lz x.1) % B (v_sJ c n K P B p t))) else (false, (v_lz x.1, x.2))
/-- for the players from p on -/
noncomputable def v_lp (c n : Nat) (K P B : Nat → Nat) : Nat → Nat → Nat → PS → Int32 × PS
  | 0, _, m, x => (nI m, x)
  | f + 1, p, m, x => if (v_lk c n K P B p (v_sM c n K P B p) 0 x).1 = true then v_lp c n K P B f (p + 1) (m + v_sM c n K P B p) (v_lk c n K P B p (v_sM c n K P B p) 0 x).2 else (-nI 4, (v_lk c n K P B p (v_sM c n K P B p) 0 x).2)
noncomputable abbrev v_lot (c n : Nat) (K P B : Nat → Nat) (np : Nat) (T C : Nat → Nat) (z : Int32) : Int32 × PS := v_lp c n K P B 3 0 0 (z, np, T, C)
/-- the plans told as a state -/
abbrev mPS (x : PS) (h : AH) : Prop := mP x.2.1 x.2.2.1 x.2.2.2 h ∧ hI h 153 16 = x.1
abbrev frO : List (Nat × Option Nat) := [(160, none), (161, none), (162, none), (153, some 14), (158, none), (153, some 6), (153, some 16)]
theorem sp_lot_in {p m : Nat} (hp : p < 3) : ∀ f t, t + f = v_sM c n K P B p → ∀ x h1, mS c n K P B h1 → mSets c n K P B p h1 → mPS x h1 → ∃ h2, fr [(158, none), (153, some 6), (153, some 16)] h1 h2 ∧ mPS (v_lk c n K P B p f t x).2 h2 ∧ ((v_lk c n K P B p f t x).1 = true → ∀ R, XX true 7 201 9 [.ref 153, ax_junk, .int (nI (m + v_sM c n K P B p)), .int (nI (p + 1)), ax_junk] [] (h2) (R) → XX true 7 201 22 [.ref 153, ax_junk, .int (nI (m + t)), .int (nI p), .int (nI t)] [] (h1) (R)) ∧ ((v_lk c n K P B p f t x).1 = false → XX true 7 201 22 [.ref 153, ax_junk, .int (nI (m + t)), .int (nI p), .int (nI t)] [] (h1) ((some (.int (-nI 4)), h2))) := by
  intro f
  induction f with
  | zero =>
    intro t ht x h1 s z mx
    have e : t = v_sM c n K P B p := ht
    have m8 := v_sM_le s.1 p
    refine ⟨h1, fr.rfl', mx, fun _ R u => ?_, fun u => (by cases u)⟩
    refine wb_X12_lot_22 ?_
    rw [z.1, if_neg (nI_nlt (by omega) (by omega)), nI_s]
    rw [← e] at u
    exact wk_X12_lot_9 u
  | succ f ih =>
    intro t ht x h1 s z mx
    have m8 := v_sM_le s.1 p
    have h6 := s.n6
    have si := v_set_is s.1 (p := p) (t := t) (by omega)
    have vl := v_sV_lt c n K P B p t
    have b3 := v_setB s.1 (p := p) (t := t) (by omega)
    have zt := z.2 t (by omega)
    have l8 := v_l8_lt (v_lz x.1)
    have ml := Nat.mod_lt (v_l8 (v_lz x.1)) (show 0 < B (v_sJ c n K P B p t) by omega)
    have f0 : fr [(158, none), (153, some 6), (153, some 16)] h1 (ax_wr h1 153 16 (.int (v_lz x.1))) := fr.wr rfl
    have s0 := s.fr f0 rfl
    have z0 := z.fr f0 (fun _ => rfl) (fun _ => rfl) rfl
    have zt0 := z0.2 t (by omega)
    have t0 : mP x.2.1 x.2.2.1 x.2.2.2 (ax_wr h1 153 16 (.int (v_lz x.1))) := mx.1.fr (fr.wr (L := [(153, some 16)]) rfl) rfl
    have pre : ∀ R, XX true 7 201 51 [.ref 153, ax_junk, .int (nI (m + t)), .int (nI p), .int (nI t)] [.int (nI (v_l8 (v_lz x.1))), .int (nI (v_sV c n K P B p t)), .int (nI (v_sJ c n K P B p t)), .int (nI p), .ref 153] (ax_wr h1 153 16 (.int (v_lz x.1))) (R) → XX true 7 201 22 [.ref 153, ax_junk, .int (nI (m + t)), .int (nI p), .int (nI t)] [] (h1) (R) := by
      intro R u
      refine wb_X12_lot_22 ?_
      rw [z.1, if_pos (nI_lt (by omega) (by omega)), ix_nI (by omega), zt.1, zt.2]
      refine ⟨in_nI (by omega) (by decide), in_nI (by omega) (by decide), ?_⟩
      refine (cl_X12_lot_48 rfl (by decide) (sp_draw _ mx.2)).mpr ?_
      exact wk_X12_lot_51 u
    have p51 : ∀ R r h2, XX true 2 200 0 [.ref 153, .int (nI p), .int (nI (v_sJ c n K P B p t)), .int (nI (v_sV c n K P B p t)), .int (nI (v_l8 (v_lz x.1) % B (v_sJ c n K P B p t))), ax_junk] [] (ax_wr h1 153 16 (.int (v_lz x.1))) (some (.int r), h2) → XX true 7 201 67 [.ref 153, ax_junk, .int (nI (m + t)), .int (nI p), .int (nI t)] [.int (r)] (h2) (R) → XX true 7 201 51 [.ref 153, ax_junk, .int (nI (m + t)), .int (nI p), .int (nI t)] [.int (nI (v_l8 (v_lz x.1))), .int (nI (v_sV c n K P B p t)), .int (nI (v_sJ c n K P B p t)), .int (nI p), .ref 153] (ax_wr h1 153 16 (.int (v_lz x.1))) (R) := by
      intro R r h2 rr u
      refine wb_X12_lot_51 ?_
      rw [ix_nI (by omega), zt0.1, ix_nI (by omega), s0.BB si.1, nI_divI (by omega) (by omega), nI_mulI, nI_remI]
      refine ⟨in_nI (by omega) (by decide), in_nI (by omega) (by decide), ?_, ?_⟩
      · simp only [Bool.not_eq_true', decide_eq_false_iff_not]
        exact nI_ne0 (by omega) (by omega)
      · refine (cl_X12_lot_64 rfl (by decide) (rr)).mpr ?_
        exact wk_X12_lot_67 u
    unfold v_lk
    by_cases q : v_pat x.2.1 x.2.2.1 p (v_sJ c n K P B p t) (v_sV c n K P B p t) < 40
    · rw [if_pos q]
      obtain ⟨h2, r2, f2, m2⟩ := sp_tells t0 (p := p) (j := v_sJ c n K P B p t) (v := v_sV c n K P B p t) (x := v_l8 (v_lz x.1) % B (v_sJ c n K P B p t)) (by omega) (by omega) vl (by omega) q
      have f12 := f0.trans (f2.mono rfl)
      obtain ⟨h3, f3, mx3, g1, g2⟩ := ih (t + 1) (by omega) (v_tl x (v_lz x.1) p (v_sJ c n K P B p t) (v_sV c n K P B p t) (v_l8 (v_lz x.1) % B (v_sJ c n K P B p t))) h2 (s.fr f12 rfl) (z.fr f12 (fun _ => rfl) (fun _ => rfl) rfl) ⟨m2, (f2.I rfl).trans (wr_I _ _ _ _)⟩
      refine ⟨h3, f12.trans f3, mx3, fun u R y => pre R (p51 R _ _ r2 ?_), fun u => pre _ (p51 _ _ _ r2 ?_)⟩
      · refine wb_X12_lot_67 ?_
        rw [if_neg (by decide), nI_s, nI_s, Nat.add_assoc]
        exact wk_X12_lot_22 (g1 u R y)
      · refine wb_X12_lot_67 ?_
        rw [if_neg (by decide), nI_s, nI_s, Nat.add_assoc]
        exact wk_X12_lot_22 (g2 u)
    · rw [if_neg q]
      refine ⟨ax_wr h1 153 16 (.int (v_lz x.1)), f0, ⟨t0, wr_I _ _ _ _⟩, fun u => (by cases u), fun _ => pre _ (p51 _ _ _ (sp_tells_no t0 (p := p) (j := v_sJ c n K P B p t) (v := v_sV c n K P B p t) (x := v_l8 (v_lz x.1) % B (v_sJ c n K P B p t)) (by omega) (by omega) vl (by omega) q) ?_)⟩
      refine wb_X12_lot_67 ?_
      rw [if_pos rfl]
theorem mo_lot (s : mS c n K P B h) (t : mP np T C h) (z : Int32) : ∃ h', XX true 7 201 0 [.ref 153, .int (z), ax_junk, ax_junk, ax_junk] [] (h) (some (.int ((v_lot c n K P B np T C z).1)), h') ∧ fr frO h h' ∧ mPS (v_lot c n K P B np T C z).2 h' := by
  have h6 := s.n6
  have lp : ∀ f p, p + f = 3 → ∀ m, m ≤ 806 * p → ∀ x h1, fr frO h h1 → mPS x h1 → ∃ h', XX true 7 201 9 [.ref 153, ax_junk, .int (nI m), .int (nI p), ax_junk] [] (h1) ((some (.int (v_lp c n K P B f p m x).1), h')) ∧ fr frO h h' ∧ mPS (v_lp c n K P B f p m x).2 h' := by
    intro f
    induction f with
    | zero =>
      intro p hp m hm x h1 f1 mx
      obtain rfl : p = 3 := hp
      refine ⟨h1, ?_, f1, mx⟩
      refine wb_X12_lot_9 ?_
      rw [if_neg (by decide)]
      rfl
    | succ f ih =>
      intro p hp m hm x h1 f1 mx
      have s1 : mS c n K P B h1 := s.fr f1 rfl
      have m8 := v_sM_le s.1 p
      obtain ⟨h2, r2, f2, z2⟩ := sp_laysSets s1 (p := p) (by omega)
      have s2 : mS c n K P B h2 := s1.fr f2 rfl
      obtain ⟨h3, f3, mx3, g1, g2⟩ := sp_lot_in (c := c) (n := n) (K := K) (P := P) (B := B) (p := p) (m := m) (by omega) (v_sM c n K P B p) 0 (Nat.zero_add _) x h2 s2 z2 ⟨mx.1.fr f2 rfl, (f2.I rfl).trans mx.2⟩
      have f13 : fr frO h h3 := (f1.trans (f2.mono rfl)).trans (f3.mono rfl)
      have pre : ∀ R, XX true 7 201 22 [.ref 153, ax_junk, .int (nI (m + 0)), .int (nI p), .int (nI 0)] [] (h2) (R) → XX true 7 201 9 [.ref 153, ax_junk, .int (nI m), .int (nI p), ax_junk] [] (h1) (R) := by
        intro R u
        refine wb_X12_lot_9 ?_
        rw [if_pos (nI_lt (by omega) (by omega))]
        refine (cl_X12_lot_16 rfl (by decide) (r2)).mpr ?_
        refine wb_X12_lot_19 ?_
        exact wk_X12_lot_22 u
      unfold v_lp
      by_cases q : (v_lk c n K P B p (v_sM c n K P B p) 0 x).1 = true
      · rw [if_pos q]
        obtain ⟨h', r', f', mx'⟩ := ih (p + 1) (by omega) (m + v_sM c n K P B p) (by omega) _ h3 f13 mx3
        exact ⟨h', pre _ (g1 q _ r'), f', mx'⟩
      · rw [if_neg q]
        exact ⟨h3, pre _ (g2 (Bool.eq_false_iff.mpr q)), f13, mx3⟩
  obtain ⟨h', r', f', mx'⟩ := lp 3 0 rfl 0 (Nat.le_refl _) (z, np, T, C) (ax_wr h 153 16 (.int z)) (fr.wr rfl) ⟨t.fr (fr.wr (L := [(153, some 16)]) rfl) rfl, wr_I _ _ _ _⟩
  refine ⟨h', ?_, f', mx'⟩
  refine wb_X12_lot_0 ?_
  exact wk_X12_lot_9 r'
end S37
