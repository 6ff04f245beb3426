/-! THE REFERENCE'S CALLS: plans out of a sheet -/
section S47
variable {c n np nr : Nat} {K P B T C : Nat → Nat} {sS sZ : Nat → Nat} {sN : Nat → Nat → Int32} {h h' : AH}
/-- plans loaded from t on: as far as they go -/
noncomputable def v_ld (c n : Nat) (K P B : Nat → Nat) (p : Nat) (N : Nat → Int32) : Nat → Nat → PT → Nat × PT
  | 0, t, x => (t, x)
  | f + 1, t, x => if isLt (B (v_sJ c n K P B p t)) (N t) ∧ v_pat x.1 x.2.1 p (v_sJ c n K P B p t) (v_sV c n K P B p t) < 40 then v_ld c n K P B p N f (t + 1) (v_tl1 x p (v_sJ c n K P B p t) (v_sV c n K P B p t) (ix (N t))) else (t, x)
abbrev loadOk (sS : Nat → Nat) (s p : Int32) : Prop := isLe 3 s ∧ isPl p ∧ sS (ix s) ≠ 0
noncomputable abbrev v_load (c n : Nat) (K P B : Nat → Nat) (sZ : Nat → Nat) (sN : Nat → Nat → Int32) (np : Nat) (T C : Nat → Nat) (s p : Nat) : Nat × PT := v_ld c n K P B p (sN s) (min (sZ s) (v_sM c n K P B p)) 0 (np, T, C)
noncomputable def a_load (c n : Nat) (K P B : Nat → Nat) (sS sZ : Nat → Nat) (sN : Nat → Nat → Int32) (np : Nat) (T C : Nat → Nat) (s p : Int32) : Int32 := if loadOk sS s p then nI (v_load c n K P B sZ sN np T C (ix s) (ix p)).1 else if isLe 3 s ∧ isPl p then -nI 11 else -nI 2
abbrev frLd : List (Nat × Option Nat) := (158, none) :: (153, some 6) :: frS
theorem mo_load_lp (st : mS c n K P B h) {s p : Nat} (hs : s < 4) (hp : p < 3) : ∀ f t, t + f = min (sZ s) (v_sM c n K P B p) → ∀ x h1, fr frLd h h1 → mSh sS sZ sN h1 → mSets c n K P B p h1 → mPT x h1 → ∃ h', XX true 7 243 36 [.ref 153, .int (nI s), .int (nI p), .int (nI t)] [] (h1) ((some (.int (nI (v_ld c n K P B p (sN s) f t x).1)), h')) ∧ fr frLd h h' ∧ mPT (v_ld c n K P B p (sN s) f t x).2 h' := by
  have h6 := st.n6
  have m8 := v_sM_le st.1 p
  intro f
  induction f with
  | zero =>
    intro t ht x h1 f1 m z mx
    have z40 := (m s hs).2.1
    refine ⟨h1, ?_, f1, mx⟩
    refine wb_X12_loadPlans_36 ?_
    rw [ix_nI (by omega), (m s hs).2.2.2.1, z.1]
    refine ⟨in_nI hs (by decide), ?_⟩
    by_cases q : t < sZ s
    · rw [if_pos (nI_lt q (by omega)), if_neg (nI_nlt (by omega) (by omega))]
      rfl
    · rw [if_neg (nI_nlt (by omega) (by omega))]
      rfl
  | succ f ih =>
    intro t ht x h1 f1 m z mx
    have z40 := (m s hs).2.1
    have s1 : mS c n K P B h1 := st.fr f1 rfl
    have si := v_set_is st.1 (p := p) (t := t) (by omega)
    have b3 := v_setB st.1 (p := p) (t := t) (by omega)
    have zt := z.2 t (by omega)
    have vl := v_sV_lt c n K P B p t
    have nt := (m s hs).2.2.2.2 t (by omega)
    have pre : ∀ R, (isLt (B (v_sJ c n K P B p t)) (sN s t) → XX true 7 243 112 [.ref 153, .int (nI s), .int (nI p), .int (nI t)] [.int (sN s t), .int (nI (v_sV c n K P B p t)), .int (nI (v_sJ c n K P B p t)), .int (nI p), .ref 153] h1 R) → (¬ isLt (B (v_sJ c n K P B p t)) (sN s t) → R = (some (.int (nI t)), h1)) → XX true 7 243 36 [.ref 153, .int (nI s), .int (nI p), .int (nI t)] [] (h1) (R) := by
      intro R u u2
      refine wb_X12_loadPlans_36 ?_
      rw [ix_nI (by omega), (m s hs).2.2.2.1, z.1]
      refine ⟨in_nI hs (by decide), ?_⟩
      rw [if_pos (nI_lt (by omega) (by omega)), if_pos (nI_lt (by omega) (by omega)), nI_mulI, nI_add, ix_nI (by omega), ix_nI (by omega), nt, zt.1, ix_nI (by omega), s1.BB si.1]
      refine ⟨in_nI (by omega) (by decide), in_nI (by omega) (by decide), in_nI (by omega) (by decide), ?_⟩
      refine (cl_X12_loadPlans_81 rfl (by decide) (sp_in _ _ _ _)).mpr ?_
      refine wb_X12_loadPlans_84 ?_
      rw [b2i_cong (in_pred (by omega) (sN s t)), nI_mulI, nI_add, ix_nI (by omega), ix_nI (by omega), nt, zt.1, zt.2]
      by_cases q : isLt (B (v_sJ c n K P B p t)) (sN s t)
      · rw [b2i_t q, if_neg (by decide)]
        exact ⟨in_nI (by omega) (by decide), in_nI (by omega) (by decide), in_nI (by omega) (by decide), u q⟩
      · rw [b2i_f q, if_pos rfl]
        exact u2 q
    unfold v_ld
    by_cases q : isLt (B (v_sJ c n K P B p t)) (sN s t)
    · obtain ⟨y, hy, ey⟩ := q.ex (by omega)
      by_cases q2 : v_pat x.1 x.2.1 p (v_sJ c n K P B p t) (v_sV c n K P B p t) < 40
      · rw [if_pos ⟨q, q2⟩]
        have e1 : v_tl1 x p (v_sJ c n K P B p t) (v_sV c n K P B p t) (ix (sN s t)) = (v_tn x.1 x.2.1 p (v_sJ c n K P B p t) (v_sV c n K P B p t), updN x.2.1 (v_pat x.1 x.2.1 p (v_sJ c n K P B p t) (v_sV c n K P B p t)) (v_key p (v_sJ c n K P B p t) (v_sV c n K P B p t)), updN x.2.2 (v_pat x.1 x.2.1 p (v_sJ c n K P B p t) (v_sV c n K P B p t)) y) := by
          unfold v_tl1
          rw [if_pos q2, ey, ix_nI (by omega)]
        obtain ⟨h2, r2, f2, m2⟩ := sp_tells mx (p := p) (j := v_sJ c n K P B p t) (v := v_sV c n K P B p t) (x := y) (by omega) (by omega) vl (by omega) q2
        obtain ⟨h', r', f', m'⟩ := ih (t + 1) (by omega) (v_tl1 x p (v_sJ c n K P B p t) (v_sV c n K P B p t) (ix (sN s t))) h2 (f1.trans (f2.mono rfl)) (m.fr f2 (fun _ => rfl) (fun _ => rfl) (fun _ => rfl)) (z.fr f2 (fun _ => rfl) (fun _ => rfl) rfl) (by rw [e1]; exact m2)
        refine ⟨h', pre _ (fun _ => ?_) (fun u => absurd q u), f', m'⟩
        rw [ey]
        refine (cl_X12_loadPlans_112 rfl (by decide) (r2)).mpr ?_
        refine wb_X12_loadPlans_115 ?_
        rw [if_neg (by decide), nI_s, ← ey]
        exact r'
      · rw [if_neg (fun u => q2 u.2)]
        refine ⟨h1, pre _ (fun _ => ?_) (fun u => absurd q u), f1, mx⟩
        rw [ey]
        refine (cl_X12_loadPlans_112 rfl (by decide) (sp_tells_no mx (p := p) (j := v_sJ c n K P B p t) (v := v_sV c n K P B p t) (x := y) (by omega) (by omega) vl (by omega) q2)).mpr ?_
        refine wb_X12_loadPlans_115 ?_
        rw [if_pos rfl]
    · rw [if_neg (fun u => q u.1)]
      exact ⟨h1, pre _ (fun u => absurd u q) (fun _ => rfl), f1, mx⟩
theorem mo_load (st : mS c n K P B h) (t : mP np T C h) (m : mSh sS sZ sN h) (s p : Int32) : (loadOk sS s p → ∃ h', XX true 7 243 0 [.ref 153, .int (s), .int (p), ax_junk] [] (h) (some (.int (a_load c n K P B sS sZ sN np T C s p)), h') ∧ fr frLd h h' ∧ mPT (v_load c n K P B sZ sN np T C (ix s) (ix p)).2 h') ∧ (¬ loadOk sS s p → XX true 7 243 0 [.ref 153, .int (s), .int (p), ax_junk] [] (h) (some (.int (a_load c n K P B sS sZ sN np T C s p)), h)) := by
  unfold a_load
  constructor
  · intro q
    obtain ⟨q0, q1, q2⟩ := id q
    obtain ⟨a, ha, rfl⟩ := q0.ex (by decide)
    obtain ⟨b, hb, rfl⟩ := q1.ex
    have ea : ix (nI a) = a := ix_nI (by omega)
    have eb : ix (nI b) = b := ix_nI (by omega)
    rw [ea] at q2
    simp only [ea, eb]
    obtain ⟨h1, r1, f1, z1⟩ := sp_laysSets st hb
    obtain ⟨h', r', f', m'⟩ := mo_load_lp (sS := sS) (sZ := sZ) (sN := sN) st (s := a) (by omega) hb _ 0 (Nat.zero_add _) (np, T, C) h1 (f1.mono rfl) (m.fr f1 (fun _ => rfl) (fun _ => rfl) (fun _ => rfl)) z1 (t.fr f1 rfl)
    refine ⟨h', ?_, f', m'⟩
    refine wb_X12_loadPlans_0 ?_
    refine (cl_X12_loadPlans_1 rfl (by decide) (sp_isSheet _ _)).mpr ?_
    refine wb_X12_loadPlans_4 ?_
    rw [b2i_t q0, if_neg (by decide)]
    refine (cl_X12_loadPlans_8 rfl (by decide) (sp_isPlayer _ _)).mpr ?_
    refine wb_X12_loadPlans_11 ?_
    rw [b2i_t q1, if_neg (by decide), if_pos q, ea, (m a (by omega)).2.2.1, if_neg (fun u => q2 ((srW_neg _ (m a (by omega)).1).mp u))]
    refine ⟨in_nI (by omega) (by decide), ?_⟩
    refine (cl_X12_loadPlans_31 rfl (by decide) (r1)).mpr ?_
    refine wb_X12_loadPlans_34 ?_
    exact r'
  · intro q
    rw [if_neg q]
    refine wb_X12_loadPlans_0 ?_
    refine (cl_X12_loadPlans_1 rfl (by decide) (sp_isSheet _ _)).mpr ?_
    refine wb_X12_loadPlans_4 ?_
    by_cases q0 : isLe 3 s
    · rw [b2i_t q0, if_neg (by decide)]
      refine (cl_X12_loadPlans_8 rfl (by decide) (sp_isPlayer _ _)).mpr ?_
      refine wb_X12_loadPlans_11 ?_
      by_cases q1 : isPl p
      · obtain ⟨a, ha, rfl⟩ := q0.ex (by decide)
        have ea : ix (nI a) = a := ix_nI (by omega)
        have q2 : sS a = 0 := by
          by_cases z : sS a = 0
          · exact z
          · exact absurd ⟨q0, q1, by rw [ea]; exact z⟩ q
        have q01 : isLe 3 (nI a) ∧ isPl p := ⟨q0, q1⟩
        rw [if_pos q01, b2i_t q1, if_neg (by decide), ea, (m a (by omega)).2.2.1, if_pos ((srW_neg _ (m a (by omega)).1).mpr q2)]
        exact ⟨in_nI (by omega) (by decide), rfl⟩
      · rw [b2i_f q1, if_pos rfl, if_neg (fun z => q1 z.2)]
    · rw [b2i_f q0, if_pos rfl, if_neg (fun z => q0 z.1)]
end S47
