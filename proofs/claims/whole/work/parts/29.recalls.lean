/-! RECALL: whether who comes to a set knows always what they once knew and chose -/
/-- a player's view at an earlier stage of a way behind j stages -/
abbrev v_pv (c : Nat) (K P B : Nat → Nat) (p j w i : Nat) : Nat := v_view K P p i (v_what c K B j w) i
def v_rcs (c : Nat) (K P B : Nat → Nat) (p j v : Nat) : Prop := ∀ w w', w < v_ways c K B j → w' < v_ways c K B j → v_vw c K P B p j w = v → v_vw c K P B p j w' = v → ∀ i, i < j → picks K P p i → v_pv c K P B p j w i = v_pv c K P B p j w' i ∧ v_what c K B j w i = v_what c K B j w' i
def v_rec (c n : Nat) (K P B : Nat → Nat) (p : Nat) : Prop := ∀ j, j < n → picks K P p j → ∀ v, v_rcs c K P B p j v
/-- what is kept of a way -/
def hadW (c : Nat) (K P B : Nat → Nat) (p j w m : Nat) (h : AH) : Prop := ∀ i, i < m → picks K P p i → hI h 163 (2 * i) = nI (v_pv c K P B p j w i) ∧ hI h 163 (2 * i + 1) = nI (v_what c K B j w i)
abbrev frH : List (Nat × Option Nat) := [(160, none), (163, none)]
section S29
variable {c n np : Nat} {K P B T C : Nat → Nat} {h h' : AH}
theorem v_pv_lt (s : okS c n K P B) {j i : Nat} (hj : j ≤ n) (hi : i ≤ j) (p w : Nat) : v_pv c K P B p j w i < 524288 := by
  have h6 := s.2.2.1
  have h1 := v_view_lt (K := K) (P := P) (p := p) (j := i) (e := v_what c K B j w) i (fun a ha => v_what_lt s hj w (by omega))
  have : 8 ^ i ≤ 8 ^ 6 := Nat.pow_le_pow_right (by decide) (by omega)
  show v_view K P p i (v_what c K B j w) i < _
  omega
/-- the stages of one way of the set: had becomes this way's; where another was there ahead, it must be the same -/
theorem sp_rec_in (s : mS c n K P B h) {p j v t M w : Nat} (hp : p < 3) (hj : j < n) {b : Int32} (hb : b = nI 0 ∨ b = nI 1) : ∀ k i, i + k = j → ∀ h1, fr frH h h1 → okO h1 j (v_what c K B j w) → hadW c K P B p j w i h1 → (∀ w0, w0 < v_ways c K B j → b = nI 0 → (∀ a, i ≤ a → a < j → picks K P p a → hI h1 163 (2 * a) = nI (v_pv c K P B p j w0 a) ∧ hI h1 163 (2 * a + 1) = nI (v_what c K B j w0 a)) → ∃ h2, fr frH h h2 ∧ ((hadW c K P B p j w j h2 ∧ (∀ a, i ≤ a → a < j → picks K P p a → v_pv c K P B p j w0 a = v_pv c K P B p j w a ∧ v_what c K B j w0 a = v_what c K B j w a) ∧ ∀ R, XX true 5 198 174 [.ref 153, .int (nI p), .int (nI t), .int (nI j), .int (nI 0), .int (nI M), .int (nI w), ax_junk, ax_junk] [] (h2) (R) → XX true 5 198 55 [.ref 153, .int (nI p), .int (nI t), .int (nI j), .int (b), .int (nI M), .int (nI w), .int (nI i), ax_junk] [] (h1) (R)) ∨ ((∃ a, i ≤ a ∧ a < j ∧ picks K P p a ∧ ¬ (v_pv c K P B p j w0 a = v_pv c K P B p j w a ∧ v_what c K B j w0 a = v_what c K B j w a)) ∧ XX true 5 198 55 [.ref 153, .int (nI p), .int (nI t), .int (nI j), .int (b), .int (nI M), .int (nI w), .int (nI i), ax_junk] [] (h1) ((some (.int (nI 0)), h2))))) ∧ (b = nI 1 → ∃ h2, fr frH h h2 ∧ hadW c K P B p j w j h2 ∧ ∀ R, XX true 5 198 174 [.ref 153, .int (nI p), .int (nI t), .int (nI j), .int (nI 0), .int (nI M), .int (nI w), ax_junk, ax_junk] [] (h2) (R) → XX true 5 198 55 [.ref 153, .int (nI p), .int (nI t), .int (nI j), .int (b), .int (nI M), .int (nI w), .int (nI i), ax_junk] [] (h1) (R)) := by
  have h6 := s.n6
  intro k
  induction k with
  | zero =>
    intro i hi h1 f o hw
    obtain rfl : i = j := hi
    have go : ∀ R, XX true 5 198 174 [.ref 153, .int (nI p), .int (nI t), .int (nI i), .int (nI 0), .int (nI M), .int (nI w), ax_junk, ax_junk] [] (h1) (R) → XX true 5 198 55 [.ref 153, .int (nI p), .int (nI t), .int (nI i), .int (b), .int (nI M), .int (nI w), .int (nI i), ax_junk] [] (h1) (R) := by
      intro R z
      refine wb_X12_recallsAt_55 ?_
      rw [if_neg (nI_nlt (Nat.le_refl _) (by omega))]
      exact wk_X12_recallsAt_174 z
    refine ⟨fun w0 _ _ _ => ⟨h1, f, Or.inl ⟨hw, fun a h1 h2 => absurd h2 (by omega), go⟩⟩, fun _ => ⟨h1, f, hw, go⟩⟩
  | succ k ih =>
    intro i hi h1 f o hw
    have s1 : mS c n K P B h1 := s.fr f rfl
    have ok := s.ok (i := i) (by omega)
    have vl := v_pv_lt s.1 (j := j) (i := i) (by omega) (by omega) p w
    have el := v_what_lt s.1 (j := j) (by omega) w (i := i) (by omega)
    have nxt : ∀ h2 R, XX true 5 198 55 [.ref 153, .int (nI p), .int (nI t), .int (nI j), .int (b), .int (nI M), .int (nI w), .int (nI (i + 1)), ax_junk] [] (h2) (R) → XX true 5 198 165 [.ref 153, .int (nI p), .int (nI t), .int (nI j), .int (b), .int (nI M), .int (nI w), .int (nI i), ax_junk] [] (h2) (R) := by
      intro h2 R z
      refine wb_X12_recallsAt_165 ?_
      rw [nI_s]
      exact wk_X12_recallsAt_55 z
    have pre : ∀ R, (picks K P p i → XX true 5 198 92 [.ref 153, .int (nI p), .int (nI t), .int (nI j), .int (b), .int (nI M), .int (nI w), .int (nI i), ax_junk] [.int (nI (v_pv c K P B p j w i))] (h1) (R)) → (¬ picks K P p i → XX true 5 198 165 [.ref 153, .int (nI p), .int (nI t), .int (nI j), .int (b), .int (nI M), .int (nI w), .int (nI i), ax_junk] [] (h1) (R)) → XX true 5 198 55 [.ref 153, .int (nI p), .int (nI t), .int (nI j), .int (b), .int (nI M), .int (nI w), .int (nI i), ax_junk] [] (h1) (R) := by
      intro R x y
      refine wb_X12_recallsAt_55 ?_
      rw [if_pos (nI_lt (by omega) (by omega)), ix_nI (by omega), s1.KK (by omega)]
      refine ⟨in_nI (by omega) (by decide), ?_⟩
      refine (cl_X12_recallsAt_68 rfl (by decide) (sp_isChoice (by omega) h1)).mpr ?_
      refine wb_X12_recallsAt_71 ?_
      by_cases q : isChc (K i)
      · rw [b2i_t q, if_neg (by decide), ix_nI (by omega), s1.PP (by omega)]
        refine ⟨in_nI (by omega) (by decide), ?_⟩
        by_cases q2 : P i = p
        · rw [if_pos (congrArg nI q2)]
          refine (cl_X12_recallsAt_89 rfl (by decide) (sp_viewOf s1 (by omega) hp o (by omega))).mpr ?_
          exact x ⟨q, q2⟩
        · rw [if_neg (fun y => q2 ((nI_eq (by omega) (by omega)).mp y))]
          exact wk_X12_recallsAt_165 (y (fun y => q2 y.2))
      · rw [b2i_f q, if_pos rfl]
        exact wk_X12_recallsAt_165 (y (fun y => q y.1))
    by_cases q : picks K P p i
    · -- kept
      have fw : fr frH h (ax_wr (ax_wr h1 163 (2 * i) (.int (nI (v_pv c K P B p j w i)))) 163 (2 * i + 1) (.int (nI (v_what c K B j w i)))) := (f.wr' (by simp [inS])).wr' (by simp [inS])
      have ow : okO (ax_wr (ax_wr h1 163 (2 * i) (.int (nI (v_pv c K P B p j w i)))) 163 (2 * i + 1) (.int (nI (v_what c K B j w i)))) j (v_what c K B j w) := fun a ha => by rw [wr_Ia (by decide), wr_Ia (by decide)]; exact o a ha
      have hw2 : hadW c K P B p j w (i + 1) (ax_wr (ax_wr h1 163 (2 * i) (.int (nI (v_pv c K P B p j w i)))) 163 (2 * i + 1) (.int (nI (v_what c K B j w i)))) := by
        intro a ha qa
        by_cases e : a = i
        · subst e
          rw [wr_Ij (by omega), wr_I, wr_I]
          exact ⟨rfl, rfl⟩
        · rw [wr_Ij (by omega), wr_Ij (by omega), wr_Ij (by omega), wr_Ij (by omega)]
          exact hw a (by omega) qa
      have k136 : ∀ R, XX true 5 198 165 [.ref 153, .int (nI p), .int (nI t), .int (nI j), .int (b), .int (nI M), .int (nI w), .int (nI i), ax_junk] [] ((ax_wr (ax_wr h1 163 (2 * i) (.int (nI (v_pv c K P B p j w i)))) 163 (2 * i + 1) (.int (nI (v_what c K B j w i))))) (R) → XX true 5 198 136 [.ref 153, .int (nI p), .int (nI t), .int (nI j), .int (b), .int (nI M), .int (nI w), .int (nI i), .int (nI (v_pv c K P B p j w i))] [] (h1) (R) := by
        intro R z
        refine wb_X12_recallsAt_136 ?_
        rw [nI_mulI, nI_add, ix_nI (by omega), ix_nI (by omega), ix_nI (by omega), wr_Ia (by decide), o i (by omega)]
        exact ⟨in_nI (by omega) (by decide), in_nI (by omega) (by decide), in_nI (by omega) (by decide), wk_X12_recallsAt_165 z⟩
      have I := ih (i + 1) (by omega) _ fw ow hw2
      refine ⟨fun w0 hw0 b0 hc => ?_, fun b1 => ?_⟩
      · have c0 := hc i (Nat.le_refl _) (by omega) q
        have vl0 := v_pv_lt s.1 (j := j) (i := i) (by omega) (by omega) p w0
        have el0 := v_what_lt s.1 (j := j) (by omega) w0 (i := i) (by omega)
        have cmp : ∀ R, (v_pv c K P B p j w0 i = v_pv c K P B p j w i ∧ v_what c K B j w0 i = v_what c K B j w i → XX true 5 198 136 [.ref 153, .int (nI p), .int (nI t), .int (nI j), .int (b), .int (nI M), .int (nI w), .int (nI i), .int (nI (v_pv c K P B p j w i))] [] (h1) (R)) → (¬ (v_pv c K P B p j w0 i = v_pv c K P B p j w i ∧ v_what c K B j w0 i = v_what c K B j w i) → R = (some (.int (nI 0)), h1)) → XX true 5 198 92 [.ref 153, .int (nI p), .int (nI t), .int (nI j), .int (b), .int (nI M), .int (nI w), .int (nI i), ax_junk] [.int (nI (v_pv c K P B p j w i))] (h1) (R) := by
          intro R x y
          refine wb_X12_recallsAt_92 ?_
          rw [if_pos b0, nI_mulI, nI_add, ix_nI (by omega), ix_nI (by omega), ix_nI (by omega), c0.1, c0.2, o i (by omega)]
          refine ⟨in_nI (by omega) (by decide), ?_⟩
          by_cases z : v_pv c K P B p j w0 i = v_pv c K P B p j w i
          · rw [if_pos (congrArg nI z)]
            refine ⟨in_nI (by omega) (by decide), in_nI (by omega) (by decide), ?_⟩
            by_cases z2 : v_what c K B j w0 i = v_what c K B j w i
            · rw [if_pos (congrArg nI z2)]
              exact x ⟨z, z2⟩
            · rw [if_neg (fun u => z2 ((nI_eq (by omega) (by omega)).mp u))]
              exact y (fun u => z2 u.2)
          · rw [if_neg (fun u => z ((nI_eq (by omega) (by omega)).mp u))]
            exact y (fun u => z u.1)
        by_cases z : v_pv c K P B p j w0 i = v_pv c K P B p j w i ∧ v_what c K B j w0 i = v_what c K B j w i
        · obtain ⟨h2, f2, r2⟩ := I.1 w0 hw0 b0 (fun a ia aj qa => by
            rw [wr_Ij (by omega), wr_Ij (by omega), wr_Ij (by omega), wr_Ij (by omega)]
            exact hc a (by omega) aj qa)
          refine ⟨h2, f2, ?_⟩
          rcases r2 with ⟨hx, hy, g⟩ | ⟨⟨a, ia, aj, qa, ne⟩, g⟩
          · refine Or.inl ⟨hx, fun a ia aj qa => ?_, fun R u => ?_⟩
            · by_cases e : a = i
              · subst e; exact z
              · exact hy a (by omega) aj qa
            · exact pre R (fun _ => cmp R (fun _ => k136 R (nxt _ R (g R u))) (fun n => absurd z n)) (fun n => absurd q n)
          · exact Or.inr ⟨⟨a, by omega, aj, qa, ne⟩, pre _ (fun _ => cmp _ (fun _ => k136 _ (nxt _ _ g)) (fun n => absurd z n)) (fun n => absurd q n)⟩
        · exact ⟨h1, f, Or.inr ⟨⟨i, Nat.le_refl _, by omega, q, z⟩, pre _ (fun _ => cmp _ (fun n => absurd n z) (fun _ => rfl)) (fun n => absurd q n)⟩⟩
      · obtain ⟨h2, f2, hx, g⟩ := I.2 b1
        refine ⟨h2, f2, hx, fun R u => pre R (fun _ => ?_) (fun n => absurd q n)⟩
        refine wb_X12_recallsAt_92 ?_
        rw [b1, if_neg (by decide), ← b1]
        exact k136 R (nxt _ R (g R u))
    · have hw2 : hadW c K P B p j w (i + 1) h1 := by
        intro a ha qa
        by_cases e : a = i
        · subst e; exact absurd qa q
        · exact hw a (by omega) qa
      have I := ih (i + 1) (by omega) h1 f o hw2
      refine ⟨fun w0 hw0 b0 hc => ?_, fun b1 => ?_⟩
      · obtain ⟨h2, f2, r2⟩ := I.1 w0 hw0 b0 (fun a ia aj qa => hc a (by omega) aj qa)
        refine ⟨h2, f2, ?_⟩
        rcases r2 with ⟨hx, hy, g⟩ | ⟨⟨a, ia, aj, qa, ne⟩, g⟩
        · refine Or.inl ⟨hx, fun a ia aj qa => ?_, fun R u => pre R (fun n => absurd n q) (fun _ => nxt _ R (g R u))⟩
          by_cases e : a = i
          · subst e; exact absurd qa q
          · exact hy a (by omega) aj qa
        · exact Or.inr ⟨⟨a, by omega, aj, qa, ne⟩, pre _ (fun n => absurd n q) (fun _ => nxt _ _ g)⟩
      · obtain ⟨h2, f2, hx, g⟩ := I.2 b1
        exact ⟨h2, f2, hx, fun R u => pre R (fun n => absurd n q) (fun _ => nxt _ R (g R u))⟩
theorem hadW.fr {p j w m : Nat} {h2 : AH} (x : hadW c K P B p j w m h) (f : fr [(160, none)] h h2) : hadW c K P B p j w m h2 := fun i hi q => ⟨(f.I rfl).trans (x i hi q).1, (f.I rfl).trans (x i hi q).2⟩
abbrev agrW (c : Nat) (K P B : Nat → Nat) (p j w w' : Nat) : Prop := ∀ i, i < j → picks K P p i → v_pv c K P B p j w i = v_pv c K P B p j w' i ∧ v_what c K B j w i = v_what c K B j w' i
theorem sp_recallsAt (s : mS c n K P B h) {p t : Nat} (hp : p < 3) (z : mSets c n K P B p h) (ht : t < v_sM c n K P B p) : ∃ h' r, XX true 5 198 0 [.ref 153, .int (nI p), .int (nI t), ax_junk, ax_junk, ax_junk, ax_junk, ax_junk, ax_junk] [] (h) (some (.int (r)), h') ∧ fr frH h h' ∧ ((r = nI 1 ∧ v_rcs c K P B p (v_sJ c n K P B p t) (v_sV c n K P B p t)) ∨ (r = nI 0 ∧ ¬ v_rcs c K P B p (v_sJ c n K P B p t) (v_sV c n K P B p t))) := by
  have h6 := s.n6
  have m8 := v_sM_le s.1 p
  obtain ⟨hj, qj, _⟩ := v_set_is s.1 ht
  have vl := v_sV_lt c n K P B p t
  have zt := z.2 t ht
  generalize v_sJ c n K P B p t = j at *
  generalize v_sV c n K P B p t = v at *
  have wl := v_ways_le s.1 (j := j) (by omega)
  have lp : ∀ k w, w + k = v_ways c K B j → ∀ h1 b, fr frH h h1 → ((b = nI 1 ∧ ∀ w', w' < w → v_vw c K P B p j w' ≠ v) ∨ (b = nI 0 ∧ ∃ w0, w0 < w ∧ v_vw c K P B p j w0 = v ∧ hadW c K P B p j w0 j h1 ∧ ∀ w', w' < w → v_vw c K P B p j w' = v → agrW c K P B p j w0 w')) → ∃ h' r, XX true 5 198 20 [.ref 153, .int (nI p), .int (nI t), .int (nI j), .int (b), .int (nI (v_ways c K B j)), .int (nI w), ax_junk, ax_junk] [] (h1) ((some (.int r), h')) ∧ fr frH h h' ∧ ((r = nI 1 ∧ v_rcs c K P B p j v) ∨ (r = nI 0 ∧ ¬ v_rcs c K P B p j v)) := by
    intro k
    induction k with
    | zero =>
      intro w hw h1 b f inv
      obtain rfl : w = v_ways c K B j := hw
      refine ⟨h1, nI 1, ?_, f, Or.inl ⟨rfl, ?_⟩⟩
      · refine wb_X12_recallsAt_20 ?_
        rw [if_neg (nI_nlt (Nat.le_refl _) (by omega))]
      · intro w1 w2 l1 l2 e1 e2 i hi qi
        rcases inv with ⟨_, no⟩ | ⟨_, w0, _, _, _, al⟩
        · exact absurd e1 (no w1 l1)
        · have a1 := al w1 l1 e1 i hi qi
          have a2 := al w2 l2 e2 i hi qi
          exact ⟨a1.1.symm.trans a2.1, a1.2.symm.trans a2.2⟩
    | succ k ih =>
      intro w hw h1 b f inv
      have s1 : mS c n K P B h1 := s.fr f rfl
      obtain ⟨h2, r2, f2, o⟩ := sp_lays s1 (Nat.le_of_lt hj) (w := w) (by omega)
      have s2 : mS c n K P B h2 := s1.fr f2 rfl
      have f12 : fr frH h h2 := f.trans (f2.mono rfl)
      have wv := (v_vw_lt s.1 (j := j) (by omega) p w).2
      have hb : b = nI 0 ∨ b = nI 1 := inv.elim (fun x => Or.inr x.1) (fun x => Or.inl x.1)
      have zt2 : hI h2 162 t = nI v := (f12.I rfl).trans zt.2
      have nxt : ∀ b' h3 R, XX true 5 198 20 [.ref 153, .int (nI p), .int (nI t), .int (nI j), .int (b'), .int (nI (v_ways c K B j)), .int (nI (w + 1)), ax_junk, ax_junk] [] (h3) (R) → XX true 5 198 174 [.ref 153, .int (nI p), .int (nI t), .int (nI j), .int (b'), .int (nI (v_ways c K B j)), .int (nI w), ax_junk, ax_junk] [] (h3) (R) := by
        intro b' h3 R u
        refine wb_X12_recallsAt_174 ?_
        rw [nI_s]
        exact wk_X12_recallsAt_20 u
      have pre : ∀ R, (v_vw c K P B p j w = v → XX true 5 198 55 [.ref 153, .int (nI p), .int (nI t), .int (nI j), .int (b), .int (nI (v_ways c K B j)), .int (nI w), .int (nI 0), ax_junk] [] (h2) (R)) → (v_vw c K P B p j w ≠ v → XX true 5 198 174 [.ref 153, .int (nI p), .int (nI t), .int (nI j), .int (b), .int (nI (v_ways c K B j)), .int (nI w), ax_junk, ax_junk] [] (h2) (R)) → XX true 5 198 20 [.ref 153, .int (nI p), .int (nI t), .int (nI j), .int (b), .int (nI (v_ways c K B j)), .int (nI w), ax_junk, ax_junk] [] (h1) (R) := by
        intro R x y
        refine wb_X12_recallsAt_20 ?_
        rw [if_pos (nI_lt (by omega) (by omega))]
        refine (cl_X12_recallsAt_31 rfl (by decide) (r2)).mpr ?_
        refine wb_X12_recallsAt_34 ?_
        refine (cl_X12_recallsAt_37 rfl (by decide) (sp_viewOf s2 (Nat.le_of_lt hj) hp o (Nat.le_refl _))).mpr ?_
        refine wb_X12_recallsAt_40 ?_
        rw [ix_nI (by omega), zt2]
        refine ⟨in_nI (by omega) (by decide), ?_⟩
        by_cases q : v_vw c K P B p j w = v
        · rw [if_pos (congrArg nI q)]
          exact wk_X12_recallsAt_55 (x q)
        · rw [if_neg (fun u => q ((nI_eq (by omega) (by omega)).mp u))]
          exact wk_X12_recallsAt_174 (y q)
      by_cases q : v_vw c K P B p j w = v
      · have I := sp_rec_in (v := v) (t := t) (M := v_ways c K B j) (w := w) s hp hj hb j 0 (by omega) h2 f12 o (fun i hi => absurd hi (Nat.not_lt_zero _))
        rcases inv with ⟨b1, no⟩ | ⟨b0, w0, w0l, w0v, w0h, al⟩
        · obtain ⟨h3, f3, hx, g⟩ := I.2 b1
          obtain ⟨h', r, r', f', res⟩ := ih (w + 1) (by omega) h3 (nI 0) f3 (Or.inr ⟨rfl, w, by omega, q, hx, fun w' l' e' => by
            by_cases e : w' = w
            · rw [e]; exact fun i _ _ => ⟨rfl, rfl⟩
            · exact absurd e' (no w' (by omega))⟩)
          exact ⟨h', r, pre _ (fun _ => g _ (nxt _ _ _ r')) (fun n => absurd q n), f', res⟩
        · obtain ⟨h3, f3, alt⟩ := I.1 w0 (by omega) b0 (fun a _ aj qa => (w0h.fr f2) a aj qa)
          rcases alt with ⟨hx, hy, g⟩ | ⟨⟨a, _, aj, qa, ne⟩, g⟩
          · obtain ⟨h', r, r', f', res⟩ := ih (w + 1) (by omega) h3 (nI 0) f3 (Or.inr ⟨rfl, w, by omega, q, hx, fun w' l' e' => by
              by_cases e : w' = w
              · rw [e]; exact fun i _ _ => ⟨rfl, rfl⟩
              · intro i hi qi
                have a1 := hy i (Nat.zero_le _) hi qi
                have a2 := al w' (by omega) e' i hi qi
                exact ⟨a1.1.symm.trans a2.1, a1.2.symm.trans a2.2⟩⟩)
            exact ⟨h', r, pre _ (fun _ => g _ (nxt _ _ _ r')) (fun n => absurd q n), f', res⟩
          · refine ⟨h3, nI 0, pre _ (fun _ => g) (fun n => absurd q n), f3, Or.inr ⟨rfl, fun u => ne ?_⟩⟩
            exact u w0 w (by omega) (by omega) w0v q a aj qa
      · obtain ⟨h', r, r', f', res⟩ := ih (w + 1) (by omega) h2 b f12 (by
          rcases inv with ⟨b1, no⟩ | ⟨b0, w0, w0l, w0v, w0h, al⟩
          · refine Or.inl ⟨b1, fun w' l' => ?_⟩
            by_cases e : w' = w
            · rw [e]; exact q
            · exact no w' (by omega)
          · refine Or.inr ⟨b0, w0, by omega, w0v, w0h.fr f2, fun w' l' e' => ?_⟩
            by_cases e : w' = w
            · rw [e] at e'; exact absurd e' q
            · exact al w' (by omega) e')
        exact ⟨h', r, pre _ (fun n => absurd n q) (fun _ => nxt _ _ _ r'), f', res⟩
  obtain ⟨h', r, r', f', res⟩ := lp _ 0 (Nat.zero_add _) h (nI 1) fr.rfl' (Or.inl ⟨rfl, fun w' l => absurd l (Nat.not_lt_zero _)⟩)
  refine ⟨h', r, ?_, f', res⟩
  refine wb_X12_recallsAt_0 ?_
  rw [ix_nI (by omega), zt.1]
  refine ⟨in_nI (by omega) (by decide), ?_⟩
  refine (cl_X12_recallsAt_12 rfl (by decide) (sp_waysBehind s (Nat.le_of_lt hj))).mpr ?_
  refine wb_X12_recallsAt_15 ?_
  exact wk_X12_recallsAt_20 r'
end S29
