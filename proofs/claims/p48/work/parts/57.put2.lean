/-! THE CLASS: a stage is put, and what it shows; views -/
abbrev cfTt : List (Nat × Option Nat) := [(66, some 3), (68, none), (69, none), (70, none), (72, none), (73, none), (74, none), (75, none), (76, none), (77, none), (78, none), (80, none), (81, none), (82, none), (83, none), (84, none), (85, none), (86, none)]
theorem wr_R (h : AH) (a j : Nat) (v : Value) : hR (ax_wr h a j v) a j = toR v := by
  show toR (if a = a ∧ j = j then v else _) = _
  rw [if_pos ⟨rfl, rfl⟩]
theorem wr_Rn {h : AH} {a j : Nat} {v : Value} {b k : Nat} (q : ¬ (b = a ∧ k = j)) : hR (ax_wr h a j v) b k = hR h b k := by
  show toR (if b = a ∧ k = j then v else h.1 b k) = _
  rw [if_neg q]
  rfl
theorem wr_Ra {h : AH} {a j : Nat} {v : Value} {b k : Nat} (q : b ≠ a) : hR (ax_wr h a j v) b k = hR h b k := wr_Rn fun z => q z.1
theorem wr_Rj {h : AH} {a j : Nat} {v : Value} {b k : Nat} (q : k ≠ j) : hR (ax_wr h a j v) b k = hR h b k := wr_Rn fun z => q z.2
section S57
variable {c n : Nat} {K P B S : Nat → Nat} {h h' : AH}
theorem sp_t_letSee (ok : okS c (n + 1) K P B) {a : Nat} (o : sO h a (K n) (P n) (B n)) (se : ∀ i, i < n → hI h (72 + n) i = nI (v_seen K P i n)) : ∃ h', XX true 2 101 0 [.ref 66, rf (a), .int (nI n), ax_junk, ax_junk, ax_junk] [] (h) (none, h') ∧ fr [(72 + (n + 1), none)] h h' ∧ ∀ i, i < n + 1 → hI h' (72 + (n + 1)) i = nI (v_seen K P i (n + 1)) := by
  have h6 : n < 6 := ok.2.2.1
  have kk := ok.2.2.2 n (by omega)
  have p3 : ∀ i, i < n → P i < 3 := fun i hi => (ok.2.2.2 i (by omega)).2.1
  have lf : ∀ {h1 : AH}, fr [(72 + (n + 1), none)] h h1 → sO h1 a (K n) (P n) (B n) := fun f => ⟨o.1, by rw [f.1]; exact o.2.1, by rw [f.1]; exact o.2.2.1, (f.R (by have := o.1; simp [inS]; omega)).trans o.2.2.2.1, (f.I (by have := o.1; simp [inS]; omega)).trans o.2.2.2.2.1, (f.I (by have := o.1; simp [inS]; omega)).trans o.2.2.2.2.2⟩
  have lp : ∀ m i, i + m = n → ∀ h1, fr [(72 + (n + 1), none)] h h1 → (∀ b, b < i → hI h1 (72 + (n + 1)) b = nI (v_seen K P b (n + 1))) → ∃ h', XX true 2 101 10 [.ref 66, rf (a), .int (nI n), .int (nI (1 <<< P n)), .int (nI i), ax_junk] [] (h1) ((none, h')) ∧ fr [(72 + (n + 1), none)] h h' ∧ ∀ i, i < n + 1 → hI h' (72 + (n + 1)) i = nI (v_seen K P i (n + 1)) := by
    intro m
    induction m with
    | zero =>
      intro i hi h1 f g
      obtain rfl : i = n := hi
      have o1 := lf f
      have ro := row71 (i + 1) (by omega) h1
      have e : v_seen K P i (i + 1) = if isSec (K i) then 1 <<< P i else 7 := if_pos rfl
      refine ⟨ax_wr h1 (72 + (i + 1)) i (.int (nI (v_seen K P i (i + 1)))), ?_, f.wr' (by simp [inS]), fun b hb => ?_⟩
      · refine wb_X8_letSee_10 ?_
        rw [if_neg (nI_nlt (Nat.le_refl _) (by omega)), nI_s, ix_nI (by omega)]
        refine ⟨in_nI (by omega) (by decide), _, ro.1, o1.o, _, o1.k, ?_⟩
        refine cl_X8_letSee_98 rfl (by decide) (sp_kSecret kk.1 h1) ?_
        refine ⟨kO _ kk.1 h1, ?_⟩
        have go : ∀ v, v = v_seen K P i (i + 1) → XX true 2 101 110 [ax_junk, ax_junk, ax_junk, ax_junk, ax_junk, ax_junk] [.int (nI v), .int (nI i), rf (72 + (i + 1))] (h1) ((none, ax_wr h1 (72 + (i + 1)) i (.int (nI (v_seen K P i (i + 1)))))) := by
          rintro v rfl
          refine wb_X8_letSee_110 ?_
          rw [ix_nI (by omega)]
          exact ⟨6, ro.2.1, in_nI (by omega) (by decide), ro.2.2.2 _, rfl⟩
        refine wb_X8_letSee_101 ?_
        by_cases q : isSec (K i)
        · rw [b2i_t q, if_neg (by decide)]
          exact go _ (by rw [e, if_pos q])
        · rw [b2i_f q, if_pos rfl]
          exact go 7 (by rw [e, if_neg q])
      · by_cases z : b = i
        · rw [z, wr_I]
        · rw [wr_Ij z]
          exact g b (by omega)
    | succ m ih =>
      intro i hi h1 f g
      have o1 := lf f
      have ro := row71 n (by omega) h1
      have ro2 := row71 (n + 1) (by omega) h1
      have sv := v_seen_lt (K := K) (P := P) (i := i) n p3
      have ev : hI h1 (72 + n) i = nI (v_seen K P i n) := (f.I (by simp [inS])).trans (se i (by omega))
      have st := v_seen_step (K := K) (P := P) (i := i) (j := n) (by omega)
      obtain ⟨h', x, y⟩ := ih (i + 1) (by omega) (ax_wr h1 (72 + (n + 1)) i (.int (nI (v_seen K P i (n + 1))))) (f.wr' (by simp [inS])) (fun b hb => by
        by_cases z : b = i
        · rw [z, wr_I]
        · rw [wr_Ij z]
          exact g b (by omega))
      refine ⟨h', ?_, y⟩
      have g66 : ∀ v, v = nI (v_seen K P i (n + 1)) → XX true 2 101 66 [.ref 66, rf (a), .int (nI n), .int (nI (1 <<< P n)), .int (nI i), .int (v)] [] (h1) ((none, h')) := by
        rintro v rfl
        refine wb_X8_letSee_66 ?_
        rw [nI_s, ix_nI (by omega), ix_nI (by omega)]
        refine ⟨in_nI (by omega) (by decide), _, ro2.1, 6, ro2.2.1, in_nI (by omega) (by decide), ro2.2.2.2 _, ?_⟩
        rw [nI_s]
        exact x
      have g48 : ∀ v : Nat, v < 8 → (v_seen K P i (n + 1) = if K n = 5 then (if v.testBit (P n) = true then v - 1 <<< P n else v) else v) → XX true 2 101 48 [.ref 66, rf (a), .int (nI n), .int (nI (1 <<< P n)), .int (nI i), .int (nI v)] [] (h1) ((none, h')) := by
        intro v hv e
        refine wb_X8_letSee_48 ?_
        refine ⟨o1.o, _, o1.k, kk.1, ?_⟩
        by_cases q : K n = 5
        · rw [if_pos q] at e ⊢
          rw [v_see3 v hv _ kk.2.1]
          exact g66 _ (by rw [e])
        · rw [if_neg q] at e ⊢
          exact g66 _ (by rw [e])
      refine wb_X8_letSee_10 ?_
      rw [if_pos (nI_lt (by omega) (by omega)), ix_nI (by omega), ix_nI (by omega)]
      refine ⟨in_nI (by omega) (by decide), _, ro.1, 6, ro.2.1, in_nI (by omega) (by decide), o1.o, _, o1.k, kk.1, ?_⟩
      rw [ro.2.2.1, ev]
      by_cases q : K n = 4
      · rw [if_pos q]
        by_cases r : (v_seen K P i n).testBit (P n) = true
        · rw [if_neg (fun z => absurd r ((v_see2 _ sv _ kk.2.1).mp z))]
          refine g48 7 (by decide) ?_
          rw [st, if_pos ⟨q, r⟩, if_neg (by omega)]
        · rw [if_pos ((v_see2 _ sv _ kk.2.1).mpr r)]
          refine g48 _ sv ?_
          rw [st, if_neg (fun z => r z.2)]
      · rw [if_neg q]
        refine g48 _ sv ?_
        rw [st, if_neg (fun z => q z.1)]
  obtain ⟨h', x, y⟩ := lp n 0 (by omega) h fr.rfl' (fun b hb => absurd hb (Nat.not_lt_zero _))
  refine ⟨h', ?_, y⟩
  refine wb_X8_letSee_0 ?_
  refine ⟨o.o, ?_⟩
  rw [o.p, v_see1 _ kk.2.1]
  exact x
theorem sp_t_put (s : tS 0 c n K P B S h) (hn : n < 6) {a k p b : Nat} (t : okT k p b) (hc : isCd k → v_out K n < c) (o : sO h a k p b) : ∃ h', XX true 5 98 0 [.ref 66, rf (a), ax_junk] [] (h) (none, h') ∧ fr cfTt h h' ∧ tS 0 c (n + 1) (updN K n k) (updN P n p) (updN B n b) (updN S n a) h' := by
  have ok := s.ok.put hn t hc
  have k8 := t.1
  have s0 : tS 0 c n (updN K n k) (updN P n p) (updN B n b) (updN S n a) h := s.congr (fun x hx => ⟨(updN_o (by omega)).symm, (updN_o (by omega)).symm, (updN_o (by omega)).symm, (updN_o (by omega)).symm⟩)
  have eK : updN K n k n = k := updN_s _ _ _
  have eP : updN P n p n = p := updN_s _ _ _
  have eB : updN B n b n = b := updN_s _ _ _
  have eS : updN S n a n = a := updN_s _ _ _
  have eV : v_out (updN K n k) n = v_out K n := v_out_congr n (fun x hx => updN_o (by omega))
  have hcK : isCd k → v_out (updN K n k) n < c := by rw [eV]; exact hc
  have op := v_opt_pos ok (i := n) (by omega)
  have wl := v_ways_le ok (j := n) (by omega)
  generalize hK : updN K n k = K' at *
  generalize hP : updN P n p = P' at *
  generalize hB : updN B n b = B' at *
  generalize hS : updN S n a = S' at *
  have f1 : fr [(68, some n)] h (ax_wr h 68 n (rf a)) := fr.wr (by simp [inS])
  have f1' : fr (cfP 0 n) h (ax_wr h 68 n (rf a)) := f1.mono (by simp [subS, cfP])
  have s1 := tS_keep s0 hn (by decide) f1'
  have o1 : sO (ax_wr h 68 n (rf a)) a k p b := o.fr f1 rfl
  -- the rest, once the fan is known
  have g65 : ∀ v, v = nI (v_opt c K' B' n) → ∃ h', XX true 5 98 65 [.ref 66, rf (a), .int (nI n)] [.int (v), .int (nI n), .ref 69] (ax_wr h 68 n (rf a)) ((none, h')) ∧ fr cfTt h h' ∧ tS 0 c (n + 1) K' P' B' S' h' := by
    rintro v rfl
    have f2 : fr [(68, some n), (69, some n), (70, some (n + 1))] h (ax_wr (ax_wr (ax_wr h 68 n (rf a)) 69 n (.int (nI (v_opt c K' B' n)))) 70 (n + 1) (.int (nI (v_ways c K' B' (n + 1))))) := (((fr.wr (by simp [inS])).wr' (by simp [inS])).wr' (by simp [inS]))
    generalize h2e : ax_wr (ax_wr (ax_wr h 68 n (rf a)) 69 n (.int (nI (v_opt c K' B' n)))) 70 (n + 1) (.int (nI (v_ways c K' B' (n + 1)))) = h2 at f2
    have s2 := tS_keep s0 hn (by decide) (f2.mono (by simp [subS, cfP]))
    have o2 : sO h2 a k p b := o.fr f2 rfl
    have x68 : hR h2 68 n = rf a := by
      rw [← h2e, wr_Ra (by decide), wr_Ra (by decide), wr_R, toR_rf]
    have x69 : hI h2 69 n = nI (v_opt c K' B' n) := by rw [← h2e, wr_Ia (by decide), wr_I]
    have x70 : hI h2 70 (n + 1) = nI (v_ways c K' B' (n + 1)) := by rw [← h2e, wr_I]
    obtain ⟨h3, r3, f3, b3, v3⟩ := sp_t_branch s2 ok x69 (k := k) eK.symm
    have s3 := tS_keep s2 hn (by decide) (f3.mono (by simp [subS, cfP]))
    have o3 : sO h3 a k p b := ⟨o2.1, by rw [f3.1]; exact o2.2.1, by rw [f3.1]; exact o2.2.2.1, (f3.R (by have := o.1; simp [inS]; omega)).trans o2.2.2.2.1, (f3.I (by have := o.1; simp [inS]; omega)).trans o2.2.2.2.2.1, (f3.I (by have := o.1; simp [inS]; omega)).trans o2.2.2.2.2.2⟩
    obtain ⟨h4, r4, f4, v4⟩ := sp_t_letSee (h := h3) ok (a := a) (by rw [eK, eP, eB]; exact o3) (fun i hi => s3.see n (Nat.le_refl _) i hi)
    have s4 := tS_keep s3 hn (by decide) (f4.mono (by simp [subS, cfP]))
    have f34 : fr [(80 + n, none), (86, none), (72 + (n + 1), none)] h2 h4 := (f3.mono (by simp [subS])).trans (f4.mono (by simp [subS]))
    have o4 : sO h4 a k p b := ⟨o2.1, by rw [f34.1]; exact o2.2.1, by rw [f34.1]; exact o2.2.2.1, (f34.R (by have := o.1; simp [inS]; omega)).trans o2.2.2.2.1, (f34.I (by have := o.1; simp [inS]; omega)).trans o2.2.2.2.2.1, (f34.I (by have := o.1; simp [inS]; omega)).trans o2.2.2.2.2.2⟩
    have f5 : fr [(66, some 3)] h4 (ax_wr h4 66 3 (.int (nI (n + 1)))) := fr.wr rfl
    refine ⟨ax_wr h4 66 3 (.int (nI (n + 1))), ?_, ?_, ok, ?_, ?_, wr_I _ _ _ _, fun i hi => ?_, fun i hi => ?_, fun i hi => ?_, fun i hi w hw => ?_, fun j hj i hi => ?_⟩
    · refine wb_X8_put_65 ?_
      have n1 := s1.nn
      have b1 := s1.beh n (Nat.le_refl _)
      rw [ix_nI (by omega), nI_s, ix_nI (by omega)]
      rw [wr_Ia (by decide), b1, wr_I, nI_mulI, show v_ways c K' B' n * v_opt c K' B' n = v_ways c K' B' (n + 1) from rfl]
      refine ⟨in_nI (by omega) (by decide), in_nI (by omega) (by decide), in_nI (by omega) (by decide), in_nI (by omega) (by decide), ?_⟩
      rw [h2e]
      refine ⟨o2.o, k, o2.k, ?_⟩
      refine cl_X8_put_93 rfl (by decide) (r3) ?_
      refine wb_X8_put_96 ?_
      refine cl_X8_put_99 rfl (by decide) (r4) ?_
      refine wb_X8_put_102 ?_
      rw [s4.nn, nI_s]
    · have m1 : ∀ n, n < 6 → subS [(68, some n), (69, some n), (70, some (n + 1))] cfTt = true ∧ subS [(80 + n, none), (86, none), (72 + (n + 1), none)] cfTt = true := by decide
      exact ((f2.mono (m1 n hn).1).trans (f34.mono (m1 n hn).2)).trans (f5.mono rfl)
    · exact s4.al
    · rw [wr_Ij (by decide)]
      exact s4.cc
    · by_cases z : i = n
      · rw [z, eS, eK, eP, eB]
        exact ⟨(f5.R rfl).trans ((f34.R (by simp [inS]; omega)).trans x68), o4.fr f5 rfl⟩
      · have := s4.st i (by omega)
        exact ⟨(f5.R rfl).trans this.1, this.2.fr f5 rfl⟩
    · rw [f5.I rfl]
      by_cases z : i = n
      · rw [z, f34.I (by simp [inS]; omega), x69]
      · exact s4.fan i (by omega)
    · rw [f5.I rfl]
      by_cases z : i = n + 1
      · rw [z, f34.I (by simp [inS]; omega), x70]
      · exact s4.beh i (by omega)
    · rw [f5.I (by simp [inS]; omega)]
      by_cases z : i = n
      · subst z
        rw [f4.I (by simp [inS]; omega)]
        exact v3 w hw
      · exact s4.bef i (by omega) w hw
    · rw [f5.I (by simp [inS]; omega)]
      by_cases z : j = n + 1
      · subst z
        exact v4 i hi
      · exact s4.see j (by omega) i hi
  have eF : v_opt c K' B' n = if isCd k then c - v_out K' n else if hasN k then b else 1 := by
    unfold v_opt
    rw [eK, eB]
  have pre : ∀ R, (XX true 5 98 65 [.ref 66, rf (a), .int (nI n)] [.int (nI (v_opt c K' B' n)), .int (nI n), .ref 69] (ax_wr h 68 n (rf a)) (R)) → XX true 5 98 0 [.ref 66, rf (a), ax_junk] [] (h) (R) := by
    intro R u
    refine wb_X8_put_0 ?_
    rw [if_neg o.n9]
    refine cl_X8_put_5 rfl (by decide) (sp_t_hasRoom s0) ?_
    refine wb_X8_put_8 ?_
    rw [b2i_t hn, if_neg (by decide)]
    refine ⟨o.o, k, o.k, ?_⟩
    refine cl_X8_put_16 rfl (by decide) (sp_t_hasCardFor s0 k8) ?_
    refine wb_X8_put_19 ?_
    rw [b2i_t hcK, if_neg (by decide), s0.nn, ix_nI (by omega)]
    refine ⟨in_nI hn (by decide), Or.inr ⟨by have := o.1; omega, o.o.2.1, o.o.2.2⟩, o1.o, k, o1.k, ?_⟩
    refine cl_X8_put_44 rfl (by decide) (sp_kCard k8 _) ?_
    refine ⟨kO _ k8 _, ?_⟩
    refine wb_X8_put_47 ?_
    by_cases q : isCd k
    · rw [if_pos q] at eF
      rw [b2i_t q, if_neg (by decide)]
      refine cl_X8_put_51 rfl (by decide) (sp_t_cardsLeft s1) ?_
      refine wb_X8_put_54 ?_
      rw [← eF]
      exact u
    · rw [if_neg q] at eF
      rw [b2i_f q, if_pos rfl]
      refine ⟨o1.o, ?_⟩
      rw [o1.b]
      have e : (if nI 1 < nI b then nI b else nI 1) = nI (v_opt c K' B' n) := by
        rw [eF]
        by_cases r : hasN k
        · rw [if_pos r]
          rcases t.2.2.1 r with rfl | rfl
          · rfl
          · rfl
        · rw [if_neg r, t.2.2.2 r]
          rfl
      rw [e]
      exact u
  obtain ⟨h', x, y⟩ := g65 _ rfl
  exact ⟨h', pre _ x, y⟩
end S57
