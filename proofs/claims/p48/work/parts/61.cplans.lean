/-! THE CLASS: plans -/
theorem nI_shl {a k : Nat} (hk : k < 32) (ha : a < 2 ^ 31) : nI a <<< nI k = nI (a * 2 ^ k) := by
  apply Int32.toBitVec.inj
  rw [Int32.toBitVec_shiftLeft]
  show BitVec.ofNat 32 a <<< ((BitVec.ofNat 32 k).smod 32) = BitVec.ofNat 32 (a * 2 ^ k)
  have e : (BitVec.ofNat 32 k).smod 32 = BitVec.ofNat 32 k := by
    have : ∀ k, k < 32 → (BitVec.ofNat 32 k).smod 32 = BitVec.ofNat 32 k := by decide +kernel
    exact this k hk
  rw [e]
  apply BitVec.eq_of_toNat_eq
  simp [BitVec.toNat_shiftLeft, Nat.shiftLeft_eq]
  rw [Nat.mod_eq_of_lt (show k < 4294967296 by omega)]
theorem nI_or {a b : Nat} : nI a ||| nI b = nI (a ||| b) := by
  apply Int32.toBitVec.inj
  rw [Int32.toBitVec_or]
  show BitVec.ofNat 32 a ||| BitVec.ofNat 32 b = BitVec.ofNat 32 (a ||| b)
  apply BitVec.eq_of_toNat_eq
  simp [BitVec.toNat_or, Nat.or_mod_two_pow]
theorem c_key {p j v : Nat} (hp : p < 4) (hj : j < 8) (hv : v < 524288) : (((nI v <<< (nI 3 &&& 31)) ||| nI j) <<< (nI 2 &&& 31)) ||| nI p = nI (v_key p j v) := by
  rw [show (nI 3 &&& 31 : Int32) = nI 3 by decide, show (nI 2 &&& 31 : Int32) = nI 2 by decide, nI_shl (by decide) (by omega), nI_or]
  have e1 : v * 2 ^ 3 ||| j = v * 8 + j := by
    have := Nat.shiftLeft_add_eq_or_of_lt (b := j) (i := 3) (by omega) v
    rw [Nat.shiftLeft_eq] at this
    omega
  rw [e1, nI_shl (by decide) (by omega), nI_or]
  have e2 : (v * 8 + j) * 2 ^ 2 ||| p = v_key p j v := by
    have := Nat.shiftLeft_add_eq_or_of_lt (b := p) (i := 2) (by omega) (v * 8 + j)
    rw [Nat.shiftLeft_eq] at this
    show _ = v * 32 + j * 4 + p
    omega
  rw [e2]
def cP (o np : Nat) (T C : Nat → Nat) (h : AH) : Prop := np ≤ 40 ∧ hI h (87 + o) 2 = nI np ∧ ∀ k, k < np → T k < 16777216 ∧ C k < 3 ∧ hI h (88 + o) k = nI (T k) ∧ hI h (89 + o) k = nI (C k)
theorem cP_fr {o np : Nat} {T C : Nat → Nat} {h h' : AH} (s : cP o np T C h) {L : List (Nat × Option Nat)} (f : fr L h h') (q : outS (87 + o) (90 + o) L = true) : cP o np T C h' := ⟨s.1, (f.I (outS_in q (by omega) (by omega) _)).trans s.2.1, fun k hk => ⟨(s.2.2 k hk).1, (s.2.2 k hk).2.1, (f.I (outS_in q (by omega) (by omega) _)).trans (s.2.2 k hk).2.2.1, (f.I (outS_in q (by omega) (by omega) _)).trans (s.2.2 k hk).2.2.2⟩⟩
section S61
variable {c n np : Nat} {K P B S T C : Nat → Nat} {h h' : AH}
theorem sp_key {p j v : Nat} (hp : p < 4) (hj : j < 8) (hv : v < 524288) (h : AH) : XX true 1 32 0 [.int (nI p), .int (nI j), .int (nI v)] [] (h) (some (.int (nI (v_key p j v))), h) := by
  refine wb_X3_key_0 ?_
  rw [c_key hp hj hv]
theorem sp_find (t : cP 0 np T C h) {p j v : Nat} (hp : p < 4) (hj : j < 8) (hv : v < 524288) : XX true 2 31 0 [.ref 87, .int (nI p), .int (nI j), .int (nI v), ax_junk, ax_junk] [] (h) (some (.int (if v_pat np T p j v = np then -nI 1 else nI (C (v_pat np T p j v)))), h) := by
  have h40 := t.1
  have lp : ∀ f k, k + f = np → XX true 2 31 11 [.ref 87, ax_junk, ax_junk, ax_junk, .int (nI (v_key p j v)), .int (nI k)] [] (h) ((some (.int (if v_at (fun k => decide (T k = v_key p j v)) f k = np then -nI 1 else nI (C (v_at (fun k => decide (T k = v_key p j v)) f k)))), h)) := by
    intro f
    induction f with
    | zero =>
      intro k hk
      obtain rfl : k = np := hk
      refine wb_X3_find_11 ?_
      rw [t.2.1, if_neg (nI_nlt (Nat.le_refl _) (by omega)), v_at_0, if_pos rfl]
    | succ f ih =>
      intro k hk
      have g := t.2.2 k (by omega)
      have e : v_at (fun k => decide (T k = v_key p j v)) (f + 1) k = if decide (T k = v_key p j v) = true then k else v_at (fun k => decide (T k = v_key p j v)) f (k + 1) := rfl
      refine wb_X3_find_11 ?_
      rw [t.2.1, if_pos (nI_lt (by omega) (by omega)), ix_nI (by omega), g.2.2.1]
      refine ⟨in_nI (by omega) (by decide), ?_⟩
      have kv : v_key p j v < 2 ^ 31 := by show v * 32 + j * 4 + p < _; omega
      by_cases q : T k = v_key p j v
      · rw [e.trans (if_pos (decide_eq_true q)), if_pos (congrArg nI q), if_neg (by omega), g.2.2.2]
        exact ⟨in_nI (by omega) (by decide), rfl⟩
      · rw [e.trans (if_neg (by simp [q])), if_neg (fun z => q ((nI_eq (by omega) kv).mp z)), nI_s]
        exact ih (k + 1) (by omega)
  refine wb_X3_find_0 ?_
  refine cl_X3_find_3 rfl (by decide) (sp_key hp hj hv h) ?_
  refine wb_X3_find_6 ?_
  exact lp np 0 (by omega)
theorem sp_choice (s : tS 0 c n K P B S h) (t : cP 0 np T C h) {p j v : Nat} (hp : p < 4) (hj : j < n) (hv : v < 524288) : XX true 3 30 0 [.ref 65, .int (nI p), .int (nI j), .int (nI v), ax_junk, ax_junk] [] (h) (some (.int (nI (v_chs np T C B p j v))), h) := by
  have h6 := s.n6
  have h40 := t.1
  have g := (s.st j hj).2
  have kk := s.kk hj
  have B3 : B j ≤ 3 := by
    by_cases z : hasN (K j)
    · have := kk.2.2.1 z; omega
    · have := kk.2.2.2.1 z; omega
  unfold v_chs
  refine wb_X1_choice_0 ?_
  refine cl_X1_choice_5 rfl (by decide) (sp_t_atN s hj) ?_
  refine wb_X1_choice_8 ?_
  refine cl_X1_choice_17 rfl (by decide) (sp_find t hp (by omega) hv) ?_
  refine wb_X1_choice_20 ?_
  rw [if_neg g.n9, g.b]
  have al : 0 ≤ v_pat np T p j v ∧ v_pat np T p j v ≤ 0 + np := v_at_le (fun k => decide (T k = v_key p j v)) np 0
  by_cases q : v_pat np T p j v = np
  · rw [if_pos q, if_pos (by decide), if_pos (Or.inl q)]
  · have cl := (t.2.2 (v_pat np T p j v) (by omega)).2.1
    rw [if_neg q, if_neg (nI_n0 (by omega))]
    refine ⟨g.o, ?_⟩
    by_cases r : B j ≤ C (v_pat np T p j v)
    · rw [if_neg (nI_nlt r (by omega)), if_pos (Or.inr r)]
    · rw [if_pos (nI_lt (by omega) (by omega)), if_neg (fun z => z.elim q r)]
theorem sp_tell_lp (t : cP 0 np T C h) {p j v x : Nat} (hp : p < 4) (hj : j < 8) (hv : v < 524288) (R : Option Value × AH) (u : XX true 2 46 38 [.ref 87, ax_junk, ax_junk, ax_junk, .int (nI x), .int (nI (v_key p j v)), .int (nI (v_pat np T p j v))] [] (h) (R)) : XX true 2 46 0 [.ref 87, .int (nI p), .int (nI j), .int (nI v), .int (nI x), ax_junk, ax_junk] [] (h) (R) := by
  have h40 := t.1
  have lp : ∀ f k, k + f = np → v_at (fun k => decide (T k = v_key p j v)) f k = v_pat np T p j v → XX true 2 46 11 [.ref 87, ax_junk, ax_junk, ax_junk, .int (nI x), .int (nI (v_key p j v)), .int (nI k)] [] (h) (R) := by
    intro f
    induction f with
    | zero =>
      intro k hk e
      obtain rfl : k = np := hk
      rw [v_at_0] at e
      refine wb_X3_tell_11 ?_
      rw [t.2.1, if_neg (nI_nlt (Nat.le_refl _) (by omega))]
      rw [← e] at u
      exact u
    | succ f ih =>
      intro k hk e
      have g := t.2.2 k (by omega)
      have e2 : v_at (fun k => decide (T k = v_key p j v)) (f + 1) k = if decide (T k = v_key p j v) = true then k else v_at (fun k => decide (T k = v_key p j v)) f (k + 1) := rfl
      have kv : v_key p j v < 2 ^ 31 := by show v * 32 + j * 4 + p < _; omega
      refine wb_X3_tell_11 ?_
      rw [t.2.1, if_pos (nI_lt (by omega) (by omega)), ix_nI (by omega), g.2.2.1]
      refine ⟨in_nI (by omega) (by decide), ?_⟩
      by_cases q : T k = v_key p j v
      · rw [e2.trans (if_pos (decide_eq_true q))] at e
        rw [if_pos (congrArg nI q), e]
        exact u
      · rw [e2.trans (if_neg (by simp [q]))] at e
        rw [if_neg (fun z => q ((nI_eq (by omega) kv).mp z)), nI_s]
        exact ih (k + 1) (by omega) e
  refine wb_X3_tell_0 ?_
  refine cl_X3_tell_3 rfl (by decide) (sp_key hp hj hv h) ?_
  refine wb_X3_tell_6 ?_
  exact lp np 0 (by omega) rfl
theorem sp_tell_no (t : cP 0 np T C h) {p j v x : Nat} (hp : p < 4) (hj : j < 8) (hv : v < 524288) (ok : ¬ v_tok np T p j v) : XX true 2 46 0 [.ref 87, .int (nI p), .int (nI j), .int (nI v), .int (nI x), ax_junk, ax_junk] [] (h) (some (.int (nI 0)), h) := by
  have h40 := t.1
  have al : 0 ≤ v_pat np T p j v ∧ v_pat np T p j v ≤ 0 + np := v_at_le (fun k => decide (T k = v_key p j v)) np 0
  have nk : ¬ v_pat np T p j v < 40 := ok
  refine sp_tell_lp t hp hj hv _ ?_
  refine wb_X3_tell_38 ?_
  rw [if_neg (nI_nlt (by omega) (by omega))]
theorem sp_tell (t : cP 0 np T C h) {p j v x : Nat} (hp : p < 4) (hj : j < 8) (hv : v < 524288) (hx : x < 3) (ok : v_tok np T p j v) : ∃ h', XX true 2 46 0 [.ref 87, .int (nI p), .int (nI j), .int (nI v), .int (nI x), ax_junk, ax_junk] [] (h) (some (.int (nI 1)), h') ∧ fr [(88, none), (89, none), (87, some 2)] h h' ∧ cP 0 (v_tn np T p j v) (updN T (v_pat np T p j v) (v_key p j v)) (updN C (v_pat np T p j v) x) h' := by
  have h40 := t.1
  have al : 0 ≤ v_pat np T p j v ∧ v_pat np T p j v ≤ 0 + np := v_at_le (fun k => decide (T k = v_key p j v)) np 0
  have nk : v_pat np T p j v < 40 := ok
  have kv : v_key p j v < 16777216 := by show v * 32 + j * 4 + p < _; omega
  have fin : ∀ h1, fr [(87, some 2)] h h1 → hI h1 87 2 = nI (v_tn np T p j v) → ∃ h', XX true 2 46 66 [.ref 87, ax_junk, ax_junk, ax_junk, .int (nI x), .int (nI (v_key p j v)), .int (nI (v_pat np T p j v))] [] (h1) ((some (.int (nI 1)), h')) ∧ fr [(88, none), (89, none), (87, some 2)] h h' ∧ cP 0 (v_tn np T p j v) (updN T (v_pat np T p j v) (v_key p j v)) (updN C (v_pat np T p j v) x) h' := by
    intro h1 f e
    refine ⟨ax_wr (ax_wr h1 88 (v_pat np T p j v) (.int (nI (v_key p j v)))) 89 (v_pat np T p j v) (.int (nI x)), ?_, ((f.mono rfl).wr' (by simp [inS])).wr' (by simp [inS]), ?_, ?_, fun k hk => ?_⟩
    · refine wb_X3_tell_66 ?_
      rw [ix_nI (by omega)]
      exact ⟨in_nI nk (by decide), in_nI nk (by decide), rfl⟩
    · show (if v_pat np T p j v = np then np + 1 else np) ≤ 40
      split <;> omega
    · rw [wr_Ia (by decide), wr_Ia (by decide), e]
    · by_cases q : k = v_pat np T p j v
      · rw [q, updN_s, updN_s, wr_Ia (by decide), wr_I, wr_I]
        exact ⟨kv, hx, rfl, rfl⟩
      · have hk2 : k < np := by
          have : k < (if v_pat np T p j v = np then np + 1 else np) := hk
          split at this <;> omega
        have g := t.2.2 k hk2
        rw [updN_o q, updN_o q]
        refine ⟨g.1, g.2.1, ?_, ?_⟩
        · rw [wr_Ia (by decide), wr_Ij q, f.I rfl]
          exact g.2.2.1
        · rw [wr_Ij q, wr_Ia (by decide), f.I rfl]
          exact g.2.2.2
  by_cases q : v_pat np T p j v = np
  · have e : v_tn np T p j v = np + 1 := if_pos q
    obtain ⟨h', x', y⟩ := fin (ax_wr h 87 2 (.int (nI (np + 1)))) (fr.wr rfl) (by rw [wr_I, e])
    refine ⟨h', sp_tell_lp t hp hj hv _ ?_, y⟩
    refine wb_X3_tell_38 ?_
    rw [t.2.1, if_pos (nI_lt nk (by omega)), if_pos (congrArg nI q), nI_s]
    exact x'
  · have e : v_tn np T p j v = np := if_neg q
    obtain ⟨h', x', y⟩ := fin h fr.rfl' (by rw [e]; exact t.2.1)
    refine ⟨h', sp_tell_lp t hp hj hv _ ?_, y⟩
    refine wb_X3_tell_38 ?_
    rw [t.2.1, if_pos (nI_lt nk (by omega)), if_neg (fun z => q ((nI_eq (by omega) (by omega)).mp z))]
    exact x'
end S61
