/-! THE REFERENCE'S CALLS: sheets -/
/-- a sheet's sort as a word: 0 none, 1 yes or no, 2 numbers -/
abbrev srW (x : Nat) : Int32 := nI x - nI 1
def mSh (sS sZ : Nat → Nat) (sN : Nat → Nat → Int32) (h : AH) : Prop := ∀ s, s < 4 → sS s < 3 ∧ sZ s ≤ 40 ∧ hI h 173 s = srW (sS s) ∧ hI h 174 s = nI (sZ s) ∧ ∀ i, i < 40 → hI h 175 (40 * s + i) = sN s i
theorem mSh.fr {sS sZ : Nat → Nat} {sN : Nat → Nat → Int32} {h h' : AH} (x : mSh sS sZ sN h) {L : List (Nat × Option Nat)} (f : fr L h h') (q1 : ∀ j, inS L 173 j = false) (q2 : ∀ j, inS L 174 j = false) (q3 : ∀ j, inS L 175 j = false) : mSh sS sZ sN h' := fun s hs => ⟨(x s hs).1, (x s hs).2.1, (f.I (q1 _)).trans (x s hs).2.2.1, (f.I (q2 _)).trans (x s hs).2.2.2.1, fun i hi => (f.I (q3 _)).trans ((x s hs).2.2.2.2 i hi)⟩
theorem srW_neg : ∀ x, x < 3 → (srW x < nI 0 ↔ x = 0) := by decide
abbrev frE : List (Nat × Option Nat) := [(173, none), (174, none), (175, none)]
section S44
variable {sS sZ : Nat → Nat} {sN : Nat → Nat → Int32} {h h' : AH}
theorem sp_becomes (m : mSh sS sZ sN h) {s x : Nat} (hs : s < 4) (hx : x < 3) {k : Int32} {k' : Nat} (hk : x ≠ 0 → k = nI k' ∧ k' ≤ 40) : ∃ h', XX true 1 238 0 [.ref 153, .int (nI s), .int (srW x), .int (k), ax_junk] [] (h) (none, h') ∧ fr frE h h' ∧ mSh (updN sS s x) (updN sZ s (if x = 0 then 0 else k')) (updN sN s (fun _ => nI 0)) h' := by
  have kk : (if x = 0 then 0 else k') ≤ 40 := by
    by_cases z : x = 0
    · rw [if_pos z]; omega
    · rw [if_neg z]; exact (hk z).2
  have lp : ∀ n i, i + n = 40 → ∀ h1, fr frE h h1 → (∀ s', s' < 4 → hI h1 173 s' = srW (updN sS s x s') ∧ hI h1 174 s' = nI (updN sZ s (if x = 0 then 0 else k') s')) → (∀ s' j, s' < 4 → j < 40 → s' ≠ s → hI h1 175 (40 * s' + j) = sN s' j) → (∀ j, j < i → hI h1 175 (40 * s + j) = nI 0) → ∃ h', XX true 1 238 25 [.ref 153, .int (nI s), ax_junk, ax_junk, .int (nI i)] [] (h1) ((none, h')) ∧ fr frE h h' ∧ mSh (updN sS s x) (updN sZ s (if x = 0 then 0 else k')) (updN sN s (fun _ => nI 0)) h' := by
    intro n
    induction n with
    | zero =>
      intro i hi h1 f c1 c2 c3
      obtain rfl : i = 40 := hi
      refine ⟨h1, ?_, f, fun s' hs' => ⟨?_, ?_, (c1 s' hs').1, (c1 s' hs').2, fun j hj => ?_⟩⟩
      · refine wb_X12_becomes_25 ?_
        rw [if_neg (by decide)]
      · by_cases e : s' = s
        · rw [e, updN_s]; exact hx
        · rw [updN_o e]; exact (m s' hs').1
      · by_cases e : s' = s
        · rw [e, updN_s]; exact kk
        · rw [updN_o e]; exact (m s' hs').2.1
      · by_cases e : s' = s
        · rw [e, updN_s]; exact c3 j hj
        · rw [updN_o e]; exact c2 s' j hs' hj e
    | succ n ih =>
      intro i hi h1 f c1 c2 c3
      obtain ⟨h', r, y⟩ := ih (i + 1) (by omega) (ax_wr h1 175 (40 * s + i) (.int (nI 0))) (f.wr' (by simp [inS])) (fun s' hs' => ⟨by rw [wr_Ia (by decide)]; exact (c1 s' hs').1, by rw [wr_Ia (by decide)]; exact (c1 s' hs').2⟩) (fun s' j hs' hj e => by rw [wr_Ij (by omega)]; exact c2 s' j hs' hj e) (fun j hj => by
        by_cases e : j = i
        · rw [e, wr_I]
        · rw [wr_Ij (by omega)]; exact c3 j (by omega))
      refine ⟨h', ?_, y⟩
      refine wb_X12_becomes_25 ?_
      rw [if_pos (nI_lt (by omega) (by omega)), nI_mulI, nI_add, ix_nI (by omega), nI_s]
      exact ⟨in_nI (by omega) (by decide), wk_X12_becomes_25 r⟩
  have z0 : ∀ v : Nat, v = (if x = 0 then 0 else k') → ∃ h', XX true 1 238 25 [.ref 153, .int (nI s), ax_junk, ax_junk, .int (nI 0)] [] (ax_wr (ax_wr h 173 s (.int (srW x))) 174 s (.int (nI v))) ((none, h')) ∧ fr frE h h' ∧ mSh (updN sS s x) (updN sZ s (if x = 0 then 0 else k')) (updN sN s (fun _ => nI 0)) h' := by
    intro v hv
    refine lp 40 0 rfl _ ((fr.wr (by simp [inS])).wr' (by simp [inS])) (fun s' hs' => ?_) (fun s' j hs' hj e => by rw [wr_Ia (by decide), wr_Ia (by decide)]; exact (m s' hs').2.2.2.2 j hj) (fun j hj => absurd hj (Nat.not_lt_zero _))
    by_cases e : s' = s
    · rw [e, updN_s, updN_s, wr_Ia (by decide), wr_I, wr_I, hv]
      exact ⟨rfl, rfl⟩
    · rw [updN_o e, updN_o e, wr_Ia (by decide), wr_Ij e, wr_Ij e, wr_Ia (by decide)]
      exact ⟨(m s' hs').2.2.1, (m s' hs').2.2.2.1⟩
  by_cases z : x = 0
  · obtain ⟨h', r, y⟩ := z0 0 (by rw [if_pos z])
    refine ⟨h', ?_, y⟩
    refine wb_X12_becomes_0 ?_
    rw [if_pos ((srW_neg x hx).mpr z), ix_nI (by omega)]
    refine ⟨in_nI hs (by decide), wk_X12_becomes_21 ?_⟩
    refine wb_X12_becomes_21 ?_
    rw [ix_nI (by omega)]
    exact ⟨in_nI hs (by decide), wk_X12_becomes_25 r⟩
  · obtain ⟨h', r, y⟩ := z0 k' (by rw [if_neg z])
    refine ⟨h', ?_, y⟩
    refine wb_X12_becomes_0 ?_
    rw [if_neg (fun u => z ((srW_neg x hx).mp u)), ix_nI (by omega), (hk z).1]
    refine ⟨in_nI hs (by decide), wk_X12_becomes_21 ?_⟩
    refine wb_X12_becomes_21 ?_
    rw [ix_nI (by omega)]
    exact ⟨in_nI hs (by decide), wk_X12_becomes_25 r⟩
end S44
