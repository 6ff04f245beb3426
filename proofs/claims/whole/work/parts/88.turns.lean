/-! THE LAW: its turns -/
section S88
variable {h : AH}
theorem turn_0 (s : sg h) {a : Nat} (ha : a + 8 ≤ h.2.2.2.2) (hL : h.2.2.2.2 < 2 ^ 31) : ∃ h2, stp h h2 ∧ sg h2 ∧ ∀ R, XX true 20 256 1805 [.ref 48, .ref 64, .ref 153, .int (nI a)] [] (h2) (R) → XX true 20 256 228 [.ref 48, .ref 64, .ref 153, .int (nI a)] [] (h) (R) := by
  obtain ⟨h1, h2, res, r1, r2, k1, k2, s2⟩ := st_pack s (hI h 48 (ix (nI a + nI 1)))
  have e1 : ∀ x, hI h1 48 x = hI h 48 x := fun x => congrArg toI (k1.2.2.2.2 x)
  have i1 : ∀ j, j < 8 → ax_in (nI a + nI j) h.2.2.2.2 = true := fun j hj => by rw [nI_add]; exact in_nI (by omega) (by omega)
  have i2 : ∀ j, j < 8 → ax_in (nI a + nI j) h1.2.2.2.2 = true := fun j hj => by rw [k1.2.2.1]; exact i1 j hj
  refine ⟨h2, k2, s2, fun R u => ?_⟩
  refine wb_L_law_228 ?_
  refine ⟨i1 1 (by decide), ?_⟩
  refine cl_L_law_234 rfl (by decide) (r1) ?_
  refine wb_L_law_237 ?_
  simp only [e1]
  refine ⟨i2 1 (by decide), ?_⟩
  refine cl_L_law_243 rfl (by decide) (r2) ?_
  refine wb_L_law_246 ?_
  rw [if_pos rfl]
  exact u
theorem turn_1 (s : sg h) {a : Nat} (ha : a + 8 ≤ h.2.2.2.2) (hL : h.2.2.2.2 < 2 ^ 31) : ∃ h2, stp h h2 ∧ sg h2 ∧ ∀ R, XX true 20 256 1805 [.ref 48, .ref 64, .ref 153, .int (nI a)] [] (h2) (R) → XX true 20 256 251 [.ref 48, .ref 64, .ref 153, .int (nI a)] [] (h) (R) := by
  obtain ⟨h1, h2, res, r1, r2, k1, k2, s2⟩ := st_worth s (hI h 48 (ix (nI a + nI 1))) (hI h 48 (ix (nI a + nI 2)))
  have e1 : ∀ x, hI h1 48 x = hI h 48 x := fun x => congrArg toI (k1.2.2.2.2 x)
  have i1 : ∀ j, j < 8 → ax_in (nI a + nI j) h.2.2.2.2 = true := fun j hj => by rw [nI_add]; exact in_nI (by omega) (by omega)
  have i2 : ∀ j, j < 8 → ax_in (nI a + nI j) h1.2.2.2.2 = true := fun j hj => by rw [k1.2.2.1]; exact i1 j hj
  refine ⟨h2, k2, s2, fun R u => ?_⟩
  refine wb_L_law_251 ?_
  refine ⟨i1 1 (by decide), i1 2 (by decide), ?_⟩
  refine cl_L_law_262 rfl (by decide) (r1) ?_
  refine wb_L_law_265 ?_
  simp only [e1]
  refine ⟨i2 1 (by decide), i2 2 (by decide), ?_⟩
  refine cl_L_law_276 rfl (by decide) (r2) ?_
  refine wb_L_law_279 ?_
  rw [if_pos rfl]
  exact u
theorem turn_2 (s : sg h) {a : Nat} (ha : a + 8 ≤ h.2.2.2.2) (hL : h.2.2.2.2 < 2 ^ 31) : ∃ h2, stp h h2 ∧ sg h2 ∧ ∀ R, XX true 20 256 1805 [.ref 48, .ref 64, .ref 153, .int (nI a)] [] (h2) (R) → XX true 20 256 284 [.ref 48, .ref 64, .ref 153, .int (nI a)] [] (h) (R) := by
  obtain ⟨h1, h2, res, r1, r2, k1, k2, s2⟩ := st_stage s (hI h 48 (ix (nI a + nI 1))) (hI h 48 (ix (nI a + nI 2))) (hI h 48 (ix (nI a + nI 3)))
  have e1 : ∀ x, hI h1 48 x = hI h 48 x := fun x => congrArg toI (k1.2.2.2.2 x)
  have i1 : ∀ j, j < 8 → ax_in (nI a + nI j) h.2.2.2.2 = true := fun j hj => by rw [nI_add]; exact in_nI (by omega) (by omega)
  have i2 : ∀ j, j < 8 → ax_in (nI a + nI j) h1.2.2.2.2 = true := fun j hj => by rw [k1.2.2.1]; exact i1 j hj
  refine ⟨h2, k2, s2, fun R u => ?_⟩
  refine wb_L_law_284 ?_
  refine ⟨i1 1 (by decide), i1 2 (by decide), i1 3 (by decide), ?_⟩
  refine cl_L_law_300 rfl (by decide) (r1) ?_
  refine wb_L_law_303 ?_
  simp only [e1]
  refine ⟨i2 1 (by decide), i2 2 (by decide), i2 3 (by decide), ?_⟩
  refine cl_L_law_319 rfl (by decide) (r2) ?_
  refine wb_L_law_322 ?_
  rw [if_pos rfl]
  exact u
theorem turn_3 (s : sg h) {a : Nat} (ha : a + 8 ≤ h.2.2.2.2) (hL : h.2.2.2.2 < 2 ^ 31) : ∃ h2, stp h h2 ∧ sg h2 ∧ ∀ R, XX true 20 256 1805 [.ref 48, .ref 64, .ref 153, .int (nI a)] [] (h2) (R) → XX true 20 256 327 [.ref 48, .ref 64, .ref 153, .int (nI a)] [] (h) (R) := by
  obtain ⟨h1, h2, res, r1, r2, k1, k2, s2⟩ := st_stageOf s (hI h 48 (ix (nI a + nI 1))) (hI h 48 (ix (nI a + nI 2)))
  have e1 : ∀ x, hI h1 48 x = hI h 48 x := fun x => congrArg toI (k1.2.2.2.2 x)
  have i1 : ∀ j, j < 8 → ax_in (nI a + nI j) h.2.2.2.2 = true := fun j hj => by rw [nI_add]; exact in_nI (by omega) (by omega)
  have i2 : ∀ j, j < 8 → ax_in (nI a + nI j) h1.2.2.2.2 = true := fun j hj => by rw [k1.2.2.1]; exact i1 j hj
  refine ⟨h2, k2, s2, fun R u => ?_⟩
  refine wb_L_law_327 ?_
  refine ⟨i1 1 (by decide), i1 2 (by decide), ?_⟩
  refine cl_L_law_338 rfl (by decide) (r1) ?_
  refine wb_L_law_341 ?_
  simp only [e1]
  refine ⟨i2 1 (by decide), i2 2 (by decide), ?_⟩
  refine cl_L_law_352 rfl (by decide) (r2) ?_
  refine wb_L_law_355 ?_
  rw [if_pos rfl]
  exact u
theorem turn_4 (s : sg h) {a : Nat} (ha : a + 8 ≤ h.2.2.2.2) (hL : h.2.2.2.2 < 2 ^ 31) : ∃ h2, stp h h2 ∧ sg h2 ∧ ∀ R, XX true 20 256 1805 [.ref 48, .ref 64, .ref 153, .int (nI a)] [] (h2) (R) → XX true 20 256 360 [.ref 48, .ref 64, .ref 153, .int (nI a)] [] (h) (R) := by
  obtain ⟨h1, h2, res, r1, r2, k1, k2, s2⟩ := st_seen s (hI h 48 (ix (nI a + nI 1))) (hI h 48 (ix (nI a + nI 2)))
  have e1 : ∀ x, hI h1 48 x = hI h 48 x := fun x => congrArg toI (k1.2.2.2.2 x)
  have i1 : ∀ j, j < 8 → ax_in (nI a + nI j) h.2.2.2.2 = true := fun j hj => by rw [nI_add]; exact in_nI (by omega) (by omega)
  have i2 : ∀ j, j < 8 → ax_in (nI a + nI j) h1.2.2.2.2 = true := fun j hj => by rw [k1.2.2.1]; exact i1 j hj
  refine ⟨h2, k2, s2, fun R u => ?_⟩
  refine wb_L_law_360 ?_
  refine ⟨i1 1 (by decide), i1 2 (by decide), ?_⟩
  refine cl_L_law_371 rfl (by decide) (r1) ?_
  refine wb_L_law_374 ?_
  simp only [e1]
  refine ⟨i2 1 (by decide), i2 2 (by decide), ?_⟩
  refine cl_L_law_385 rfl (by decide) (r2) ?_
  refine wb_L_law_388 ?_
  rw [if_pos rfl]
  exact u
theorem turn_5 (s : sg h) {a : Nat} (ha : a + 8 ≤ h.2.2.2.2) (hL : h.2.2.2.2 < 2 ^ 31) : ∃ h2, stp h h2 ∧ sg h2 ∧ ∀ R, XX true 20 256 1805 [.ref 48, .ref 64, .ref 153, .int (nI a)] [] (h2) (R) → XX true 20 256 393 [.ref 48, .ref 64, .ref 153, .int (nI a)] [] (h) (R) := by
  obtain ⟨h1, h2, res, r1, r2, k1, k2, s2⟩ := st_drop s 
  refine ⟨h2, k2, s2, fun R u => ?_⟩
  refine wb_L_law_393 ?_
  refine cl_L_law_394 rfl (by decide) (r1) ?_
  refine wb_L_law_397 ?_
  refine cl_L_law_398 rfl (by decide) (r2) ?_
  refine wb_L_law_401 ?_
  rw [if_pos rfl]
  exact u
theorem turn_6 (s : sg h) {a : Nat} (ha : a + 8 ≤ h.2.2.2.2) (hL : h.2.2.2.2 < 2 ^ 31) : ∃ h2, stp h h2 ∧ sg h2 ∧ ∀ R, XX true 20 256 1805 [.ref 48, .ref 64, .ref 153, .int (nI a)] [] (h2) (R) → XX true 20 256 406 [.ref 48, .ref 64, .ref 153, .int (nI a)] [] (h) (R) := by
  obtain ⟨h1, h2, res, r1, r2, k1, k2, s2⟩ := st_ways s (hI h 48 (ix (nI a + nI 1)))
  have e1 : ∀ x, hI h1 48 x = hI h 48 x := fun x => congrArg toI (k1.2.2.2.2 x)
  have i1 : ∀ j, j < 8 → ax_in (nI a + nI j) h.2.2.2.2 = true := fun j hj => by rw [nI_add]; exact in_nI (by omega) (by omega)
  have i2 : ∀ j, j < 8 → ax_in (nI a + nI j) h1.2.2.2.2 = true := fun j hj => by rw [k1.2.2.1]; exact i1 j hj
  refine ⟨h2, k2, s2, fun R u => ?_⟩
  refine wb_L_law_406 ?_
  refine ⟨i1 1 (by decide), ?_⟩
  refine cl_L_law_412 rfl (by decide) (r1) ?_
  refine wb_L_law_415 ?_
  simp only [e1]
  refine ⟨i2 1 (by decide), ?_⟩
  refine cl_L_law_421 rfl (by decide) (r2) ?_
  refine wb_L_law_424 ?_
  rw [if_pos rfl]
  exact u
theorem turn_7 (s : sg h) {a : Nat} (ha : a + 8 ≤ h.2.2.2.2) (hL : h.2.2.2.2 < 2 ^ 31) : ∃ h2, stp h h2 ∧ sg h2 ∧ ∀ R, XX true 20 256 1805 [.ref 48, .ref 64, .ref 153, .int (nI a)] [] (h2) (R) → XX true 20 256 429 [.ref 48, .ref 64, .ref 153, .int (nI a)] [] (h) (R) := by
  obtain ⟨h1, h2, res, r1, r2, k1, k2, s2⟩ := st_happened s (hI h 48 (ix (nI a + nI 1))) (hI h 48 (ix (nI a + nI 2)))
  have e1 : ∀ x, hI h1 48 x = hI h 48 x := fun x => congrArg toI (k1.2.2.2.2 x)
  have i1 : ∀ j, j < 8 → ax_in (nI a + nI j) h.2.2.2.2 = true := fun j hj => by rw [nI_add]; exact in_nI (by omega) (by omega)
  have i2 : ∀ j, j < 8 → ax_in (nI a + nI j) h1.2.2.2.2 = true := fun j hj => by rw [k1.2.2.1]; exact i1 j hj
  refine ⟨h2, k2, s2, fun R u => ?_⟩
  refine wb_L_law_429 ?_
  refine ⟨i1 1 (by decide), i1 2 (by decide), ?_⟩
  refine cl_L_law_440 rfl (by decide) (r1) ?_
  refine wb_L_law_443 ?_
  simp only [e1]
  refine ⟨i2 1 (by decide), i2 2 (by decide), ?_⟩
  refine cl_L_law_454 rfl (by decide) (r2) ?_
  refine wb_L_law_457 ?_
  rw [if_pos rfl]
  exact u
theorem turn_8 (s : sg h) {a : Nat} (ha : a + 8 ≤ h.2.2.2.2) (hL : h.2.2.2.2 < 2 ^ 31) : ∃ h2, stp h h2 ∧ sg h2 ∧ ∀ R, XX true 20 256 1805 [.ref 48, .ref 64, .ref 153, .int (nI a)] [] (h2) (R) → XX true 20 256 462 [.ref 48, .ref 64, .ref 153, .int (nI a)] [] (h) (R) := by
  obtain ⟨h1, h2, res, r1, r2, k1, k2, s2⟩ := st_chance s (hI h 48 (ix (nI a + nI 1))) (hI h 48 (ix (nI a + nI 2)))
  have e1 : ∀ x, hI h1 48 x = hI h 48 x := fun x => congrArg toI (k1.2.2.2.2 x)
  have i1 : ∀ j, j < 8 → ax_in (nI a + nI j) h.2.2.2.2 = true := fun j hj => by rw [nI_add]; exact in_nI (by omega) (by omega)
  have i2 : ∀ j, j < 8 → ax_in (nI a + nI j) h1.2.2.2.2 = true := fun j hj => by rw [k1.2.2.1]; exact i1 j hj
  refine ⟨h2, k2, s2, fun R u => ?_⟩
  refine wb_L_law_462 ?_
  refine ⟨i1 1 (by decide), i1 2 (by decide), ?_⟩
  refine cl_L_law_473 rfl (by decide) (r1) ?_
  refine wb_L_law_476 ?_
  simp only [e1]
  refine ⟨i2 1 (by decide), i2 2 (by decide), ?_⟩
  refine cl_L_law_487 rfl (by decide) (r2) ?_
  refine wb_L_law_490 ?_
  rw [if_pos ((lg_eq0 _ _).mpr rfl)]
  exact u
theorem turn_9 (s : sg h) {a : Nat} (ha : a + 8 ≤ h.2.2.2.2) (hL : h.2.2.2.2 < 2 ^ 31) : ∃ h2, stp h h2 ∧ sg h2 ∧ ∀ R, XX true 20 256 1805 [.ref 48, .ref 64, .ref 153, .int (nI a)] [] (h2) (R) → XX true 20 256 496 [.ref 48, .ref 64, .ref 153, .int (nI a)] [] (h) (R) := by
  obtain ⟨h1, h2, res, r1, r2, k1, k2, s2⟩ := st_view s (hI h 48 (ix (nI a + nI 1))) (hI h 48 (ix (nI a + nI 2))) (hI h 48 (ix (nI a + nI 3)))
  have e1 : ∀ x, hI h1 48 x = hI h 48 x := fun x => congrArg toI (k1.2.2.2.2 x)
  have i1 : ∀ j, j < 8 → ax_in (nI a + nI j) h.2.2.2.2 = true := fun j hj => by rw [nI_add]; exact in_nI (by omega) (by omega)
  have i2 : ∀ j, j < 8 → ax_in (nI a + nI j) h1.2.2.2.2 = true := fun j hj => by rw [k1.2.2.1]; exact i1 j hj
  refine ⟨h2, k2, s2, fun R u => ?_⟩
  refine wb_L_law_496 ?_
  refine ⟨i1 1 (by decide), i1 2 (by decide), i1 3 (by decide), ?_⟩
  refine cl_L_law_512 rfl (by decide) (r1) ?_
  refine wb_L_law_515 ?_
  simp only [e1]
  refine ⟨i2 1 (by decide), i2 2 (by decide), i2 3 (by decide), ?_⟩
  refine cl_L_law_531 rfl (by decide) (r2) ?_
  refine wb_L_law_534 ?_
  rw [if_pos rfl]
  exact u
theorem turn_10 (s : sg h) {a : Nat} (ha : a + 8 ≤ h.2.2.2.2) (hL : h.2.2.2.2 < 2 ^ 31) : ∃ h2, stp h h2 ∧ sg h2 ∧ ∀ R, XX true 20 256 1805 [.ref 48, .ref 64, .ref 153, .int (nI a)] [] (h2) (R) → XX true 20 256 539 [.ref 48, .ref 64, .ref 153, .int (nI a)] [] (h) (R) := by
  obtain ⟨h1, h2, res, r1, r2, k1, k2, s2⟩ := st_worlds s (hI h 48 (ix (nI a + nI 1))) (hI h 48 (ix (nI a + nI 2))) (hI h 48 (ix (nI a + nI 3)))
  have e1 : ∀ x, hI h1 48 x = hI h 48 x := fun x => congrArg toI (k1.2.2.2.2 x)
  have i1 : ∀ j, j < 8 → ax_in (nI a + nI j) h.2.2.2.2 = true := fun j hj => by rw [nI_add]; exact in_nI (by omega) (by omega)
  have i2 : ∀ j, j < 8 → ax_in (nI a + nI j) h1.2.2.2.2 = true := fun j hj => by rw [k1.2.2.1]; exact i1 j hj
  refine ⟨h2, k2, s2, fun R u => ?_⟩
  refine wb_L_law_539 ?_
  refine ⟨i1 1 (by decide), i1 2 (by decide), i1 3 (by decide), ?_⟩
  refine cl_L_law_555 rfl (by decide) (r1) ?_
  refine wb_L_law_558 ?_
  simp only [e1]
  refine ⟨i2 1 (by decide), i2 2 (by decide), i2 3 (by decide), ?_⟩
  refine cl_L_law_574 rfl (by decide) (r2) ?_
  refine wb_L_law_577 ?_
  rw [if_pos rfl]
  exact u
theorem turn_11 (s : sg h) {a : Nat} (ha : a + 8 ≤ h.2.2.2.2) (hL : h.2.2.2.2 < 2 ^ 31) : ∃ h2, stp h h2 ∧ sg h2 ∧ ∀ R, XX true 20 256 1805 [.ref 48, .ref 64, .ref 153, .int (nI a)] [] (h2) (R) → XX true 20 256 582 [.ref 48, .ref 64, .ref 153, .int (nI a)] [] (h) (R) := by
  obtain ⟨h1, h2, res, r1, r2, k1, k2, s2⟩ := st_world s (hI h 48 (ix (nI a + nI 1))) (hI h 48 (ix (nI a + nI 2))) (hI h 48 (ix (nI a + nI 3))) (hI h 48 (ix (nI a + nI 4)))
  have e1 : ∀ x, hI h1 48 x = hI h 48 x := fun x => congrArg toI (k1.2.2.2.2 x)
  have i1 : ∀ j, j < 8 → ax_in (nI a + nI j) h.2.2.2.2 = true := fun j hj => by rw [nI_add]; exact in_nI (by omega) (by omega)
  have i2 : ∀ j, j < 8 → ax_in (nI a + nI j) h1.2.2.2.2 = true := fun j hj => by rw [k1.2.2.1]; exact i1 j hj
  refine ⟨h2, k2, s2, fun R u => ?_⟩
  refine wb_L_law_582 ?_
  refine ⟨i1 1 (by decide), i1 2 (by decide), i1 3 (by decide), i1 4 (by decide), ?_⟩
  refine cl_L_law_603 rfl (by decide) (r1) ?_
  refine wb_L_law_606 ?_
  simp only [e1]
  refine ⟨i2 1 (by decide), i2 2 (by decide), i2 3 (by decide), i2 4 (by decide), ?_⟩
  refine cl_L_law_627 rfl (by decide) (r2) ?_
  refine wb_L_law_630 ?_
  rw [if_pos rfl]
  exact u
theorem turn_12 (s : sg h) {a : Nat} (ha : a + 8 ≤ h.2.2.2.2) (hL : h.2.2.2.2 < 2 ^ 31) : ∃ h2, stp h h2 ∧ sg h2 ∧ ∀ R, XX true 20 256 1805 [.ref 48, .ref 64, .ref 153, .int (nI a)] [] (h2) (R) → XX true 20 256 635 [.ref 48, .ref 64, .ref 153, .int (nI a)] [] (h) (R) := by
  obtain ⟨h1, h2, res, r1, r2, k1, k2, s2⟩ := st_odds s (hI h 48 (ix (nI a + nI 1))) (hI h 48 (ix (nI a + nI 2))) (hI h 48 (ix (nI a + nI 3))) (hI h 48 (ix (nI a + nI 4))) (hI h 48 (ix (nI a + nI 5))) (hI h 48 (ix (nI a + nI 6)))
  have e1 : ∀ x, hI h1 48 x = hI h 48 x := fun x => congrArg toI (k1.2.2.2.2 x)
  have i1 : ∀ j, j < 8 → ax_in (nI a + nI j) h.2.2.2.2 = true := fun j hj => by rw [nI_add]; exact in_nI (by omega) (by omega)
  have i2 : ∀ j, j < 8 → ax_in (nI a + nI j) h1.2.2.2.2 = true := fun j hj => by rw [k1.2.2.1]; exact i1 j hj
  refine ⟨h2, k2, s2, fun R u => ?_⟩
  refine wb_L_law_635 ?_
  refine ⟨i1 1 (by decide), i1 2 (by decide), i1 3 (by decide), i1 4 (by decide), i1 5 (by decide), i1 6 (by decide), ?_⟩
  refine cl_L_law_667 rfl (by decide) (r1) ?_
  refine wb_L_law_670 ?_
  simp only [e1]
  refine ⟨i2 1 (by decide), i2 2 (by decide), i2 3 (by decide), i2 4 (by decide), i2 5 (by decide), i2 6 (by decide), ?_⟩
  refine cl_L_law_702 rfl (by decide) (r2) ?_
  refine wb_L_law_705 ?_
  rw [if_pos ((lg_eq0 _ _).mpr rfl)]
  exact u
theorem turn_13 (s : sg h) {a : Nat} (ha : a + 8 ≤ h.2.2.2.2) (hL : h.2.2.2.2 < 2 ^ 31) : ∃ h2, stp h h2 ∧ sg h2 ∧ ∀ R, XX true 20 256 1805 [.ref 48, .ref 64, .ref 153, .int (nI a)] [] (h2) (R) → XX true 20 256 711 [.ref 48, .ref 64, .ref 153, .int (nI a)] [] (h) (R) := by
  obtain ⟨h1, h2, res, r1, r2, k1, k2, s2⟩ := st_sets s (hI h 48 (ix (nI a + nI 1)))
  have e1 : ∀ x, hI h1 48 x = hI h 48 x := fun x => congrArg toI (k1.2.2.2.2 x)
  have i1 : ∀ j, j < 8 → ax_in (nI a + nI j) h.2.2.2.2 = true := fun j hj => by rw [nI_add]; exact in_nI (by omega) (by omega)
  have i2 : ∀ j, j < 8 → ax_in (nI a + nI j) h1.2.2.2.2 = true := fun j hj => by rw [k1.2.2.1]; exact i1 j hj
  refine ⟨h2, k2, s2, fun R u => ?_⟩
  refine wb_L_law_711 ?_
  refine ⟨i1 1 (by decide), ?_⟩
  refine cl_L_law_717 rfl (by decide) (r1) ?_
  refine wb_L_law_720 ?_
  simp only [e1]
  refine ⟨i2 1 (by decide), ?_⟩
  refine cl_L_law_726 rfl (by decide) (r2) ?_
  refine wb_L_law_729 ?_
  rw [if_pos rfl]
  exact u
theorem turn_14 (s : sg h) {a : Nat} (ha : a + 8 ≤ h.2.2.2.2) (hL : h.2.2.2.2 < 2 ^ 31) : ∃ h2, stp h h2 ∧ sg h2 ∧ ∀ R, XX true 20 256 1805 [.ref 48, .ref 64, .ref 153, .int (nI a)] [] (h2) (R) → XX true 20 256 734 [.ref 48, .ref 64, .ref 153, .int (nI a)] [] (h) (R) := by
  obtain ⟨h1, h2, res, r1, r2, k1, k2, s2⟩ := st_setOf s (hI h 48 (ix (nI a + nI 1))) (hI h 48 (ix (nI a + nI 2))) (hI h 48 (ix (nI a + nI 3)))
  have e1 : ∀ x, hI h1 48 x = hI h 48 x := fun x => congrArg toI (k1.2.2.2.2 x)
  have i1 : ∀ j, j < 8 → ax_in (nI a + nI j) h.2.2.2.2 = true := fun j hj => by rw [nI_add]; exact in_nI (by omega) (by omega)
  have i2 : ∀ j, j < 8 → ax_in (nI a + nI j) h1.2.2.2.2 = true := fun j hj => by rw [k1.2.2.1]; exact i1 j hj
  refine ⟨h2, k2, s2, fun R u => ?_⟩
  refine wb_L_law_734 ?_
  refine ⟨i1 1 (by decide), i1 2 (by decide), i1 3 (by decide), ?_⟩
  refine cl_L_law_750 rfl (by decide) (r1) ?_
  refine wb_L_law_753 ?_
  simp only [e1]
  refine ⟨i2 1 (by decide), i2 2 (by decide), i2 3 (by decide), ?_⟩
  refine cl_L_law_769 rfl (by decide) (r2) ?_
  refine wb_L_law_772 ?_
  rw [if_pos rfl]
  exact u
theorem turn_15 (s : sg h) {a : Nat} (ha : a + 8 ≤ h.2.2.2.2) (hL : h.2.2.2.2 < 2 ^ 31) : ∃ h2, stp h h2 ∧ sg h2 ∧ ∀ R, XX true 20 256 1805 [.ref 48, .ref 64, .ref 153, .int (nI a)] [] (h2) (R) → XX true 20 256 777 [.ref 48, .ref 64, .ref 153, .int (nI a)] [] (h) (R) := by
  obtain ⟨h1, h2, res, r1, r2, k1, k2, s2⟩ := st_recalls s (hI h 48 (ix (nI a + nI 1)))
  have e1 : ∀ x, hI h1 48 x = hI h 48 x := fun x => congrArg toI (k1.2.2.2.2 x)
  have i1 : ∀ j, j < 8 → ax_in (nI a + nI j) h.2.2.2.2 = true := fun j hj => by rw [nI_add]; exact in_nI (by omega) (by omega)
  have i2 : ∀ j, j < 8 → ax_in (nI a + nI j) h1.2.2.2.2 = true := fun j hj => by rw [k1.2.2.1]; exact i1 j hj
  refine ⟨h2, k2, s2, fun R u => ?_⟩
  refine wb_L_law_777 ?_
  refine ⟨i1 1 (by decide), ?_⟩
  refine cl_L_law_783 rfl (by decide) (r1) ?_
  refine wb_L_law_786 ?_
  simp only [e1]
  refine ⟨i2 1 (by decide), ?_⟩
  refine cl_L_law_792 rfl (by decide) (r2) ?_
  refine wb_L_law_795 ?_
  rw [if_pos rfl]
  exact u
theorem turn_16 (s : sg h) {a : Nat} (ha : a + 8 ≤ h.2.2.2.2) (hL : h.2.2.2.2 < 2 ^ 31) : ∃ h2, stp h h2 ∧ sg h2 ∧ ∀ R, XX true 20 256 1805 [.ref 48, .ref 64, .ref 153, .int (nI a)] [] (h2) (R) → XX true 20 256 800 [.ref 48, .ref 64, .ref 153, .int (nI a)] [] (h) (R) := by
  obtain ⟨h1, h2, res, r1, r2, k1, k2, s2⟩ := st_plan s (hI h 48 (ix (nI a + nI 1))) (hI h 48 (ix (nI a + nI 2))) (hI h 48 (ix (nI a + nI 3))) (hI h 48 (ix (nI a + nI 4)))
  have e1 : ∀ x, hI h1 48 x = hI h 48 x := fun x => congrArg toI (k1.2.2.2.2 x)
  have i1 : ∀ j, j < 8 → ax_in (nI a + nI j) h.2.2.2.2 = true := fun j hj => by rw [nI_add]; exact in_nI (by omega) (by omega)
  have i2 : ∀ j, j < 8 → ax_in (nI a + nI j) h1.2.2.2.2 = true := fun j hj => by rw [k1.2.2.1]; exact i1 j hj
  refine ⟨h2, k2, s2, fun R u => ?_⟩
  refine wb_L_law_800 ?_
  refine ⟨i1 1 (by decide), i1 2 (by decide), i1 3 (by decide), i1 4 (by decide), ?_⟩
  refine cl_L_law_821 rfl (by decide) (r1) ?_
  refine wb_L_law_824 ?_
  simp only [e1]
  refine ⟨i2 1 (by decide), i2 2 (by decide), i2 3 (by decide), i2 4 (by decide), ?_⟩
  refine cl_L_law_845 rfl (by decide) (r2) ?_
  refine wb_L_law_848 ?_
  rw [if_pos rfl]
  exact u
theorem turn_17 (s : sg h) {a : Nat} (ha : a + 8 ≤ h.2.2.2.2) (hL : h.2.2.2.2 < 2 ^ 31) : ∃ h2, stp h h2 ∧ sg h2 ∧ ∀ R, XX true 20 256 1805 [.ref 48, .ref 64, .ref 153, .int (nI a)] [] (h2) (R) → XX true 20 256 853 [.ref 48, .ref 64, .ref 153, .int (nI a)] [] (h) (R) := by
  obtain ⟨h1, h2, res, r1, r2, k1, k2, s2⟩ := st_lot s (hI h 48 (ix (nI a + nI 1)))
  have e1 : ∀ x, hI h1 48 x = hI h 48 x := fun x => congrArg toI (k1.2.2.2.2 x)
  have i1 : ∀ j, j < 8 → ax_in (nI a + nI j) h.2.2.2.2 = true := fun j hj => by rw [nI_add]; exact in_nI (by omega) (by omega)
  have i2 : ∀ j, j < 8 → ax_in (nI a + nI j) h1.2.2.2.2 = true := fun j hj => by rw [k1.2.2.1]; exact i1 j hj
  refine ⟨h2, k2, s2, fun R u => ?_⟩
  refine wb_L_law_853 ?_
  refine ⟨i1 1 (by decide), ?_⟩
  refine cl_L_law_859 rfl (by decide) (r1) ?_
  refine wb_L_law_862 ?_
  simp only [e1]
  refine ⟨i2 1 (by decide), ?_⟩
  refine cl_L_law_868 rfl (by decide) (r2) ?_
  refine wb_L_law_871 ?_
  rw [if_pos rfl]
  exact u
theorem turn_18 (s : sg h) {a : Nat} (ha : a + 8 ≤ h.2.2.2.2) (hL : h.2.2.2.2 < 2 ^ 31) : ∃ h2, stp h h2 ∧ sg h2 ∧ ∀ R, XX true 20 256 1805 [.ref 48, .ref 64, .ref 153, .int (nI a)] [] (h2) (R) → XX true 20 256 876 [.ref 48, .ref 64, .ref 153, .int (nI a)] [] (h) (R) := by
  obtain ⟨h1, h2, res, r1, r2, k1, k2, s2⟩ := st_unplan s 
  refine ⟨h2, k2, s2, fun R u => ?_⟩
  refine wb_L_law_876 ?_
  refine cl_L_law_877 rfl (by decide) (r1) ?_
  refine wb_L_law_880 ?_
  refine cl_L_law_881 rfl (by decide) (r2) ?_
  refine wb_L_law_884 ?_
  rw [if_pos rfl]
  exact u
theorem turn_19 (s : sg h) {a : Nat} (ha : a + 8 ≤ h.2.2.2.2) (hL : h.2.2.2.2 < 2 ^ 31) : ∃ h2, stp h h2 ∧ sg h2 ∧ ∀ R, XX true 20 256 1805 [.ref 48, .ref 64, .ref 153, .int (nI a)] [] (h2) (R) → XX true 20 256 889 [.ref 48, .ref 64, .ref 153, .int (nI a)] [] (h) (R) := by
  obtain ⟨h1, h2, res, r1, r2, k1, k2, s2⟩ := st_rule s (hI h 48 (ix (nI a + nI 1))) (hI h 48 (ix (nI a + nI 2))) (hI h 48 (ix (nI a + nI 3))) (hI h 48 (ix (nI a + nI 4))) (hI h 48 (ix (nI a + nI 5))) (hI h 48 (ix (nI a + nI 6))) (hI h 48 (ix (nI a + nI 7)))
  have e1 : ∀ x, hI h1 48 x = hI h 48 x := fun x => congrArg toI (k1.2.2.2.2 x)
  have i1 : ∀ j, j < 8 → ax_in (nI a + nI j) h.2.2.2.2 = true := fun j hj => by rw [nI_add]; exact in_nI (by omega) (by omega)
  have i2 : ∀ j, j < 8 → ax_in (nI a + nI j) h1.2.2.2.2 = true := fun j hj => by rw [k1.2.2.1]; exact i1 j hj
  refine ⟨h2, k2, s2, fun R u => ?_⟩
  refine wb_L_law_889 ?_
  refine ⟨i1 1 (by decide), i1 2 (by decide), i1 3 (by decide), i1 4 (by decide), i1 5 (by decide), i1 6 (by decide), i1 7 (by decide), ?_⟩
  refine cl_L_law_927 rfl (by decide) (r1) ?_
  refine wb_L_law_930 ?_
  simp only [e1]
  refine ⟨i2 1 (by decide), i2 2 (by decide), i2 3 (by decide), i2 4 (by decide), i2 5 (by decide), i2 6 (by decide), i2 7 (by decide), ?_⟩
  refine cl_L_law_968 rfl (by decide) (r2) ?_
  refine wb_L_law_971 ?_
  rw [if_pos rfl]
  exact u
theorem turn_20 (s : sg h) {a : Nat} (ha : a + 8 ≤ h.2.2.2.2) (hL : h.2.2.2.2 < 2 ^ 31) : ∃ h2, stp h h2 ∧ sg h2 ∧ ∀ R, XX true 20 256 1805 [.ref 48, .ref 64, .ref 153, .int (nI a)] [] (h2) (R) → XX true 20 256 976 [.ref 48, .ref 64, .ref 153, .int (nI a)] [] (h) (R) := by
  obtain ⟨h1, h2, res, r1, r2, k1, k2, s2⟩ := st_ruleOf s (hI h 48 (ix (nI a + nI 1))) (hI h 48 (ix (nI a + nI 2)))
  have e1 : ∀ x, hI h1 48 x = hI h 48 x := fun x => congrArg toI (k1.2.2.2.2 x)
  have i1 : ∀ j, j < 8 → ax_in (nI a + nI j) h.2.2.2.2 = true := fun j hj => by rw [nI_add]; exact in_nI (by omega) (by omega)
  have i2 : ∀ j, j < 8 → ax_in (nI a + nI j) h1.2.2.2.2 = true := fun j hj => by rw [k1.2.2.1]; exact i1 j hj
  refine ⟨h2, k2, s2, fun R u => ?_⟩
  refine wb_L_law_976 ?_
  refine ⟨i1 1 (by decide), i1 2 (by decide), ?_⟩
  refine cl_L_law_987 rfl (by decide) (r1) ?_
  refine wb_L_law_990 ?_
  simp only [e1]
  refine ⟨i2 1 (by decide), i2 2 (by decide), ?_⟩
  refine cl_L_law_1001 rfl (by decide) (r2) ?_
  refine wb_L_law_1004 ?_
  rw [if_pos rfl]
  exact u
theorem turn_21 (s : sg h) {a : Nat} (ha : a + 8 ≤ h.2.2.2.2) (hL : h.2.2.2.2 < 2 ^ 31) : ∃ h2, stp h h2 ∧ sg h2 ∧ ∀ R, XX true 20 256 1805 [.ref 48, .ref 64, .ref 153, .int (nI a)] [] (h2) (R) → XX true 20 256 1009 [.ref 48, .ref 64, .ref 153, .int (nI a)] [] (h) (R) := by
  obtain ⟨h1, h2, res, r1, r2, k1, k2, s2⟩ := st_unrule s 
  refine ⟨h2, k2, s2, fun R u => ?_⟩
  refine wb_L_law_1009 ?_
  refine cl_L_law_1010 rfl (by decide) (r1) ?_
  refine wb_L_law_1013 ?_
  refine cl_L_law_1014 rfl (by decide) (r2) ?_
  refine wb_L_law_1017 ?_
  rw [if_pos rfl]
  exact u
theorem turn_22 (s : sg h) {a : Nat} (ha : a + 8 ≤ h.2.2.2.2) (hL : h.2.2.2.2 < 2 ^ 31) : ∃ h2, stp h h2 ∧ sg h2 ∧ ∀ R, XX true 20 256 1805 [.ref 48, .ref 64, .ref 153, .int (nI a)] [] (h2) (R) → XX true 20 256 1022 [.ref 48, .ref 64, .ref 153, .int (nI a)] [] (h) (R) := by
  obtain ⟨h1, h2, res, r1, r2, k1, k2, s2⟩ := st_pay s (hI h 48 (ix (nI a + nI 1))) (hI h 48 (ix (nI a + nI 2)))
  have e1 : ∀ x, hI h1 48 x = hI h 48 x := fun x => congrArg toI (k1.2.2.2.2 x)
  have i1 : ∀ j, j < 8 → ax_in (nI a + nI j) h.2.2.2.2 = true := fun j hj => by rw [nI_add]; exact in_nI (by omega) (by omega)
  have i2 : ∀ j, j < 8 → ax_in (nI a + nI j) h1.2.2.2.2 = true := fun j hj => by rw [k1.2.2.1]; exact i1 j hj
  refine ⟨h2, k2, s2, fun R u => ?_⟩
  refine wb_L_law_1022 ?_
  refine ⟨i1 1 (by decide), i1 2 (by decide), ?_⟩
  refine cl_L_law_1033 rfl (by decide) (r1) ?_
  refine wb_L_law_1036 ?_
  simp only [e1]
  refine ⟨i2 1 (by decide), i2 2 (by decide), ?_⟩
  refine cl_L_law_1047 rfl (by decide) (r2) ?_
  refine wb_L_law_1050 ?_
  rw [if_pos ((lg_eq0 _ _).mpr rfl)]
  exact u
theorem turn_23 (s : sg h) {a : Nat} (ha : a + 8 ≤ h.2.2.2.2) (hL : h.2.2.2.2 < 2 ^ 31) : ∃ h2, stp h h2 ∧ sg h2 ∧ ∀ R, XX true 20 256 1805 [.ref 48, .ref 64, .ref 153, .int (nI a)] [] (h2) (R) → XX true 20 256 1056 [.ref 48, .ref 64, .ref 153, .int (nI a)] [] (h) (R) := by
  obtain ⟨h1, h2, res, r1, r2, k1, k2, s2⟩ := st_mean s (hI h 48 (ix (nI a + nI 1))) (hI h 48 (ix (nI a + nI 2)))
  have e1 : ∀ x, hI h1 48 x = hI h 48 x := fun x => congrArg toI (k1.2.2.2.2 x)
  have i1 : ∀ j, j < 8 → ax_in (nI a + nI j) h.2.2.2.2 = true := fun j hj => by rw [nI_add]; exact in_nI (by omega) (by omega)
  have i2 : ∀ j, j < 8 → ax_in (nI a + nI j) h1.2.2.2.2 = true := fun j hj => by rw [k1.2.2.1]; exact i1 j hj
  refine ⟨h2, k2, s2, fun R u => ?_⟩
  refine wb_L_law_1056 ?_
  refine ⟨i1 1 (by decide), i1 2 (by decide), ?_⟩
  refine cl_L_law_1067 rfl (by decide) (r1) ?_
  refine wb_L_law_1070 ?_
  simp only [e1]
  refine ⟨i2 1 (by decide), i2 2 (by decide), ?_⟩
  refine cl_L_law_1081 rfl (by decide) (r2) ?_
  refine wb_L_law_1084 ?_
  rw [if_pos ((lg_eq0 _ _).mpr rfl)]
  exact u
theorem turn_24 (s : sg h) {a : Nat} (ha : a + 8 ≤ h.2.2.2.2) (hL : h.2.2.2.2 < 2 ^ 31) : ∃ h2, stp h h2 ∧ sg h2 ∧ ∀ R, XX true 20 256 1805 [.ref 48, .ref 64, .ref 153, .int (nI a)] [] (h2) (R) → XX true 20 256 1090 [.ref 48, .ref 64, .ref 153, .int (nI a)] [] (h) (R) := by
  obtain ⟨h1, h2, res, r1, r2, k1, k2, s2⟩ := st_reply s (hI h 48 (ix (nI a + nI 1))) (hI h 48 (ix (nI a + nI 2)))
  have e1 : ∀ x, hI h1 48 x = hI h 48 x := fun x => congrArg toI (k1.2.2.2.2 x)
  have i1 : ∀ j, j < 8 → ax_in (nI a + nI j) h.2.2.2.2 = true := fun j hj => by rw [nI_add]; exact in_nI (by omega) (by omega)
  have i2 : ∀ j, j < 8 → ax_in (nI a + nI j) h1.2.2.2.2 = true := fun j hj => by rw [k1.2.2.1]; exact i1 j hj
  refine ⟨h2, k2, s2, fun R u => ?_⟩
  refine wb_L_law_1090 ?_
  refine ⟨i1 1 (by decide), i1 2 (by decide), ?_⟩
  refine cl_L_law_1101 rfl (by decide) (r1) ?_
  refine wb_L_law_1104 ?_
  simp only [e1]
  refine ⟨i2 1 (by decide), i2 2 (by decide), ?_⟩
  refine cl_L_law_1115 rfl (by decide) (r2) ?_
  refine wb_L_law_1118 ?_
  rw [if_pos ((lg_eq0 _ _).mpr rfl)]
  exact u
theorem turn_25 (s : sg h) {a : Nat} (ha : a + 8 ≤ h.2.2.2.2) (hL : h.2.2.2.2 < 2 ^ 31) : ∃ h2, stp h h2 ∧ sg h2 ∧ ∀ R, XX true 20 256 1805 [.ref 48, .ref 64, .ref 153, .int (nI a)] [] (h2) (R) → XX true 20 256 1124 [.ref 48, .ref 64, .ref 153, .int (nI a)] [] (h) (R) := by
  obtain ⟨h1, h2, res, r1, r2, k1, k2, s2⟩ := st_better s (hI h 48 (ix (nI a + nI 1)))
  have e1 : ∀ x, hI h1 48 x = hI h 48 x := fun x => congrArg toI (k1.2.2.2.2 x)
  have i1 : ∀ j, j < 8 → ax_in (nI a + nI j) h.2.2.2.2 = true := fun j hj => by rw [nI_add]; exact in_nI (by omega) (by omega)
  have i2 : ∀ j, j < 8 → ax_in (nI a + nI j) h1.2.2.2.2 = true := fun j hj => by rw [k1.2.2.1]; exact i1 j hj
  refine ⟨h2, k2, s2, fun R u => ?_⟩
  refine wb_L_law_1124 ?_
  refine ⟨i1 1 (by decide), ?_⟩
  refine cl_L_law_1130 rfl (by decide) (r1) ?_
  refine wb_L_law_1133 ?_
  simp only [e1]
  refine ⟨i2 1 (by decide), ?_⟩
  refine cl_L_law_1139 rfl (by decide) (r2) ?_
  refine wb_L_law_1142 ?_
  rw [if_pos rfl]
  exact u
theorem turn_26 (s : sg h) {a : Nat} (ha : a + 8 ≤ h.2.2.2.2) (hL : h.2.2.2.2 < 2 ^ 31) : ∃ h2, stp h h2 ∧ sg h2 ∧ ∀ R, XX true 20 256 1805 [.ref 48, .ref 64, .ref 153, .int (nI a)] [] (h2) (R) → XX true 20 256 1147 [.ref 48, .ref 64, .ref 153, .int (nI a)] [] (h) (R) := by
  obtain ⟨h1, h2, res, r1, r2, k1, k2, s2⟩ := st_settled s 
  refine ⟨h2, k2, s2, fun R u => ?_⟩
  refine wb_L_law_1147 ?_
  refine cl_L_law_1148 rfl (by decide) (r1) ?_
  refine wb_L_law_1151 ?_
  refine cl_L_law_1152 rfl (by decide) (r2) ?_
  refine wb_L_law_1155 ?_
  rw [if_pos rfl]
  exact u
theorem turn_27 (s : sg h) {a : Nat} (ha : a + 8 ≤ h.2.2.2.2) (hL : h.2.2.2.2 < 2 ^ 31) : ∃ h2, stp h h2 ∧ sg h2 ∧ ∀ R, XX true 20 256 1805 [.ref 48, .ref 64, .ref 153, .int (nI a)] [] (h2) (R) → XX true 20 256 1160 [.ref 48, .ref 64, .ref 153, .int (nI a)] [] (h) (R) := by
  obtain ⟨h1, h2, res, r1, r2, k1, k2, s2⟩ := st_raise s ((hI h 48 (ix (nI a + nI 1))).toInt64 <<< ((nI 32).toInt64 &&& 63) ||| ((hI h 48 (ix (nI a + nI 2))).toInt64 &&& lN 4294967295))
  have e1 : ∀ x, hI h1 48 x = hI h 48 x := fun x => congrArg toI (k1.2.2.2.2 x)
  have i1 : ∀ j, j < 8 → ax_in (nI a + nI j) h.2.2.2.2 = true := fun j hj => by rw [nI_add]; exact in_nI (by omega) (by omega)
  have i2 : ∀ j, j < 8 → ax_in (nI a + nI j) h1.2.2.2.2 = true := fun j hj => by rw [k1.2.2.1]; exact i1 j hj
  refine ⟨h2, k2, s2, fun R u => ?_⟩
  refine wb_L_law_1160 ?_
  refine ⟨i1 1 (by decide), i1 2 (by decide), ?_⟩
  refine cl_L_law_1181 rfl (by decide) (r1) ?_
  refine wb_L_law_1184 ?_
  simp only [e1]
  refine ⟨i2 1 (by decide), i2 2 (by decide), ?_⟩
  refine cl_L_law_1205 rfl (by decide) (r2) ?_
  refine wb_L_law_1208 ?_
  rw [if_pos rfl]
  exact u
theorem turn_28 (s : sg h) {a : Nat} (ha : a + 8 ≤ h.2.2.2.2) (hL : h.2.2.2.2 < 2 ^ 31) : ∃ h2, stp h h2 ∧ sg h2 ∧ ∀ R, XX true 20 256 1805 [.ref 48, .ref 64, .ref 153, .int (nI a)] [] (h2) (R) → XX true 20 256 1213 [.ref 48, .ref 64, .ref 153, .int (nI a)] [] (h) (R) := by
  obtain ⟨h1, h2, res, r1, r2, k1, k2, s2⟩ := st_feed s (hI h 48 (ix (nI a + nI 1))) (hI h 48 (ix (nI a + nI 2)))
  have e1 : ∀ x, hI h1 48 x = hI h 48 x := fun x => congrArg toI (k1.2.2.2.2 x)
  have i1 : ∀ j, j < 8 → ax_in (nI a + nI j) h.2.2.2.2 = true := fun j hj => by rw [nI_add]; exact in_nI (by omega) (by omega)
  have i2 : ∀ j, j < 8 → ax_in (nI a + nI j) h1.2.2.2.2 = true := fun j hj => by rw [k1.2.2.1]; exact i1 j hj
  refine ⟨h2, k2, s2, fun R u => ?_⟩
  refine wb_L_law_1213 ?_
  refine ⟨i1 1 (by decide), i1 2 (by decide), ?_⟩
  refine cl_L_law_1224 rfl (by decide) (r1) ?_
  refine wb_L_law_1227 ?_
  simp only [e1]
  refine ⟨i2 1 (by decide), i2 2 (by decide), ?_⟩
  refine cl_L_law_1238 rfl (by decide) (r2) ?_
  refine wb_L_law_1241 ?_
  rw [if_pos rfl]
  exact u
theorem turn_29 (s : sg h) {a : Nat} (ha : a + 8 ≤ h.2.2.2.2) (hL : h.2.2.2.2 < 2 ^ 31) : ∃ h2, stp h h2 ∧ sg h2 ∧ ∀ R, XX true 20 256 1805 [.ref 48, .ref 64, .ref 153, .int (nI a)] [] (h2) (R) → XX true 20 256 1246 [.ref 48, .ref 64, .ref 153, .int (nI a)] [] (h) (R) := by
  obtain ⟨h1, h2, res, r1, r2, k1, k2, s2⟩ := st_text s 
  refine ⟨h2, k2, s2, fun R u => ?_⟩
  refine wb_L_law_1246 ?_
  refine cl_L_law_1247 rfl (by decide) (r1) ?_
  refine wb_L_law_1250 ?_
  refine cl_L_law_1251 rfl (by decide) (r2) ?_
  refine wb_L_law_1254 ?_
  rw [if_pos rfl]
  exact u
theorem turn_30 (s : sg h) {a : Nat} (ha : a + 8 ≤ h.2.2.2.2) (hL : h.2.2.2.2 < 2 ^ 31) : ∃ h2, stp h h2 ∧ sg h2 ∧ ∀ R, XX true 20 256 1805 [.ref 48, .ref 64, .ref 153, .int (nI a)] [] (h2) (R) → XX true 20 256 1259 [.ref 48, .ref 64, .ref 153, .int (nI a)] [] (h) (R) := by
  obtain ⟨h1, h2, res, r1, r2, k1, k2, s2⟩ := st_rack s (hI h 48 (ix (nI a + nI 1))) (hI h 48 (ix (nI a + nI 2)))
  have e1 : ∀ x, hI h1 48 x = hI h 48 x := fun x => congrArg toI (k1.2.2.2.2 x)
  have i1 : ∀ j, j < 8 → ax_in (nI a + nI j) h.2.2.2.2 = true := fun j hj => by rw [nI_add]; exact in_nI (by omega) (by omega)
  have i2 : ∀ j, j < 8 → ax_in (nI a + nI j) h1.2.2.2.2 = true := fun j hj => by rw [k1.2.2.1]; exact i1 j hj
  refine ⟨h2, k2, s2, fun R u => ?_⟩
  refine wb_L_law_1259 ?_
  refine ⟨i1 1 (by decide), i1 2 (by decide), ?_⟩
  refine cl_L_law_1270 rfl (by decide) (r1) ?_
  refine wb_L_law_1273 ?_
  simp only [e1]
  refine ⟨i2 1 (by decide), i2 2 (by decide), ?_⟩
  refine cl_L_law_1284 rfl (by decide) (r2) ?_
  refine wb_L_law_1287 ?_
  rw [if_pos rfl]
  exact u
theorem turn_31 (s : sg h) {a : Nat} (ha : a + 8 ≤ h.2.2.2.2) (hL : h.2.2.2.2 < 2 ^ 31) : ∃ h2, stp h h2 ∧ sg h2 ∧ ∀ R, XX true 20 256 1805 [.ref 48, .ref 64, .ref 153, .int (nI a)] [] (h2) (R) → XX true 20 256 1292 [.ref 48, .ref 64, .ref 153, .int (nI a)] [] (h) (R) := by
  obtain ⟨h1, h2, res, r1, r2, k1, k2, s2⟩ := st_lay s (hI h 48 (ix (nI a + nI 1))) (hI h 48 (ix (nI a + nI 2))) (hI h 48 (ix (nI a + nI 3)))
  have e1 : ∀ x, hI h1 48 x = hI h 48 x := fun x => congrArg toI (k1.2.2.2.2 x)
  have i1 : ∀ j, j < 8 → ax_in (nI a + nI j) h.2.2.2.2 = true := fun j hj => by rw [nI_add]; exact in_nI (by omega) (by omega)
  have i2 : ∀ j, j < 8 → ax_in (nI a + nI j) h1.2.2.2.2 = true := fun j hj => by rw [k1.2.2.1]; exact i1 j hj
  refine ⟨h2, k2, s2, fun R u => ?_⟩
  refine wb_L_law_1292 ?_
  refine ⟨i1 1 (by decide), i1 2 (by decide), i1 3 (by decide), ?_⟩
  refine cl_L_law_1308 rfl (by decide) (r1) ?_
  refine wb_L_law_1311 ?_
  simp only [e1]
  refine ⟨i2 1 (by decide), i2 2 (by decide), i2 3 (by decide), ?_⟩
  refine cl_L_law_1327 rfl (by decide) (r2) ?_
  refine wb_L_law_1330 ?_
  rw [if_pos rfl]
  exact u
theorem turn_32 (s : sg h) {a : Nat} (ha : a + 8 ≤ h.2.2.2.2) (hL : h.2.2.2.2 < 2 ^ 31) : ∃ h2, stp h h2 ∧ sg h2 ∧ ∀ R, XX true 20 256 1805 [.ref 48, .ref 64, .ref 153, .int (nI a)] [] (h2) (R) → XX true 20 256 1335 [.ref 48, .ref 64, .ref 153, .int (nI a)] [] (h) (R) := by
  obtain ⟨h1, h2, res, r1, r2, k1, k2, s2⟩ := st_build s (hI h 48 (ix (nI a + nI 1)))
  have e1 : ∀ x, hI h1 48 x = hI h 48 x := fun x => congrArg toI (k1.2.2.2.2 x)
  have i1 : ∀ j, j < 8 → ax_in (nI a + nI j) h.2.2.2.2 = true := fun j hj => by rw [nI_add]; exact in_nI (by omega) (by omega)
  have i2 : ∀ j, j < 8 → ax_in (nI a + nI j) h1.2.2.2.2 = true := fun j hj => by rw [k1.2.2.1]; exact i1 j hj
  refine ⟨h2, k2, s2, fun R u => ?_⟩
  refine wb_L_law_1335 ?_
  refine ⟨i1 1 (by decide), ?_⟩
  refine cl_L_law_1341 rfl (by decide) (r1) ?_
  refine wb_L_law_1344 ?_
  simp only [e1]
  refine ⟨i2 1 (by decide), ?_⟩
  refine cl_L_law_1350 rfl (by decide) (r2) ?_
  refine wb_L_law_1353 ?_
  rw [if_pos rfl]
  exact u
theorem turn_33 (s : sg h) {a : Nat} (ha : a + 8 ≤ h.2.2.2.2) (hL : h.2.2.2.2 < 2 ^ 31) : ∃ h2, stp h h2 ∧ sg h2 ∧ ∀ R, XX true 20 256 1805 [.ref 48, .ref 64, .ref 153, .int (nI a)] [] (h2) (R) → XX true 20 256 1358 [.ref 48, .ref 64, .ref 153, .int (nI a)] [] (h) (R) := by
  obtain ⟨h1, h2, res, r1, r2, k1, k2, s2⟩ := st_maybe s (hI h 48 (ix (nI a + nI 1))) (hI h 48 (ix (nI a + nI 2))) (hI h 48 (ix (nI a + nI 3))) (hI h 48 (ix (nI a + nI 4))) (hI h 48 (ix (nI a + nI 5)))
  have e1 : ∀ x, hI h1 48 x = hI h 48 x := fun x => congrArg toI (k1.2.2.2.2 x)
  have i1 : ∀ j, j < 8 → ax_in (nI a + nI j) h.2.2.2.2 = true := fun j hj => by rw [nI_add]; exact in_nI (by omega) (by omega)
  have i2 : ∀ j, j < 8 → ax_in (nI a + nI j) h1.2.2.2.2 = true := fun j hj => by rw [k1.2.2.1]; exact i1 j hj
  refine ⟨h2, k2, s2, fun R u => ?_⟩
  refine wb_L_law_1358 ?_
  refine ⟨i1 1 (by decide), i1 2 (by decide), i1 3 (by decide), i1 4 (by decide), i1 5 (by decide), ?_⟩
  refine cl_L_law_1384 rfl (by decide) (r1) ?_
  refine wb_L_law_1387 ?_
  simp only [e1]
  refine ⟨i2 1 (by decide), i2 2 (by decide), i2 3 (by decide), i2 4 (by decide), i2 5 (by decide), ?_⟩
  refine cl_L_law_1413 rfl (by decide) (r2) ?_
  refine wb_L_law_1416 ?_
  rw [if_pos rfl]
  exact u
theorem turn_34 (s : sg h) {a : Nat} (ha : a + 8 ≤ h.2.2.2.2) (hL : h.2.2.2.2 < 2 ^ 31) : ∃ h2, stp h h2 ∧ sg h2 ∧ ∀ R, XX true 20 256 1805 [.ref 48, .ref 64, .ref 153, .int (nI a)] [] (h2) (R) → XX true 20 256 1421 [.ref 48, .ref 64, .ref 153, .int (nI a)] [] (h) (R) := by
  obtain ⟨h1, h2, res, r1, r2, k1, k2, s2⟩ := st_sheet s (hI h 48 (ix (nI a + nI 1))) (hI h 48 (ix (nI a + nI 2))) (hI h 48 (ix (nI a + nI 3)))
  have e1 : ∀ x, hI h1 48 x = hI h 48 x := fun x => congrArg toI (k1.2.2.2.2 x)
  have i1 : ∀ j, j < 8 → ax_in (nI a + nI j) h.2.2.2.2 = true := fun j hj => by rw [nI_add]; exact in_nI (by omega) (by omega)
  have i2 : ∀ j, j < 8 → ax_in (nI a + nI j) h1.2.2.2.2 = true := fun j hj => by rw [k1.2.2.1]; exact i1 j hj
  refine ⟨h2, k2, s2, fun R u => ?_⟩
  refine wb_L_law_1421 ?_
  refine ⟨i1 1 (by decide), i1 2 (by decide), i1 3 (by decide), ?_⟩
  refine cl_L_law_1437 rfl (by decide) (r1) ?_
  refine wb_L_law_1440 ?_
  simp only [e1]
  refine ⟨i2 1 (by decide), i2 2 (by decide), i2 3 (by decide), ?_⟩
  refine cl_L_law_1456 rfl (by decide) (r2) ?_
  refine wb_L_law_1459 ?_
  rw [if_pos rfl]
  exact u
theorem turn_35 (s : sg h) {a : Nat} (ha : a + 8 ≤ h.2.2.2.2) (hL : h.2.2.2.2 < 2 ^ 31) : ∃ h2, stp h h2 ∧ sg h2 ∧ ∀ R, XX true 20 256 1805 [.ref 48, .ref 64, .ref 153, .int (nI a)] [] (h2) (R) → XX true 20 256 1464 [.ref 48, .ref 64, .ref 153, .int (nI a)] [] (h) (R) := by
  obtain ⟨h1, h2, res, r1, r2, k1, k2, s2⟩ := st_cell s (hI h 48 (ix (nI a + nI 1))) (hI h 48 (ix (nI a + nI 2))) (hI h 48 (ix (nI a + nI 3)))
  have e1 : ∀ x, hI h1 48 x = hI h 48 x := fun x => congrArg toI (k1.2.2.2.2 x)
  have i1 : ∀ j, j < 8 → ax_in (nI a + nI j) h.2.2.2.2 = true := fun j hj => by rw [nI_add]; exact in_nI (by omega) (by omega)
  have i2 : ∀ j, j < 8 → ax_in (nI a + nI j) h1.2.2.2.2 = true := fun j hj => by rw [k1.2.2.1]; exact i1 j hj
  refine ⟨h2, k2, s2, fun R u => ?_⟩
  refine wb_L_law_1464 ?_
  refine ⟨i1 1 (by decide), i1 2 (by decide), i1 3 (by decide), ?_⟩
  refine cl_L_law_1480 rfl (by decide) (r1) ?_
  refine wb_L_law_1483 ?_
  simp only [e1]
  refine ⟨i2 1 (by decide), i2 2 (by decide), i2 3 (by decide), ?_⟩
  refine cl_L_law_1499 rfl (by decide) (r2) ?_
  refine wb_L_law_1502 ?_
  rw [if_pos rfl]
  exact u
theorem turn_36 (s : sg h) {a : Nat} (ha : a + 8 ≤ h.2.2.2.2) (hL : h.2.2.2.2 < 2 ^ 31) : ∃ h2, stp h h2 ∧ sg h2 ∧ ∀ R, XX true 20 256 1805 [.ref 48, .ref 64, .ref 153, .int (nI a)] [] (h2) (R) → XX true 20 256 1507 [.ref 48, .ref 64, .ref 153, .int (nI a)] [] (h) (R) := by
  obtain ⟨h1, h2, res, r1, r2, k1, k2, s2⟩ := st_read s (hI h 48 (ix (nI a + nI 1))) (hI h 48 (ix (nI a + nI 2)))
  have e1 : ∀ x, hI h1 48 x = hI h 48 x := fun x => congrArg toI (k1.2.2.2.2 x)
  have i1 : ∀ j, j < 8 → ax_in (nI a + nI j) h.2.2.2.2 = true := fun j hj => by rw [nI_add]; exact in_nI (by omega) (by omega)
  have i2 : ∀ j, j < 8 → ax_in (nI a + nI j) h1.2.2.2.2 = true := fun j hj => by rw [k1.2.2.1]; exact i1 j hj
  refine ⟨h2, k2, s2, fun R u => ?_⟩
  refine wb_L_law_1507 ?_
  refine ⟨i1 1 (by decide), i1 2 (by decide), ?_⟩
  refine cl_L_law_1518 rfl (by decide) (r1) ?_
  refine wb_L_law_1521 ?_
  simp only [e1]
  refine ⟨i2 1 (by decide), i2 2 (by decide), ?_⟩
  refine cl_L_law_1532 rfl (by decide) (r2) ?_
  refine wb_L_law_1535 ?_
  rw [if_pos rfl]
  exact u
theorem turn_37 (s : sg h) {a : Nat} (ha : a + 8 ≤ h.2.2.2.2) (hL : h.2.2.2.2 < 2 ^ 31) : ∃ h2, stp h h2 ∧ sg h2 ∧ ∀ R, XX true 20 256 1805 [.ref 48, .ref 64, .ref 153, .int (nI a)] [] (h2) (R) → XX true 20 256 1540 [.ref 48, .ref 64, .ref 153, .int (nI a)] [] (h) (R) := by
  obtain ⟨h1, h2, res, r1, r2, k1, k2, s2⟩ := st_loadPlans s (hI h 48 (ix (nI a + nI 1))) (hI h 48 (ix (nI a + nI 2)))
  have e1 : ∀ x, hI h1 48 x = hI h 48 x := fun x => congrArg toI (k1.2.2.2.2 x)
  have i1 : ∀ j, j < 8 → ax_in (nI a + nI j) h.2.2.2.2 = true := fun j hj => by rw [nI_add]; exact in_nI (by omega) (by omega)
  have i2 : ∀ j, j < 8 → ax_in (nI a + nI j) h1.2.2.2.2 = true := fun j hj => by rw [k1.2.2.1]; exact i1 j hj
  refine ⟨h2, k2, s2, fun R u => ?_⟩
  refine wb_L_law_1540 ?_
  refine ⟨i1 1 (by decide), i1 2 (by decide), ?_⟩
  refine cl_L_law_1551 rfl (by decide) (r1) ?_
  refine wb_L_law_1554 ?_
  simp only [e1]
  refine ⟨i2 1 (by decide), i2 2 (by decide), ?_⟩
  refine cl_L_law_1565 rfl (by decide) (r2) ?_
  refine wb_L_law_1568 ?_
  rw [if_pos rfl]
  exact u
theorem turn_38 (s : sg h) {a : Nat} (ha : a + 8 ≤ h.2.2.2.2) (hL : h.2.2.2.2 < 2 ^ 31) : ∃ h2, stp h h2 ∧ sg h2 ∧ ∀ R, XX true 20 256 1805 [.ref 48, .ref 64, .ref 153, .int (nI a)] [] (h2) (R) → XX true 20 256 1573 [.ref 48, .ref 64, .ref 153, .int (nI a)] [] (h) (R) := by
  obtain ⟨h1, h2, res, r1, r2, k1, k2, s2⟩ := st_hold s (hI h 48 (ix (nI a + nI 1))) (hI h 48 (ix (nI a + nI 2))) ((hI h 48 (ix (nI a + nI 3))).toInt64 <<< ((nI 32).toInt64 &&& 63) ||| ((hI h 48 (ix (nI a + nI 4))).toInt64 &&& lN 4294967295))
  have e1 : ∀ x, hI h1 48 x = hI h 48 x := fun x => congrArg toI (k1.2.2.2.2 x)
  have i1 : ∀ j, j < 8 → ax_in (nI a + nI j) h.2.2.2.2 = true := fun j hj => by rw [nI_add]; exact in_nI (by omega) (by omega)
  have i2 : ∀ j, j < 8 → ax_in (nI a + nI j) h1.2.2.2.2 = true := fun j hj => by rw [k1.2.2.1]; exact i1 j hj
  refine ⟨h2, k2, s2, fun R u => ?_⟩
  refine wb_L_law_1573 ?_
  refine ⟨i1 1 (by decide), i1 2 (by decide), i1 3 (by decide), i1 4 (by decide), ?_⟩
  refine cl_L_law_1604 rfl (by decide) (r1) ?_
  refine wb_L_law_1607 ?_
  simp only [e1]
  refine ⟨i2 1 (by decide), i2 2 (by decide), i2 3 (by decide), i2 4 (by decide), ?_⟩
  refine cl_L_law_1638 rfl (by decide) (r2) ?_
  refine wb_L_law_1641 ?_
  rw [if_pos rfl]
  exact u
theorem turn_39 (s : sg h) {a : Nat} (ha : a + 8 ≤ h.2.2.2.2) (hL : h.2.2.2.2 < 2 ^ 31) : ∃ h2, stp h h2 ∧ sg h2 ∧ ∀ R, XX true 20 256 1805 [.ref 48, .ref 64, .ref 153, .int (nI a)] [] (h2) (R) → XX true 20 256 1646 [.ref 48, .ref 64, .ref 153, .int (nI a)] [] (h) (R) := by
  obtain ⟨h1, h2, res, r1, r2, k1, k2, s2⟩ := st_asStage s (hI h 48 (ix (nI a + nI 1))) (hI h 48 (ix (nI a + nI 2)))
  have e1 : ∀ x, hI h1 48 x = hI h 48 x := fun x => congrArg toI (k1.2.2.2.2 x)
  have i1 : ∀ j, j < 8 → ax_in (nI a + nI j) h.2.2.2.2 = true := fun j hj => by rw [nI_add]; exact in_nI (by omega) (by omega)
  have i2 : ∀ j, j < 8 → ax_in (nI a + nI j) h1.2.2.2.2 = true := fun j hj => by rw [k1.2.2.1]; exact i1 j hj
  refine ⟨h2, k2, s2, fun R u => ?_⟩
  refine wb_L_law_1646 ?_
  refine ⟨i1 1 (by decide), i1 2 (by decide), ?_⟩
  refine cl_L_law_1657 rfl (by decide) (r1) ?_
  refine wb_L_law_1660 ?_
  simp only [e1]
  refine ⟨i2 1 (by decide), i2 2 (by decide), ?_⟩
  refine cl_L_law_1671 rfl (by decide) (r2) ?_
  refine wb_L_law_1674 ?_
  rw [if_pos rfl]
  exact u
theorem turn_40 (s : sg h) {a : Nat} (ha : a + 8 ≤ h.2.2.2.2) (hL : h.2.2.2.2 < 2 ^ 31) : ∃ h2, stp h h2 ∧ sg h2 ∧ ∀ R, XX true 20 256 1805 [.ref 48, .ref 64, .ref 153, .int (nI a)] [] (h2) (R) → XX true 20 256 1679 [.ref 48, .ref 64, .ref 153, .int (nI a)] [] (h) (R) := by
  obtain ⟨h1, h2, res, r1, r2, k1, k2, s2⟩ := st_asAmount s (hI h 48 (ix (nI a + nI 1))) (hI h 48 (ix (nI a + nI 2)))
  have e1 : ∀ x, hI h1 48 x = hI h 48 x := fun x => congrArg toI (k1.2.2.2.2 x)
  have i1 : ∀ j, j < 8 → ax_in (nI a + nI j) h.2.2.2.2 = true := fun j hj => by rw [nI_add]; exact in_nI (by omega) (by omega)
  have i2 : ∀ j, j < 8 → ax_in (nI a + nI j) h1.2.2.2.2 = true := fun j hj => by rw [k1.2.2.1]; exact i1 j hj
  refine ⟨h2, k2, s2, fun R u => ?_⟩
  refine wb_L_law_1679 ?_
  refine ⟨i1 1 (by decide), i1 2 (by decide), ?_⟩
  refine cl_L_law_1690 rfl (by decide) (r1) ?_
  refine wb_L_law_1693 ?_
  simp only [e1]
  refine ⟨i2 1 (by decide), i2 2 (by decide), ?_⟩
  refine cl_L_law_1704 rfl (by decide) (r2) ?_
  refine wb_L_law_1707 ?_
  rw [if_pos rfl]
  exact u
theorem turn_41 (s : sg h) {a : Nat} (ha : a + 8 ≤ h.2.2.2.2) (hL : h.2.2.2.2 < 2 ^ 31) : ∃ h2, stp h h2 ∧ sg h2 ∧ ∀ R, XX true 20 256 1805 [.ref 48, .ref 64, .ref 153, .int (nI a)] [] (h2) (R) → XX true 20 256 1712 [.ref 48, .ref 64, .ref 153, .int (nI a)] [] (h) (R) := by
  obtain ⟨h1, h2, res, r1, r2, k1, k2, s2⟩ := st_asView s (hI h 48 (ix (nI a + nI 1))) (hI h 48 (ix (nI a + nI 2))) (hI h 48 (ix (nI a + nI 3)))
  have e1 : ∀ x, hI h1 48 x = hI h 48 x := fun x => congrArg toI (k1.2.2.2.2 x)
  have i1 : ∀ j, j < 8 → ax_in (nI a + nI j) h.2.2.2.2 = true := fun j hj => by rw [nI_add]; exact in_nI (by omega) (by omega)
  have i2 : ∀ j, j < 8 → ax_in (nI a + nI j) h1.2.2.2.2 = true := fun j hj => by rw [k1.2.2.1]; exact i1 j hj
  refine ⟨h2, k2, s2, fun R u => ?_⟩
  refine wb_L_law_1712 ?_
  refine ⟨i1 1 (by decide), i1 2 (by decide), i1 3 (by decide), ?_⟩
  refine cl_L_law_1728 rfl (by decide) (r1) ?_
  refine wb_L_law_1731 ?_
  simp only [e1]
  refine ⟨i2 1 (by decide), i2 2 (by decide), i2 3 (by decide), ?_⟩
  refine cl_L_law_1747 rfl (by decide) (r2) ?_
  refine wb_L_law_1750 ?_
  rw [if_pos rfl]
  exact u
theorem turn_42 (s : sg h) {a : Nat} (ha : a + 8 ≤ h.2.2.2.2) (hL : h.2.2.2.2 < 2 ^ 31) : ∃ h2, stp h h2 ∧ sg h2 ∧ ∀ R, XX true 20 256 1805 [.ref 48, .ref 64, .ref 153, .int (nI a)] [] (h2) (R) → XX true 20 256 1755 [.ref 48, .ref 64, .ref 153, .int (nI a)] [] (h) (R) := by
  obtain ⟨h1, h2, res, r1, r2, k1, k2, s2⟩ := st_image s 
  refine ⟨h2, k2, s2, fun R u => ?_⟩
  refine wb_L_law_1755 ?_
  refine cl_L_law_1756 rfl (by decide) (r1) ?_
  refine wb_L_law_1759 ?_
  refine cl_L_law_1760 rfl (by decide) (r2) ?_
  refine wb_L_law_1763 ?_
  rw [if_pos rfl]
  exact u
theorem turn_43 (s : sg h) {a : Nat} (ha : a + 8 ≤ h.2.2.2.2) (hL : h.2.2.2.2 < 2 ^ 31) : ∃ h2, stp h h2 ∧ sg h2 ∧ ∀ R, XX true 20 256 1805 [.ref 48, .ref 64, .ref 153, .int (nI a)] [] (h2) (R) → XX true 20 256 1768 [.ref 48, .ref 64, .ref 153, .int (nI a)] [] (h) (R) := by
  obtain ⟨h1, h2, res, r1, r2, k1, k2, s2⟩ := st_back s 
  refine ⟨h2, k2, s2, fun R u => ?_⟩
  refine wb_L_law_1768 ?_
  refine cl_L_law_1769 rfl (by decide) (r1) ?_
  refine wb_L_law_1772 ?_
  refine cl_L_law_1773 rfl (by decide) (r2) ?_
  refine wb_L_law_1776 ?_
  rw [if_pos rfl]
  exact u
theorem turn_44 (s : sg h) {a : Nat} (ha : a + 8 ≤ h.2.2.2.2) (hL : h.2.2.2.2 < 2 ^ 31) : ∃ h2, stp h h2 ∧ sg h2 ∧ ∀ R, XX true 20 256 1805 [.ref 48, .ref 64, .ref 153, .int (nI a)] [] (h2) (R) → XX true 20 256 1781 [.ref 48, .ref 64, .ref 153, .int (nI a)] [] (h) (R) := by
  obtain ⟨h1, h2, res, r1, r2, k1, k2, s2⟩ := st_count s (hI h 48 (ix (nI a + nI 1)))
  have e1 : ∀ x, hI h1 48 x = hI h 48 x := fun x => congrArg toI (k1.2.2.2.2 x)
  have i1 : ∀ j, j < 8 → ax_in (nI a + nI j) h.2.2.2.2 = true := fun j hj => by rw [nI_add]; exact in_nI (by omega) (by omega)
  have i2 : ∀ j, j < 8 → ax_in (nI a + nI j) h1.2.2.2.2 = true := fun j hj => by rw [k1.2.2.1]; exact i1 j hj
  refine ⟨h2, k2, s2, fun R u => ?_⟩
  refine wb_L_law_1781 ?_
  refine ⟨i1 1 (by decide), ?_⟩
  refine cl_L_law_1787 rfl (by decide) (r1) ?_
  refine wb_L_law_1790 ?_
  simp only [e1]
  refine ⟨i2 1 (by decide), ?_⟩
  refine cl_L_law_1796 rfl (by decide) (r2) ?_
  refine wb_L_law_1799 ?_
  rw [if_pos ((lg_eq0 _ _).mpr rfl)]
  exact u
theorem turn (s : sg h) {a : Nat} (ha : a + 8 ≤ h.2.2.2.2) (hL : h.2.2.2.2 < 2 ^ 31) : ∃ h2, stp h h2 ∧ sg h2 ∧ ∀ R, XX true 20 256 18 [.ref 48, .ref 64, .ref 153, .int (nI (a + 8))] [] (h2) (R) → XX true 20 256 18 [.ref 48, .ref 64, .ref 153, .int (nI a)] [] (h) (R) := by
  have c8 : nI a ≤ nI h.2.2.2.2 - nI 8 := by
    rw [nI_subI (by omega)]
    exact nI_le (by omega) (by omega)
  have top : ∀ R, XX true 20 256 33 [.ref 48, .ref 64, .ref 153, .int (nI a)] [.int (hI h 48 (ix (nI a)) &&& nI 63)] (h) (R) → XX true 20 256 18 [.ref 48, .ref 64, .ref 153, .int (nI a)] [] (h) (R) := by
    intro R u
    refine wb_L_law_18 ?_
    rw [if_pos c8]
    exact ⟨in_nI (by omega) (by omega), u⟩
  have bot : ∀ h2 R, XX true 20 256 18 [.ref 48, .ref 64, .ref 153, .int (nI (a + 8))] [] (h2) (R) → XX true 20 256 1805 [.ref 48, .ref 64, .ref 153, .int (nI a)] [] (h2) (R) := by
    intro h2 R u
    refine wb_L_law_1805 ?_
    rw [nI_add]
    exact u
  generalize hI h 48 (ix (nI a)) &&& nI 63 = x at top
  by_cases q : nI 0 ≤ x ∧ x ≤ nI 44
  · obtain ⟨k, hk, rfl⟩ := nI_of3 (by decide) q.1 q.2
    match k, hk with
    | 0, _ => obtain ⟨h2, k2, s2, u⟩ := turn_0 s ha hL; exact ⟨h2, k2, s2, fun R v => top R ((sw_L_law_33_0 rfl).mpr (u R (bot h2 R v)))⟩
    | 1, _ => obtain ⟨h2, k2, s2, u⟩ := turn_1 s ha hL; exact ⟨h2, k2, s2, fun R v => top R ((sw_L_law_33_1 rfl).mpr (u R (bot h2 R v)))⟩
    | 2, _ => obtain ⟨h2, k2, s2, u⟩ := turn_2 s ha hL; exact ⟨h2, k2, s2, fun R v => top R ((sw_L_law_33_2 rfl).mpr (u R (bot h2 R v)))⟩
    | 3, _ => obtain ⟨h2, k2, s2, u⟩ := turn_3 s ha hL; exact ⟨h2, k2, s2, fun R v => top R ((sw_L_law_33_3 rfl).mpr (u R (bot h2 R v)))⟩
    | 4, _ => obtain ⟨h2, k2, s2, u⟩ := turn_4 s ha hL; exact ⟨h2, k2, s2, fun R v => top R ((sw_L_law_33_4 rfl).mpr (u R (bot h2 R v)))⟩
    | 5, _ => obtain ⟨h2, k2, s2, u⟩ := turn_5 s ha hL; exact ⟨h2, k2, s2, fun R v => top R ((sw_L_law_33_5 rfl).mpr (u R (bot h2 R v)))⟩
    | 6, _ => obtain ⟨h2, k2, s2, u⟩ := turn_6 s ha hL; exact ⟨h2, k2, s2, fun R v => top R ((sw_L_law_33_6 rfl).mpr (u R (bot h2 R v)))⟩
    | 7, _ => obtain ⟨h2, k2, s2, u⟩ := turn_7 s ha hL; exact ⟨h2, k2, s2, fun R v => top R ((sw_L_law_33_7 rfl).mpr (u R (bot h2 R v)))⟩
    | 8, _ => obtain ⟨h2, k2, s2, u⟩ := turn_8 s ha hL; exact ⟨h2, k2, s2, fun R v => top R ((sw_L_law_33_8 rfl).mpr (u R (bot h2 R v)))⟩
    | 9, _ => obtain ⟨h2, k2, s2, u⟩ := turn_9 s ha hL; exact ⟨h2, k2, s2, fun R v => top R ((sw_L_law_33_9 rfl).mpr (u R (bot h2 R v)))⟩
    | 10, _ => obtain ⟨h2, k2, s2, u⟩ := turn_10 s ha hL; exact ⟨h2, k2, s2, fun R v => top R ((sw_L_law_33_10 rfl).mpr (u R (bot h2 R v)))⟩
    | 11, _ => obtain ⟨h2, k2, s2, u⟩ := turn_11 s ha hL; exact ⟨h2, k2, s2, fun R v => top R ((sw_L_law_33_11 rfl).mpr (u R (bot h2 R v)))⟩
    | 12, _ => obtain ⟨h2, k2, s2, u⟩ := turn_12 s ha hL; exact ⟨h2, k2, s2, fun R v => top R ((sw_L_law_33_12 rfl).mpr (u R (bot h2 R v)))⟩
    | 13, _ => obtain ⟨h2, k2, s2, u⟩ := turn_13 s ha hL; exact ⟨h2, k2, s2, fun R v => top R ((sw_L_law_33_13 rfl).mpr (u R (bot h2 R v)))⟩
    | 14, _ => obtain ⟨h2, k2, s2, u⟩ := turn_14 s ha hL; exact ⟨h2, k2, s2, fun R v => top R ((sw_L_law_33_14 rfl).mpr (u R (bot h2 R v)))⟩
    | 15, _ => obtain ⟨h2, k2, s2, u⟩ := turn_15 s ha hL; exact ⟨h2, k2, s2, fun R v => top R ((sw_L_law_33_15 rfl).mpr (u R (bot h2 R v)))⟩
    | 16, _ => obtain ⟨h2, k2, s2, u⟩ := turn_16 s ha hL; exact ⟨h2, k2, s2, fun R v => top R ((sw_L_law_33_16 rfl).mpr (u R (bot h2 R v)))⟩
    | 17, _ => obtain ⟨h2, k2, s2, u⟩ := turn_17 s ha hL; exact ⟨h2, k2, s2, fun R v => top R ((sw_L_law_33_17 rfl).mpr (u R (bot h2 R v)))⟩
    | 18, _ => obtain ⟨h2, k2, s2, u⟩ := turn_18 s ha hL; exact ⟨h2, k2, s2, fun R v => top R ((sw_L_law_33_18 rfl).mpr (u R (bot h2 R v)))⟩
    | 19, _ => obtain ⟨h2, k2, s2, u⟩ := turn_19 s ha hL; exact ⟨h2, k2, s2, fun R v => top R ((sw_L_law_33_19 rfl).mpr (u R (bot h2 R v)))⟩
    | 20, _ => obtain ⟨h2, k2, s2, u⟩ := turn_20 s ha hL; exact ⟨h2, k2, s2, fun R v => top R ((sw_L_law_33_20 rfl).mpr (u R (bot h2 R v)))⟩
    | 21, _ => obtain ⟨h2, k2, s2, u⟩ := turn_21 s ha hL; exact ⟨h2, k2, s2, fun R v => top R ((sw_L_law_33_21 rfl).mpr (u R (bot h2 R v)))⟩
    | 22, _ => obtain ⟨h2, k2, s2, u⟩ := turn_22 s ha hL; exact ⟨h2, k2, s2, fun R v => top R ((sw_L_law_33_22 rfl).mpr (u R (bot h2 R v)))⟩
    | 23, _ => obtain ⟨h2, k2, s2, u⟩ := turn_23 s ha hL; exact ⟨h2, k2, s2, fun R v => top R ((sw_L_law_33_23 rfl).mpr (u R (bot h2 R v)))⟩
    | 24, _ => obtain ⟨h2, k2, s2, u⟩ := turn_24 s ha hL; exact ⟨h2, k2, s2, fun R v => top R ((sw_L_law_33_24 rfl).mpr (u R (bot h2 R v)))⟩
    | 25, _ => obtain ⟨h2, k2, s2, u⟩ := turn_25 s ha hL; exact ⟨h2, k2, s2, fun R v => top R ((sw_L_law_33_25 rfl).mpr (u R (bot h2 R v)))⟩
    | 26, _ => obtain ⟨h2, k2, s2, u⟩ := turn_26 s ha hL; exact ⟨h2, k2, s2, fun R v => top R ((sw_L_law_33_26 rfl).mpr (u R (bot h2 R v)))⟩
    | 27, _ => obtain ⟨h2, k2, s2, u⟩ := turn_27 s ha hL; exact ⟨h2, k2, s2, fun R v => top R ((sw_L_law_33_27 rfl).mpr (u R (bot h2 R v)))⟩
    | 28, _ => obtain ⟨h2, k2, s2, u⟩ := turn_28 s ha hL; exact ⟨h2, k2, s2, fun R v => top R ((sw_L_law_33_28 rfl).mpr (u R (bot h2 R v)))⟩
    | 29, _ => obtain ⟨h2, k2, s2, u⟩ := turn_29 s ha hL; exact ⟨h2, k2, s2, fun R v => top R ((sw_L_law_33_29 rfl).mpr (u R (bot h2 R v)))⟩
    | 30, _ => obtain ⟨h2, k2, s2, u⟩ := turn_30 s ha hL; exact ⟨h2, k2, s2, fun R v => top R ((sw_L_law_33_30 rfl).mpr (u R (bot h2 R v)))⟩
    | 31, _ => obtain ⟨h2, k2, s2, u⟩ := turn_31 s ha hL; exact ⟨h2, k2, s2, fun R v => top R ((sw_L_law_33_31 rfl).mpr (u R (bot h2 R v)))⟩
    | 32, _ => obtain ⟨h2, k2, s2, u⟩ := turn_32 s ha hL; exact ⟨h2, k2, s2, fun R v => top R ((sw_L_law_33_32 rfl).mpr (u R (bot h2 R v)))⟩
    | 33, _ => obtain ⟨h2, k2, s2, u⟩ := turn_33 s ha hL; exact ⟨h2, k2, s2, fun R v => top R ((sw_L_law_33_33 rfl).mpr (u R (bot h2 R v)))⟩
    | 34, _ => obtain ⟨h2, k2, s2, u⟩ := turn_34 s ha hL; exact ⟨h2, k2, s2, fun R v => top R ((sw_L_law_33_34 rfl).mpr (u R (bot h2 R v)))⟩
    | 35, _ => obtain ⟨h2, k2, s2, u⟩ := turn_35 s ha hL; exact ⟨h2, k2, s2, fun R v => top R ((sw_L_law_33_35 rfl).mpr (u R (bot h2 R v)))⟩
    | 36, _ => obtain ⟨h2, k2, s2, u⟩ := turn_36 s ha hL; exact ⟨h2, k2, s2, fun R v => top R ((sw_L_law_33_36 rfl).mpr (u R (bot h2 R v)))⟩
    | 37, _ => obtain ⟨h2, k2, s2, u⟩ := turn_37 s ha hL; exact ⟨h2, k2, s2, fun R v => top R ((sw_L_law_33_37 rfl).mpr (u R (bot h2 R v)))⟩
    | 38, _ => obtain ⟨h2, k2, s2, u⟩ := turn_38 s ha hL; exact ⟨h2, k2, s2, fun R v => top R ((sw_L_law_33_38 rfl).mpr (u R (bot h2 R v)))⟩
    | 39, _ => obtain ⟨h2, k2, s2, u⟩ := turn_39 s ha hL; exact ⟨h2, k2, s2, fun R v => top R ((sw_L_law_33_39 rfl).mpr (u R (bot h2 R v)))⟩
    | 40, _ => obtain ⟨h2, k2, s2, u⟩ := turn_40 s ha hL; exact ⟨h2, k2, s2, fun R v => top R ((sw_L_law_33_40 rfl).mpr (u R (bot h2 R v)))⟩
    | 41, _ => obtain ⟨h2, k2, s2, u⟩ := turn_41 s ha hL; exact ⟨h2, k2, s2, fun R v => top R ((sw_L_law_33_41 rfl).mpr (u R (bot h2 R v)))⟩
    | 42, _ => obtain ⟨h2, k2, s2, u⟩ := turn_42 s ha hL; exact ⟨h2, k2, s2, fun R v => top R ((sw_L_law_33_42 rfl).mpr (u R (bot h2 R v)))⟩
    | 43, _ => obtain ⟨h2, k2, s2, u⟩ := turn_43 s ha hL; exact ⟨h2, k2, s2, fun R v => top R ((sw_L_law_33_43 rfl).mpr (u R (bot h2 R v)))⟩
    | 44, _ => obtain ⟨h2, k2, s2, u⟩ := turn_44 s ha hL; exact ⟨h2, k2, s2, fun R v => top R ((sw_L_law_33_44 rfl).mpr (u R (bot h2 R v)))⟩
    | n + 45, z => exact absurd z (by omega)
  · refine ⟨h, (fr.rfl' (L := [])).fx.stp (by obtain ⟨c, n, K, P, B, W, np, T, C, nr, U, V, sk, gs, _⟩ := s; exact gs.al) (by decide) (fun _ => rfl), s, fun R v => top R ((sw_L_law_33_d ?_).mpr (bot h R v))⟩
    apply Classical.byContradiction
    intro z
    exact q ⟨Int32.le_iff_toInt_le.mpr (by rw [show (nI 0).toInt = 0 by decide]; omega), Int32.le_iff_toInt_le.mpr (by rw [show (nI 44).toInt = 44 by decide]; omega)⟩
theorem law_loop : ∀ f a h, sg h → h.2.2.2.2 < 2 ^ 31 → h.2.2.2.2 < a + 8 * f + 8 → a < 2 ^ 31 → ∃ h', XX true 20 256 18 [.ref 48, .ref 64, .ref 153, .int (nI a)] [] (h) ((some (.int (nI 1)), h')) ∧ h'.2.2.1 ≤ h.2.2.1 + 21 * f ∧ h'.2.2.2.1 ≤ h.2.2.2.1 + 21 * f := by
  intro f
  induction f with
  | zero =>
    intro a h s hL hf ha
    refine ⟨h, ?_, Nat.le_refl _, Nat.le_refl _⟩
    refine wb_L_law_18 ?_
    rw [if_neg]
    intro z
    by_cases q : 8 ≤ h.2.2.2.2
    · rw [nI_subI q] at z
      exact absurd ((nI_leI (by omega) (by omega)).mp z) (by omega)
    · have t : ∀ L, L < 8 → nI L - nI 8 < nI 0 := by decide
      exact absurd (Int32.lt_of_le_of_lt z (t _ (by omega))) (nI_n0 (by omega))
  | succ f ih =>
    intro a h s hL hf ha
    by_cases q : a + 8 ≤ h.2.2.2.2
    · obtain ⟨h2, k2, s2, u⟩ := turn s q hL
      obtain ⟨h', x, y, z⟩ := ih (a + 8) h2 s2 (by rw [k2.2.2.1]; exact hL) (by rw [k2.2.2.1]; omega) (by omega)
      exact ⟨h', u _ x, by have := k2.1; omega, by have := k2.2.1; omega⟩
    · refine ⟨h, ?_, Nat.le_add_right _ _, Nat.le_add_right _ _⟩
      refine wb_L_law_18 ?_
      rw [if_neg]
      intro z
      by_cases q2 : 8 ≤ h.2.2.2.2
      · rw [nI_subI q2] at z
        exact absurd ((nI_leI (by omega) (by omega)).mp z) (by omega)
      · have t : ∀ L, L < 8 → nI L - nI 8 < nI 0 := by decide
        exact absurd (Int32.lt_of_le_of_lt z (t _ (by omega))) (nI_n0 (by omega))
end S88
