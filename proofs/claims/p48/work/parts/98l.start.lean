/-! THE START: classes, arrays' classes, links -/
section S98l
variable {s : State} {b : Nat}
theorem st_arrP {ty : FieldType} (h : (Cond.arrayClass ty).before #[Value.ref b] s = true) : ∃ cA, ArrOfT s cA ty ∧ s.vm.findClass ("[" ++ ty.toString) = some cA := by
  obtain ⟨c, k, comp, h1, h2, h3⟩ := Cond.arrayClass_spec h
  exact ⟨c, fun n z => ⟨(fun k h => by cases h), k, h2, comp, h3⟩, h1⟩
theorem st_arrO {C : String} (h : (Cond.arrayOver (.object C)).before #[Value.ref b] s = true) : ∃ cA, ArrOfT s cA (.object C) ∧ va_RA s cA (.object C) := by
  obtain ⟨comp, c, k, f1, f2, f3, f4, f5⟩ := Cond.arrayOver_spec h
  exact ⟨c, fun n z => ⟨(fun k h => by cases h), k, f3, comp, f4⟩, k, comp, f3, f4, f1, f5⟩
theorem st_arrA {t : FieldType} (h : (Cond.arrayOver (.array t)).before #[Value.ref b] s = true) : ∃ cA, ArrOfT s cA (.array t) ∧ va_RA s cA (.array t) := by
  obtain ⟨comp, c, k, f1, f2, f3, f4, f5⟩ := arrayOver_specB h
  exact ⟨c, fun n z => ⟨(fun k h => by cases h), k, f3, comp, f4⟩, f5⟩
theorem st_aty {c : Nat} {t : FieldType} (h : ax_aty c = some t) : t = .int ∨ t = .long ∨ t = .array .int ∨ t = .object RX0 ∨ t = .object RX6 ∨ t = .object RX7 ∨ t = .object RX10 := by
  unfold ax_aty at h
  split at h
  · cases h; exact Or.inl rfl
  split at h
  · cases h; exact Or.inr (Or.inl rfl)
  split at h
  · cases h; exact Or.inr (Or.inr (Or.inl rfl))
  split at h
  · cases h; exact Or.inr (Or.inr (Or.inr (Or.inl rfl)))
  split at h
  · cases h; exact Or.inr (Or.inr (Or.inr (Or.inr (Or.inl rfl))))
  split at h
  · cases h; exact Or.inr (Or.inr (Or.inr (Or.inr (Or.inr (Or.inl rfl)))))
  split at h
  · cases h; exact Or.inr (Or.inr (Or.inr (Or.inr (Or.inr (Or.inr rfl)))))
  · cases h
theorem st_cA (hts : ∀ w ∈ lw_tbl, w.before #[Value.ref b] s = true) : ∃ cA : Nat → ClassId, ∀ (c : Nat) (ty : FieldType), ax_aty c = some ty → ArrOfT s (cA c) ty ∧ va_RA s (cA c) ty := by
  have h0 : ∀ c : Nat, ∃ cA : ClassId, ∀ ty, ax_aty c = some ty → ArrOfT s cA ty ∧ va_RA s cA ty := by
    intro c
    have m1 := ax_arr_in.1
    have m2 := ax_arr_in.2.1
    have m4 := ax_arr_in.2.2.2.1
    have m5 := ax_arr_in.2.2.2.2.1
    have m6 := ax_arr_in.2.2.2.2.2.1
    have m7 := ax_arr_in.2.2.2.2.2.2.1
    have m8 := ax_arr_in.2.2.2.2.2.2.2.1
    cases hc : ax_aty c with
    | none => exact ⟨(0 : Nat), fun ty h => by cases h⟩
    | some t =>
      have key : ∃ cA : ClassId, ArrOfT s cA t ∧ va_RA s cA t := by
        rcases st_aty hc with rfl | rfl | rfl | rfl | rfl | rfl | rfl
        · exact st_arrP (hts _ m1)
        · exact st_arrP (hts _ m2)
        · exact st_arrA (hts _ m4)
        · exact st_arrO (hts _ m5)
        · exact st_arrO (hts _ m6)
        · exact st_arrO (hts _ m7)
        · exact st_arrO (hts _ m8)
      obtain ⟨cA, h1⟩ := key
      exact ⟨cA, fun ty h => by cases h; exact h1⟩
  obtain ⟨f, hf⟩ := Classical.axiomOfChoice h0
  exact ⟨f, fun c ty h => hf c ty h⟩
theorem st_D (hts : ∀ w ∈ lw_tbl, w.before #[Value.ref b] s = true) : ∃ D : va_G, ∀ (c : Nat) (q : vw_C), ax_cl[c]? = some q → u_Kn s q.1 q.2.1 q.2.2 (D.1 c) (D.2 c) := by
  have h0 : ∀ c : Nat, ∃ r : ClassId × (Nat → Nat), ∀ q : vw_C, ax_cl[c]? = some q → u_Kn s q.1 q.2.1 q.2.2 r.1 r.2 := by
    intro c
    by_cases hc : c < 12
    · obtain ⟨e, hin, -⟩ := ax_cl_in c hc
      obtain ⟨cC, iS, h⟩ := u_known hts hin (hts _ (ax_ins_in hc))
      refine ⟨(cC, iS), fun q hq => ?_⟩
      rw [e] at hq
      cases hq
      exact h
    · refine ⟨((0 : Nat), fun _ => 0), fun q hq => ?_⟩
      have hl : ax_cl.length = 12 := rfl
      rw [List.getElem?_eq_none (by omega)] at hq
      cases hq
  obtain ⟨f, hf⟩ := Classical.axiomOfChoice h0
  exact ⟨(fun c => (f c).1, fun c => (f c).2), fun c q hq => hf c q hq⟩
theorem st_NW (hts : ∀ w ∈ lw_tbl, w.before #[Value.ref b] s = true) : ax_NW s := by
  have m4 := ax_arr_in.2.2.2.1
  have m5 := ax_arr_in.2.2.2.2.1
  have m6 := ax_arr_in.2.2.2.2.2.1
  have m7 := ax_arr_in.2.2.2.2.2.2.1
  have m8 := ax_arr_in.2.2.2.2.2.2.2.1
  refine ⟨fun C hC => ?_, hts _ m4, va_Nw.of rfl (hts _ (show Cond.castable "[I" "java/lang/Cloneable" ∈ lw_tbl by decide +kernel)), fun q hq hk => ?_⟩
  · simp only [ax_aoL, List.mem_cons, List.not_mem_nil, or_false] at hC
    rcases hC with rfl | rfl | rfl | rfl
    · exact va_AO.of (hts _ m5)
    · exact va_AO.of (hts _ m6)
    · exact va_AO.of (hts _ m7)
    · exact va_AO.of (hts _ m8)
  · have h := ax_sub_mem _ _ ax_caT_ok _ (List.mem_map.mpr ⟨_, hq, rfl⟩)
    unfold ax_caW at h
    rw [if_neg (by omega), if_neg (by omega), if_neg (by omega), if_pos hk] at h
    exact va_Nw.of rfl (hts _ h)
end S98l
