/-! THE CONSTANTS, out of what the Statement gives of the start -/
def cs_kn : List String := ["DEAL", "TURN", "ASK", "VEIL", "SHOW", "FORGET", "TOSS", "PEEK"]
/-- where the constant k stands at the start -/
def cs_T (k : Nat) : Term := if k < 8 then .static "VeiledTable$Kind" (cs_kn.getD k "") "LVeiledTable$Kind;" else .static "VeiledTable" "KINDS" "[LVeiledTable$Kind;"
def cs_F : List Cond := flatC (Jvm.Cond.and given_1 narrow_1)
def cs_c (k : Nat) : Nat × Nat := ax_ctyL.getD k (99, 0)
def cs_v (k j : Nat) : Value := (ax_ccL.getD k []).getD j .null
def cs_in (c : Cond) : Bool := decide (c ∈ cs_F)
theorem cs_in_mem {c : Cond} (h : cs_in c = true) : c ∈ cs_F := of_decide_eq_true h
set_option maxRecDepth 100000 in
theorem cs_ok_ex : ((List.range 9).all fun k => if (cs_c k).1 < 14 then cs_in (.exactly (cs_T k) (ax_nm (cs_c k).1)) else true) = true := by decide +kernel
def cs_okA (k : Nat) : Bool := if 20 ≤ (cs_c k).1 ∧ (cs_c k).1 ≠ 99 then cs_in (.arrayOf (cs_T k) (ax_cel (cs_c k).1)) && cs_in (.eq (.length (cs_T k)) (.int (Int32.ofNat (cs_c k).2))) && decide ((cs_c k).2 < 100) && (List.range (cs_c k).2).all (fun j => match ax_ev (cs_c k).1 (cs_v k j) with
  | .int z => cs_in (.eq (.elem (cs_T k) (.int (Int32.ofNat j))) (.int z))
  | .ref q => decide (q < 8) && cs_in (.eq (.elem (cs_T k) (.int (Int32.ofNat j))) (cs_T q))
  | _ => false) else true
set_option maxRecDepth 100000 in
theorem cs_ok_ar : ((List.range 9).all cs_okA) = true := by decide +kernel
def cs_okF (k j : Nat) : Bool := match ax_tv (ax_fc (cs_c k).1 j) (cs_v k j) with
  | .int z => cs_in (.eq (.field (cs_T k) (ax_fT (cs_c k).1 j).1 (ax_fT (cs_c k).1 j).2.1 (ax_fT (cs_c k).1 j).2.2.1) (.int z))
  | _ => false
set_option maxRecDepth 100000 in
theorem cs_ok_f : ((List.range 9).all fun k => if (cs_c k).1 < 14 then (List.range (ax_nf (cs_c k).1)).all (cs_okF k) else true) = true := by decide +kernel
set_option maxRecDepth 100000 in
theorem cs_ok_d : ((List.range 8).all fun i => (List.range 8).all fun j => decide (i = j) || (cs_in (.not (.eq (cs_T i) (cs_T j))) || cs_in (.not (.eq (cs_T j) (cs_T i))))) = true := by decide +kernel
def cs_tb (c : Cond) : Bool := decide (c ∈ lw_tbl)
theorem cs_tb_mem {c : Cond} (h : cs_tb c = true) : c ∈ lw_tbl := of_decide_eq_true h
def cs_okZ (q : (Nat × Nat) × Value) : Bool := match ax_stN.lookup q.1 with
  | none => true
  | some n => cs_tb (.laysStatic n.1 n.2.1 n.2.2) && cs_tb (.initialized n.1) && (match q.2 with
    | .int z => cs_in (.eq (.static n.1 n.2.1 n.2.2) (.int z))
    | .ref k => decide (k < 9) && decide (cs_T k = .static n.1 n.2.1 n.2.2)
    | _ => false)
set_option maxRecDepth 100000 in
theorem cs_ok_z : (ax_stT.all cs_okZ) = true := by decide +kernel
def cs_okL (q : (Nat × Nat) × Value) : Bool := match q.2 with
  | .ref _ => false
  | _ => true
theorem cs_ok_l : (ax_ldT.all cs_okL) = true := by decide +kernel
section S98k
variable {s : State} {b Ls : Nat} {xs : Nat → Int32}
def cs_e (b : Nat) (s : State) (t : Term) : Option Value := t.eval #[Value.ref b] s none [] s
def cs_av (b : Nat) (s : State) (k : Nat) : Value := if k < 9 then (cs_e b s (cs_T k)).getD .null else .ref b
theorem cs_cv {base : Nat} {av : Nat → Value} {k : Nat} (h : k < 64) : ax_cv base av (.ref k) = av k := if_pos h
theorem cs_hA : ∀ a : Nat, a < s.heap.size → ¬ ax_A s.heap.size a := fun a h (z : s.heap.size ≤ a) => absurd h (Nat.not_lt.mpr z)
theorem cs_av_of {k : Nat} (hk : k < 9) {v : Value} (h : cs_e b s (cs_T k) = some v) : cs_av b s k = v := by
  unfold cs_av
  rw [if_pos hk, h]
  rfl
theorem cs_o (gv : ∀ c ∈ cs_F, c.before #[Value.ref b] s = true) {k : Nat} (hk : k < 9) (hc : (cs_c k).1 < 14) : ∃ a, cs_e b s (cs_T k) = some (.ref a) ∧ va_O (ax_nm (cs_c k).1) a (ax_A s.heap.size) s s.heap := by
  have h1 := List.all_eq_true.mp cs_ok_ex k (List.mem_range.mpr hk)
  rw [if_pos hc] at h1
  have h := gv _ (cs_in_mem h1)
  obtain ⟨a, c, cA, kA, q1, q2, q3, q4, q5, q6, -⟩ := Cond.exactly_spec (args := #[Value.ref b]) (first := s) (o := none) (s := s) (idx := []) (t := cs_T k) (cls := ax_nm (cs_c k).1) h
  exact ⟨a, q1, va_Oof h q1 cs_hA⟩
theorem cs_k8 : ∀ k, k < 8 → (cs_c k).1 < 14 := by decide
theorem cs_ev8 (gv : ∀ c ∈ cs_F, c.before #[Value.ref b] s = true) {k : Nat} (hk : k < 8) : cs_e b s (cs_T k) = some (cs_av b s k) := by
  obtain ⟨a, h, -⟩ := cs_o gv (by omega : k < 9) (cs_k8 k hk)
  rw [cs_av_of (by omega) h, h]
theorem cs_a (gv : ∀ c ∈ cs_F, c.before #[Value.ref b] s = true) {k : Nat} (hk : k < 9) (hc : 20 ≤ (cs_c k).1) (hc2 : (cs_c k).1 ≠ 99) : ∃ a, cs_e b s (cs_T k) = some (.ref a) ∧ va_T (ax_cel (cs_c k).1) a (cs_c k).2 (fun j => ax_cv s.heap.size (cs_av b s) (ax_ev (cs_c k).1 (cs_v k j))) (ax_A s.heap.size) s s.heap := by
  have h1 := List.all_eq_true.mp cs_ok_ar k (List.mem_range.mpr hk)
  unfold cs_okA at h1
  rw [if_pos ⟨hc, hc2⟩] at h1
  simp only [Bool.and_eq_true, decide_eq_true_eq] at h1
  obtain ⟨⟨⟨h2, h3⟩, h4⟩, h5⟩ := h1
  refine va_Tof (by omega) (gv _ (cs_in_mem h2)) (va_eqt (gv _ (cs_in_mem h3))) (fun j hj => ?_) cs_hA
  have h6 := List.all_eq_true.mp h5 j (List.mem_range.mpr hj)
  split at h6
  · rename_i z hz
    rw [hz]
    exact va_eqt (gv _ (cs_in_mem h6))
  · rename_i q hq
    rw [hq]
    simp only [Bool.and_eq_true, decide_eq_true_eq] at h6
    have h7 : ax_cv s.heap.size (cs_av b s) (.ref q) = cs_av b s q := cs_cv (Nat.lt_of_lt_of_le h6.1 (by decide))
    rw [h7]
    exact va_eqv (gv _ (cs_in_mem h6.2)) (cs_ev8 gv h6.1)
  · cases h6
theorem cs_cl : ∀ k, k < 9 → (cs_c k).1 < 14 ∨ (20 ≤ (cs_c k).1 ∧ (cs_c k).1 ≠ 99) := by decide
theorem cs_ref (gv : ∀ c ∈ cs_F, c.before #[Value.ref b] s = true) {k : Nat} (hk : k < 9) : ∃ a, cs_e b s (cs_T k) = some (.ref a) ∧ cs_av b s k = .ref a := by
  rcases cs_cl k hk with h | ⟨h, h'⟩
  · obtain ⟨a, e, -⟩ := cs_o gv hk h
    exact ⟨a, e, cs_av_of hk e⟩
  · obtain ⟨a, e, -⟩ := cs_a gv hk h h'
    exact ⟨a, e, cs_av_of hk e⟩
theorem cs_ev (gv : ∀ c ∈ cs_F, c.before #[Value.ref b] s = true) {k : Nat} (hk : k < 9) : cs_e b s (cs_T k) = some (cs_av b s k) := by
  obtain ⟨a, e, e2⟩ := cs_ref gv hk
  rw [e, e2]
theorem cs_vnn (gv : ∀ c ∈ cs_F, c.before #[Value.ref b] s = true) : ax_vnn (cs_av b s) := by
  intro k hk h9
  by_cases h : k < 9
  · obtain ⟨a, -, e⟩ := cs_ref gv h
    exact ⟨a, e⟩
  · exact ⟨b, if_neg h⟩
theorem cs_vok (gv : ∀ c ∈ cs_F, c.before #[Value.ref b] s = true) : ax_vok (cs_av b s) := by
  intro k hk
  by_cases h : k < 9
  · obtain ⟨a, -, e⟩ := cs_ref gv h
    exact ⟨some a, e⟩
  · exact ⟨some b, if_neg h⟩
theorem cs_48 : ∀ k, k < 49 → ¬ k < 9 → k ≠ 48 → ax_ctyL.getD k (99, 0) = (99, 0) := by decide
/-- the constants -/
theorem cs_CK (gv : ∀ c ∈ cs_F, c.before #[Value.ref b] s = true) (hts : ∀ w ∈ lw_tbl, w.before #[Value.ref b] s = true) (hX : va_X b Ls xs s s.heap) (hbl : b < s.heap.size) : ax_CK s.heap.size (cs_av b s) s.heap Ls xs s := by
  refine ⟨fun k hk hc => ?_, fun k hk hc hc2 => ?_, fun i j hi hj he => ?_, ?_, fun q hq n hn => ?_, fun q hq k hk => ?_⟩
  · have h48 : k ≠ 48 := fun z => by
      rw [z] at hc
      exact absurd (show (20 : Nat) < 14 from hc) (by decide)
    have e : ax_cty Ls k = cs_c k := if_neg h48
    have e2 : ∀ j, ax_cc xs k j = cs_v k j := fun j => if_neg h48
    rw [e] at hc ⊢
    have hk2 : k < 9 := Nat.lt_of_not_le fun z => by
      unfold cs_c at hc
      rw [cs_48 k hk (by omega) h48] at hc
      exact absurd hc (by decide)
    obtain ⟨a, h1, h2⟩ := cs_o gv hk2 hc
    refine ⟨a, cs_av_of hk2 h1, h2, fun j hj => ?_⟩
    rw [e2]
    have h3 := List.all_eq_true.mp cs_ok_f k (List.mem_range.mpr hk2)
    rw [if_pos hc] at h3
    have h4 := List.all_eq_true.mp h3 j (List.mem_range.mpr hj)
    unfold cs_okF at h4
    refine vk_OFof h1 ?_ cs_hA
    split at h4
    · rename_i z hz
      rw [hz]
      exact va_eqt (gv _ (cs_in_mem h4))
    · cases h4
  · by_cases h48 : k = 48
    · subst h48
      obtain ⟨scr, x1, x2, x3, x4, x5⟩ := hX
      refine ⟨b, rfl, scr, x1, x2, x3, by rw [x4]; exact Nat.le_refl _, by rw [x4]; rfl, fun j hj => ?_, cs_hA b hbl⟩
      exact x5 j hj
    · have e : ax_cty Ls k = cs_c k := if_neg h48
      have e2 : ∀ j, ax_cc xs k j = cs_v k j := fun j => if_neg h48
      rw [e] at hc hc2 ⊢
      have hk2 : k < 9 := Nat.lt_of_not_le fun z => by
        unfold cs_c at hc2
        rw [cs_48 k hk (by omega) h48] at hc2
        exact absurd rfl hc2
      obtain ⟨a, h1, h2⟩ := cs_a gv hk2 hc hc2
      refine ⟨a, cs_av_of hk2 h1, ?_⟩
      rw [show (fun j => ax_cv s.heap.size (cs_av b s) (ax_ev (cs_c k).1 (ax_cc xs k j))) = (fun j => ax_cv s.heap.size (cs_av b s) (ax_ev (cs_c k).1 (cs_v k j))) from funext fun j => by rw [e2]]
      exact h2
  · by_cases hij : i = j
    · exact hij
    · have h1 := List.all_eq_true.mp (List.all_eq_true.mp cs_ok_d i (List.mem_range.mpr hi)) j (List.mem_range.mpr hj)
      simp only [Bool.or_eq_true, decide_eq_true_eq] at h1
      obtain ⟨a1, e1, f1⟩ := cs_ref gv (by omega : i < 9)
      obtain ⟨a2, e2, f2⟩ := cs_ref gv (by omega : j < 9)
      rw [f1, f2] at he
      have he2 : a1 = a2 := Value.ref.inj he
      rcases h1 with h1 | h1 | h1
      · exact absurd h1 hij
      · exact absurd he2 (va_neR (gv _ (cs_in_mem h1)) e1 e2)
      · exact absurd he2.symm (va_neR (gv _ (cs_in_mem h1)) e2 e1)
  · exact ⟨some b, rfl⟩
  · have h1 := List.all_eq_true.mp cs_ok_z q hq
    unfold cs_okZ at h1
    rw [hn] at h1
    simp only [Bool.and_eq_true] at h1
    obtain ⟨⟨h2, h3⟩, h4⟩ := h1
    refine va_Zof (hts _ (cs_tb_mem h2)) (hts _ (cs_tb_mem h3)) ?_ cs_hA
    split at h4
    · rename_i z hz
      rw [hz]
      exact va_eqt (gv _ (cs_in_mem h4))
    · rename_i k hk
      rw [hk]
      simp only [Bool.and_eq_true, decide_eq_true_eq] at h4
      have h9 : ax_cv s.heap.size (cs_av b s) (.ref k) = cs_av b s k := cs_cv (Nat.lt_of_lt_of_le h4.1 (by decide))
      rw [h9, ← h4.2]
      exact cs_ev gv h4.1
    · cases h4
  · have h1 := List.all_eq_true.mp cs_ok_l q hq
    unfold cs_okL at h1
    rw [hk] at h1
    cases h1
end S98k
