/-! A RUN THAT LEAVES THE SCRIPT ALONE IS THE SAME WITH ANY SCRIPT -/
def psi (g : Nat → Value) (L : Nat) (h : AH) : AH := (fun a j => if a = 48 then g j else h.1 a j, h.2.1, h.2.2.1, h.2.2.2.1, L)
def no48 : Value → Bool
  | .ref k => decide (k ≠ 48)
  | _ => true
def psq (g : Nat → Value) (L : Nat) (q : AX) : AX := (q.1, q.2.1, q.2.2.1, psi g L q.2.2.2)
section S98d
variable {ph : Bool} {m pc : Nat} {ls st : List Value} {h : AH} {g : Nat → Value} {L : Nat}
theorem psi_ty {a : Nat} (ha : a ≠ 48) : ax_ty (psi g L h) a = ax_ty h a := by
  unfold ax_ty
  rw [if_neg ha, if_neg ha]
  rfl
theorem psi_rd {a j : Nat} (ha : a ≠ 48) : ax_rd ph (psi g L h) a j = ax_rd ph h a j := by
  have e : (psi g L h).1 a j = h.1 a j := if_neg ha
  unfold ax_rd
  rw [e]
theorem psi_wr {a j : Nat} {v : Value} (ha : a ≠ 48) : ax_wr (psi g L h) a j v = psi g L (ax_wr h a j v) := by
  unfold ax_wr psi
  refine Prod.ext (funext fun b => funext fun k => ?_) rfl
  show (if b = a ∧ k = j then v else if b = 48 then g k else h.1 b k) = if b = 48 then g k else if b = a ∧ k = j then v else h.1 b k
  by_cases z : b = 48
  · rw [if_neg (fun y => ha (y.1.symm.trans z)), if_pos z, if_pos z]
  · rw [if_neg z, if_neg z]
theorem psi_mk {c n : Nat} {f : Nat → Value} (ha : 64 ≤ h.2.2.1) : ax_mk (psi g L h) c n f = psi g L (ax_mk h c n f) := by
  unfold ax_mk psi
  refine Prod.ext (funext fun b => funext fun k => ?_) rfl
  show (if b = h.2.2.1 then f k else if b = 48 then g k else h.1 b k) = if b = 48 then g k else if b = h.2.2.1 then f k else h.1 b k
  by_cases z : b = 48
  · rw [if_neg (by omega), if_pos z, if_pos z]
  · rw [if_neg z, if_neg z]
theorem psi_mkO {c : Nat} : ax_mkO (psi g L h) c = (ax_mkO h c).map (psi g L) := by
  unfold ax_mkO
  show (if 64 ≤ h.2.2.1 ∧ c < 12 ∧ (h.2.2.1 < 168 → ax_styL.getD (h.2.2.1 - 64) (99, 0) = (c, ax_nf c)) then _ else _) = _
  by_cases z : 64 ≤ h.2.2.1 ∧ c < 12 ∧ (h.2.2.1 < 168 → ax_styL.getD (h.2.2.1 - 64) (99, 0) = (c, ax_nf c))
  · rw [if_pos z, if_pos z, psi_mk z.1]
    rfl
  · rw [if_neg z, if_neg z]
    rfl
theorem psi_mkA {c n : Nat} {v : Value} : ax_mkA (psi g L h) c n v = (ax_mkA h c n v).map (psi g L) := by
  unfold ax_mkA
  show (if 64 ≤ h.2.2.1 ∧ n < 19900 ∧ (h.2.2.1 < 168 → ax_styL.getD (h.2.2.1 - 64) (99, 0) = (c, n)) ∧ (¬ h.2.2.1 < 168 → c = 20 ∨ c = 24) then _ else _) = _
  by_cases z : 64 ≤ h.2.2.1 ∧ n < 19900 ∧ (h.2.2.1 < 168 → ax_styL.getD (h.2.2.1 - 64) (99, 0) = (c, n)) ∧ (¬ h.2.2.1 < 168 → c = 20 ∨ c = 24)
  · rw [if_pos z, if_pos z, psi_mk z.1]
    rfl
  · rw [if_neg z, if_neg z]
    rfl
theorem psi_mkC {a n : Nat} (ha : a ≠ 48) : ax_mkC (psi g L h) a n = (ax_mkC h a n).map (psi g L) := by
  unfold ax_mkC
  show (if 168 ≤ h.2.2.1 ∧ n < 19900 then _ else _) = _
  by_cases z : 168 ≤ h.2.2.1 ∧ n < 19900
  · have e : (fun j => Value.int (toI ((psi g L h).1 a j))) = fun j => Value.int (toI (h.1 a j)) := funext fun j => congrArg (fun v => Value.int (toI v)) (if_neg ha)
    rw [if_pos z, if_pos z, psi_mk (by omega), e]
    rfl
  · rw [if_neg z, if_neg z]
    rfl
theorem psi_mkM {n w : Nat} : ax_mkM (psi g L h) n w = (ax_mkM h n w).map (psi g L) := by
  unfold ax_mkM
  show (if 64 ≤ h.2.2.1 ∧ h.2.2.1 + n < 168 ∧ n ≤ 100 ∧ w ≤ 20000 ∧ ax_styL.getD (h.2.2.1 - 64) (99, 0) = (24, n) ∧ (List.range n).all (fun i => decide (ax_styL.getD (h.2.2.1 + 1 + i - 64) (99, 0) = (20, w))) = true then _ else _) = _
  by_cases z : 64 ≤ h.2.2.1 ∧ h.2.2.1 + n < 168 ∧ n ≤ 100 ∧ w ≤ 20000 ∧ ax_styL.getD (h.2.2.1 - 64) (99, 0) = (24, n) ∧ (List.range n).all (fun i => decide (ax_styL.getD (h.2.2.1 + 1 + i - 64) (99, 0) = (20, w))) = true
  · rw [if_pos z, if_pos z]
    refine congrArg some (Prod.ext (funext fun b => funext fun k => ?_) rfl)
    show (if b = h.2.2.1 then Value.ref (h.2.2.1 + 1 + k) else if h.2.2.1 < b ∧ b < h.2.2.1 + 1 + n then .int 0 else if b = 48 then g k else h.1 b k) = if b = 48 then g k else if b = h.2.2.1 then Value.ref (h.2.2.1 + 1 + k) else if h.2.2.1 < b ∧ b < h.2.2.1 + 1 + n then .int 0 else h.1 b k
    have := z.1
    by_cases y : b = 48
    · rw [if_neg (by omega), if_neg (by omega), if_pos y, if_pos y]
    · rw [if_neg y, if_neg y]
  · rw [if_neg z, if_neg z]
    rfl
theorem ok_psi {a : Nat} : ax_ok ph (psi g L h) a = ax_ok ph h a := rfl
theorem n48 {a : Nat} {r : List Value} (z : (Value.ref a :: r).all no48 = true) : a ≠ 48 := by
  simp only [List.all_cons, Bool.and_eq_true] at z
  exact of_decide_eq_true z.1
theorem t48 {v : Value} {r : List Value} (z : (v :: r).all no48 = true) : r.all no48 = true := by
  simp only [List.all_cons, Bool.and_eq_true] at z
  exact z.2
theorem psi_step {i : Instr} (hg : st.all no48 = true) : ax_step ph m i pc ls st (psi g L h) = (ax_step ph m i pc ls st h).map (psq g L) := by
  have mp : ∀ {α : Type} (x : Option α) (f : α → AX) (f' : α → AX), (∀ v, f' v = psq g L (f v)) → x.map f' = (x.map f).map (psq g L) := by
    intro α x f f' e
    cases x with
    | none => rfl
    | some v => exact congrArg some (e v)
  have mi : ∀ {c : Prop} [Decidable c] (x x' : Option AX), x' = x.map (psq g L) → (if c then x' else none) = (if c then x else none).map (psq g L) := by
    intro c _ x x' e
    by_cases z : c
    · rw [if_pos z, if_pos z, e]
    · rw [if_neg z, if_neg z]; rfl
  cases i
  case getfield k =>
    simp only [ax_step]
    split
    · rename_i a r
      have a48 := n48 hg
      rw [psi_ty a48]
      split
      · exact mi _ _ (by rw [psi_rd a48]; rfl)
      · rfl
    · rfl
  case putfield k =>
    simp only [ax_step]
    split
    · rename_i v a r
      have a48 := n48 (t48 hg)
      rw [psi_ty a48]
      split
      · exact mi _ _ (by rw [psi_wr a48]; rfl)
      · rfl
    · rfl
  case arraylength =>
    simp only [ax_step]
    split
    · rename_i a r
      have a48 := n48 hg
      rw [psi_ty a48]
      exact mi _ _ rfl
    · rfl
  case iaload =>
    simp only [ax_step]
    split
    · rename_i j a r
      have a48 := n48 (t48 hg)
      rw [psi_ty a48]
      exact mi _ _ (by rw [psi_rd a48]; rfl)
    · rfl
  case baload =>
    simp only [ax_step]
    split
    · rename_i j a r
      have a48 := n48 (t48 hg)
      rw [psi_ty a48]
      exact mi _ _ (by rw [psi_rd a48]; rfl)
    · rfl
  case laload =>
    simp only [ax_step]
    split
    · rename_i j a r
      have a48 := n48 (t48 hg)
      rw [psi_ty a48]
      exact mi _ _ (by rw [psi_rd a48]; rfl)
    · rfl
  case aaload =>
    simp only [ax_step]
    split
    · rename_i j a r
      have a48 := n48 (t48 hg)
      rw [psi_ty a48]
      exact mi _ _ (by rw [psi_rd a48]; rfl)
    · rfl
  case iastore =>
    simp only [ax_step]
    split
    · rename_i x j a r
      have a48 := n48 (t48 (t48 hg))
      rw [psi_ty a48]
      exact mi _ _ (by rw [psi_wr a48]; rfl)
    · rfl
  case lastore =>
    simp only [ax_step]
    split
    · rename_i x j a r
      have a48 := n48 (t48 (t48 hg))
      rw [psi_ty a48]
      exact mi _ _ (by rw [psi_wr a48]; rfl)
    · rfl
  case aastore =>
    simp only [ax_step]
    split
    · rename_i j a r
      have a48 := n48 (t48 (t48 hg))
      rw [psi_ty a48]
      exact mi _ _ (by rw [psi_wr a48]; rfl)
    · rename_i v j a r
      have a48 := n48 (t48 (t48 hg))
      rw [psi_ty a48, psi_ty (n48 hg)]
      exact mi _ _ (by rw [psi_wr a48]; rfl)
    · rfl
  case checkcast k =>
    simp only [ax_step]
    split
    · rename_i a r
      have a48 := n48 hg
      rw [psi_ty a48]
      exact mi _ _ rfl
    · rfl
  case invokevirtual k =>
    simp only [ax_step]
    split
    · split
      · rename_i a r
        have a48 := n48 hg
        rw [psi_ty a48, psi_mkC a48, Option.map_map]
        exact mi _ _ (mp _ _ _ (fun _ => rfl))
      · rfl
    · rfl
  case dconst k =>
    simp only [ax_step]
    exact mi _ _ rfl
  case new k =>
    simp only [ax_step]
    split
    · rw [psi_mkO, Option.map_map]
      exact mp _ _ _ (fun _ => rfl)
    · rfl
  case newarray t =>
    simp only [ax_step]
    split
    · split
      · rfl
      · split
        · rw [psi_mkA, Option.map_map]
          exact mp _ _ _ (fun _ => rfl)
        · rw [psi_mkA, Option.map_map]
          exact mp _ _ _ (fun _ => rfl)
        · rfl
    · rfl
  case anewarray k =>
    simp only [ax_step]
    split
    · split
      · rfl
      · split
        · rw [psi_mkA, Option.map_map]
          exact mp _ _ _ (fun _ => rfl)
        · rfl
    · rfl
  case multianewarray k d =>
    simp only [ax_step]
    split
    · split
      · rfl
      · rw [psi_mkM, Option.map_map]
        exact mp _ _ _ (fun _ => rfl)
    · rfl
  all_goals (simp only [ax_step])
  all_goals first
    | rfl
    | exact mp _ _ _ (fun _ => rfl)
    | (split <;> first
        | rfl
        | exact mp _ _ _ (fun _ => rfl)
        | exact mi _ _ rfl
        | exact mi _ _ (mp _ _ _ (fun _ => rfl))
        | (split <;> first
            | rfl
            | exact mp _ _ _ (fun _ => rfl)
            | (split <;> first | rfl | exact mp _ _ _ (fun _ => rfl))))
end S98d
