/-! REPLIES: all plans of a player in order, the first that is best -/
/-- the next choices, those of the last set change first; whether there were any -/
def v_nxt (b : Nat → Nat) : Nat → (Nat → Nat) → (Nat → Nat) × Bool
  | 0, tr => (tr, false)
  | m + 1, tr => if tr m + 1 < b m then (updN tr m (tr m + 1), true) else v_nxt b m (updN tr m 0)
def v_rk (b : Nat → Nat) : Nat → (Nat → Nat) → Nat
  | 0, _ => 0
  | m + 1, tr => v_rk b m tr * b m + tr m
def v_pr (b : Nat → Nat) : Nat → Nat
  | 0 => 1
  | m + 1 => v_pr b m * b m
theorem v_rk_congr (b : Nat → Nat) : ∀ m tr tr', (∀ t, t < m → tr t = tr' t) → v_rk b m tr = v_rk b m tr'
  | 0, _, _, _ => rfl
  | m + 1, tr, tr', h => by
    show v_rk b m tr * b m + tr m = v_rk b m tr' * b m + tr' m
    rw [v_rk_congr b m tr tr' (fun t ht => h t (by omega)), h m (by omega)]
theorem v_rk_lt (b : Nat → Nat) : ∀ m tr, (∀ t, t < m → tr t < b t) → v_rk b m tr < v_pr b m
  | 0, _, _ => Nat.one_pos
  | m + 1, tr, h => by
    have ih := v_rk_lt b m tr (fun t ht => h t (by omega))
    have h1 := h m (by omega)
    show v_rk b m tr * b m + tr m < v_pr b m * b m
    have h2 : (v_rk b m tr + 1) * b m ≤ v_pr b m * b m := Nat.mul_le_mul_right _ ih
    rw [Nat.succ_mul] at h2
    omega
/-- what stands behind them stays as it is -/
theorem v_nxt_hi (b : Nat → Nat) : ∀ m tr t, m ≤ t → (v_nxt b m tr).1 t = tr t
  | 0, _, _, _ => rfl
  | m + 1, tr, t, h => by
    unfold v_nxt
    by_cases q : tr m + 1 < b m
    · rw [if_pos q]
      exact updN_o (by omega)
    · rw [if_neg q, v_nxt_hi b m _ t (by omega)]
      exact updN_o (by omega)
theorem v_nxt_lt (b : Nat → Nat) : ∀ m tr, (∀ t, t < m → tr t < b t) → ∀ t, t < m → (v_nxt b m tr).1 t < b t
  | 0, _, _, t, h => absurd h (Nat.not_lt_zero _)
  | m + 1, tr, hv, t, h => by
    unfold v_nxt
    by_cases q : tr m + 1 < b m
    · rw [if_pos q]
      by_cases e : t = m
      · rw [e]; show updN tr m (tr m + 1) m < _; rw [updN_s]; exact q
      · show updN tr m (tr m + 1) t < _; rw [updN_o e]; exact hv t h
    · rw [if_neg q]
      by_cases e : t = m
      · rw [e, v_nxt_hi b m _ m (Nat.le_refl _), updN_s]
        have := hv m (by omega)
        omega
      · exact v_nxt_lt b m _ (fun t ht => by rw [updN_o (by omega)]; exact hv t (by omega)) t (by omega)
theorem v_nxt_rk (b : Nat → Nat) : ∀ m tr, (∀ t, t < m → tr t < b t) → ((v_nxt b m tr).2 = true → v_rk b m (v_nxt b m tr).1 = v_rk b m tr + 1) ∧ ((v_nxt b m tr).2 = false → v_rk b m tr + 1 = v_pr b m ∧ ∀ t, t < m → (v_nxt b m tr).1 t = 0)
  | 0, _, _ => ⟨fun h => (by cases h), fun _ => ⟨rfl, fun t h => absurd h (Nat.not_lt_zero _)⟩⟩
  | m + 1, tr, hv => by
    have hm := hv m (by omega)
    unfold v_nxt
    by_cases q : tr m + 1 < b m
    · rw [if_pos q]
      refine ⟨fun _ => ?_, fun h => by cases h⟩
      show v_rk b m (updN tr m (tr m + 1)) * b m + updN tr m (tr m + 1) m = v_rk b m tr * b m + tr m + 1
      rw [updN_s, v_rk_congr b m (updN tr m (tr m + 1)) tr (fun t ht => updN_o (by omega))]
      omega
    · rw [if_neg q]
      have ih := v_nxt_rk b m (updN tr m 0) (fun t ht => by rw [updN_o (by omega)]; exact hv t (by omega))
      have ec : v_rk b m (updN tr m 0) = v_rk b m tr := v_rk_congr b m _ _ (fun t ht => updN_o (by omega))
      rw [ec] at ih
      have hh : (v_nxt b m (updN tr m 0)).1 m = 0 := by rw [v_nxt_hi b m _ m (Nat.le_refl _), updN_s]
      refine ⟨fun h => ?_, fun h => ⟨?_, fun t ht => ?_⟩⟩
      · show v_rk b m (v_nxt b m (updN tr m 0)).1 * b m + (v_nxt b m (updN tr m 0)).1 m = v_rk b m tr * b m + tr m + 1
        rw [hh, ih.1 h, Nat.succ_mul]
        omega
      · show v_rk b m tr * b m + tr m + 1 = v_pr b m * b m
        rw [← (ih.2 h).1, Nat.succ_mul]
        omega
      · by_cases e : t = m
        · rw [e]; exact hh
        · exact (ih.2 h).2 t (by omega)
/-- the best of all from these on: the sum, the choices -/
def v_go (S : (Nat → Nat) → Int) (b : Nat → Nat) (M : Nat) : Nat → (Nat → Nat) → Int → (Nat → Nat) → Int × (Nat → Nat)
  | 0, _, x, bt => (x, bt)
  | f + 1, tr, x, bt => if (v_nxt b M tr).2 = true then (if x < S (v_nxt b M tr).1 then v_go S b M f (v_nxt b M tr).1 (S (v_nxt b M tr).1) (v_nxt b M tr).1 else v_go S b M f (v_nxt b M tr).1 x bt) else (x, bt)
/-- the first try is best till another is better -/
def v_bst (S : (Nat → Nat) → Int) (b : Nat → Nat) (M : Nat) : Int × (Nat → Nat) := v_go S b M 800 (fun _ => 0) (S fun _ => 0) (fun _ => 0)
/-- which set a view at a stage is -/
noncomputable def v_ix (c n : Nat) (K P B : Nat → Nat) (p j v : Nat) : Nat := v_at (fun t => decide (v_sJ c n K P B p t = j ∧ v_sV c n K P B p t = v)) (v_sM c n K P B p) 0
theorem v_ix_is {c n : Nat} {K P B : Nat → Nat} (s : okS c n K P B) {p j w : Nat} (hj : j < n) (q : picks K P p j) (hw : w < v_ways c K B j) : v_ix c n K P B p j (v_vw c K P B p j w) < v_sM c n K P B p ∧ v_sJ c n K P B p (v_ix c n K P B p j (v_vw c K P B p j w)) = j ∧ v_sV c n K P B p (v_ix c n K P B p j (v_vw c K P B p j w)) = v_vw c K P B p j w := by
  obtain ⟨t, ht, e1, e2⟩ := v_set_ex s hj q hw
  have lt : v_ix c n K P B p j (v_vw c K P B p j w) < v_sM c n K P B p := by
    rcases Nat.lt_or_ge (v_ix c n K P B p j (v_vw c K P B p j w)) (v_sM c n K P B p) with z | z
    · exact z
    · have := v_at_not (fun t => decide (v_sJ c n K P B p t = j ∧ v_sV c n K P B p t = v_vw c K P B p j w)) (v_sM c n K P B p) 0 t (Nat.zero_le _) (Nat.lt_of_lt_of_le ht z)
      simp only [decide_eq_false_iff_not] at this
      exact absurd ⟨e1, e2⟩ this
  have := v_at_is (fun t => decide (v_sJ c n K P B p t = j ∧ v_sV c n K P B p t = v_vw c K P B p j w)) (v_sM c n K P B p) 0 (by rw [Nat.zero_add]; exact lt)
  simp only [decide_eq_true_eq] at this
  exact ⟨lt, this⟩
/-- a way's beginning -/
theorem v_what_fst (c : Nat) (K B : Nat → Nat) (j w : Nat) {i a : Nat} (hi : i ≤ j) (ha : a < i) : v_what c K B i (v_pre c K B j w i) a = v_what c K B j w a := by
  rw [v_what_pre c K B i _ a ha, v_what_pre c K B j w a (by omega)]
  have := v_pre_pre c K B j w (i - (a + 1)) (a + 1) (by omega)
  rw [show a + 1 + (i - (a + 1)) = i by omega] at this
  rw [this]
theorem v_view_congr (K P : Nat → Nat) (p j : Nat) {e e' : Nat → Nat} : ∀ i, (∀ a, a < i → e a = e' a) → v_view K P p j e i = v_view K P p j e' i
  | 0, _ => rfl
  | i + 1, h => by
    show 8 * v_view K P p j e i + (if (v_seen K P i j).testBit p = true then e i + 1 else 0) = 8 * v_view K P p j e' i + (if (v_seen K P i j).testBit p = true then e' i + 1 else 0)
    rw [v_view_congr K P p j i (fun a ha => h a (by omega)), h i (by omega)]
theorem v_pv_vw (c : Nat) (K P B : Nat → Nat) (p j w : Nat) {i : Nat} (hi : i ≤ j) : v_pv c K P B p j w i = v_vw c K P B p i (v_pre c K B j w i) := v_view_congr K P p i i (fun _ ha => (v_what_fst c K B j w hi ha).symm)
/-- the set that a player comes to at a stage of a way -/
noncomputable abbrev v_wix (c n : Nat) (K P B : Nat → Nat) (p w i : Nat) : Nat := v_ix c n K P B p i (v_pv c K P B p n w i)
theorem v_wix_is {c n : Nat} {K P B : Nat → Nat} (s : okS c n K P B) {p i w : Nat} (hi : i < n) (q : picks K P p i) (hw : w < v_ways c K B n) : v_wix c n K P B p w i < v_sM c n K P B p ∧ v_sJ c n K P B p (v_wix c n K P B p w i) = i ∧ v_sV c n K P B p (v_wix c n K P B p w i) = v_pv c K P B p n w i := by
  show v_ix c n K P B p i (v_pv c K P B p n w i) < _ ∧ v_sJ c n K P B p (v_ix c n K P B p i (v_pv c K P B p n w i)) = i ∧ v_sV c n K P B p (v_ix c n K P B p i (v_pv c K P B p n w i)) = _
  rw [v_pv_vw c K P B p n w (Nat.le_of_lt hi)]
  exact v_ix_is s hi q (v_pre_lt s (Nat.le_refl _) hw (n - i) i (by omega))
/-- whether a way goes by the choices -/
noncomputable def v_mt (c n : Nat) (K P B : Nat → Nat) (p w : Nat) (tr : Nat → Nat) : Nat → Bool
  | 0 => true
  | i + 1 => v_mt c n K P B p w tr i && (decide (¬ picks K P p i) || decide (tr (v_wix c n K P B p w i) = v_what c K B n w i))
noncomputable def v_trf (c n : Nat) (K P B : Nat → Nat) (ch : Nat → Nat → Nat → Nat) (U : Nat → Nat → Nat) (V W : Nat → Int) (nr p : Nat) (tr : Nat → Nat) (w : Nat) : Int := if v_pl K P ch p (v_what c K B n w) n = true then (if v_mt c n K P B p w tr n = true then v_pay U V W c n (v_what c K B n w) p nr else 0) else 0
/-- what the choices make a player win together: of the ways that go by the others' plans -/
noncomputable def v_trS (c n : Nat) (K P B : Nat → Nat) (ch : Nat → Nat → Nat → Nat) (U : Nat → Nat → Nat) (V W : Nat → Int) (nr p : Nat) (tr : Nat → Nat) : Int := sumZ (v_trf c n K P B ch U V W nr p tr) (v_ways c K B n)
/-- the best reply -/
noncomputable abbrev v_rep (c n : Nat) (K P B : Nat → Nat) (ch : Nat → Nat → Nat → Nat) (U : Nat → Nat → Nat) (V W : Nat → Int) (nr p : Nat) : Int × (Nat → Nat) := v_bst (v_trS c n K P B ch U V W nr p) (fun t => B (v_sJ c n K P B p t)) (v_sM c n K P B p)
theorem sumZ_congr {f g : Nat → Int} : ∀ m, (∀ i, i < m → f i = g i) → sumZ f m = sumZ g m
  | 0, _ => rfl
  | m + 1, h => by
    show sumZ f m + f m = sumZ g m + g m
    rw [sumZ_congr m (fun i hi => h i (by omega)), h m (by omega)]
theorem sumZ_bd {f : Nat → Int} {b : Nat} : ∀ m : Nat, (∀ i, i < m → -(b : Int) ≤ f i ∧ f i ≤ b) → -((b * m : Nat) : Int) ≤ sumZ f m ∧ sumZ f m ≤ ((b * m : Nat) : Int)
  | 0, _ => by show -((b * 0 : Nat) : Int) ≤ 0 ∧ 0 ≤ ((b * 0 : Nat) : Int); omega
  | m + 1, hf => by
    have ih := sumZ_bd (f := f) m (fun i hi => hf i (by omega))
    have h1 := hf m (by omega)
    show _ ≤ sumZ f m + f m ∧ sumZ f m + f m ≤ _
    rw [Nat.mul_succ]
    omega
theorem v_trS_le {c n nr : Nat} {K P B : Nat → Nat} {U : Nat → Nat → Nat} {V W : Nat → Int} (s : okS c n K P B) (r : okR nr U V) (w : ∀ i, i < 5 → -9 ≤ W i ∧ W i ≤ 9) (ch : Nat → Nat → Nat → Nat) (p : Nat) (tr : Nat → Nat) : -30000000 ≤ v_trS c n K P B ch U V W nr p tr ∧ v_trS c n K P B ch U V W nr p tr ≤ 30000000 := by
  have wl := v_ways_le s (Nat.le_refl n)
  have h1 := sumZ_bd (b := 14256) (f := v_trf c n K P B ch U V W nr p tr) (v_ways c K B n) (fun i _ => by
    have h1 := v_pay_le (n := n) (c := c) (e := v_what c K B n i) r w (fun a ha => v_what_lt s (Nat.le_refl _) i ha) s.2.1 p nr (Nat.le_refl _)
    have h8 := r.1
    unfold v_trf
    split
    · split <;> omega
    · omega)
  unfold v_trS
  omega
