/-! PURE: views tell what is seen; ways differ; worlds part all ways; sets in order -/
theorem view_eq {K P : Nat → Nat} {p j : Nat} {e e' : Nat → Nat} : ∀ i, (∀ a, a < i → e a < 5) → (∀ a, a < i → e' a < 5) → (v_view K P p j e i = v_view K P p j e' i ↔ ∀ a, a < i → (v_seen K P a j).testBit p = true → e a = e' a)
  | 0, _, _ => ⟨fun _ a h => absurd h (Nat.not_lt_zero _), fun _ => rfl⟩
  | i + 1, h1, h2 => by
    have ih := view_eq (K := K) (P := P) (p := p) (j := j) (e := e) (e' := e') i (fun a ha => h1 a (by omega)) (fun a ha => h2 a (by omega))
    have x1 := h1 i (by omega)
    have x2 := h2 i (by omega)
    show 8 * v_view K P p j e i + (if (v_seen K P i j).testBit p = true then e i + 1 else 0) = 8 * v_view K P p j e' i + (if (v_seen K P i j).testBit p = true then e' i + 1 else 0) ↔ _
    by_cases q : (v_seen K P i j).testBit p = true
    · rw [if_pos q, if_pos q]
      constructor
      · intro h a ha hs
        by_cases z : a = i
        · rw [z]; omega
        · exact ih.mp (by omega) a (by omega) hs
      · intro h
        rw [ih.mpr (fun a ha => h a (by omega)), h i (by omega) q]
    · rw [if_neg q, if_neg q]
      constructor
      · intro h a ha hs
        by_cases z : a = i
        · rw [z] at hs; exact absurd hs q
        · exact ih.mp (by omega) a (by omega) hs
      · intro h
        rw [ih.mpr (fun a ha => h a (by omega))]
theorem sel_inj : ∀ g, g < 32 → ∀ d, d < 5 → ∀ d', d' < 5 → v_sel g 10 0 d = v_sel g 10 0 d' → d = d' := by decide +kernel
theorem evt_inj {c n : Nat} {K P B : Nat → Nat} (s : okS c n K P B) {i : Nat} (hi : i < n) {w w' : Nat} (e : w / v_opt c K B i = w' / v_opt c K B i) (h : v_evt c K B i w = v_evt c K B i w') : w = w' := by
  have o := v_opt_pos s hi
  have l1 := Nat.mod_lt w (y := v_opt c K B i) (by omega)
  have l2 := Nat.mod_lt w' (y := v_opt c K B i) (by omega)
  have d1 := Nat.div_add_mod w (v_opt c K B i)
  have d2 := Nat.div_add_mod w' (v_opt c K B i)
  have m : w % v_opt c K B i = w' % v_opt c K B i := by
    unfold v_evt at h
    by_cases q : isCd (K i)
    · rw [if_pos q, if_pos q, e] at h
      have g := (v_gone_ok s i (w' / v_opt c K B i) (by omega)).1
      have g2 : 2 ^ c ≤ 2 ^ 5 := Nat.pow_le_pow_right (by decide) s.2.1
      exact sel_inj _ (by omega) _ (by omega) _ (by omega) h
    · rw [if_neg q, if_neg q] at h
      exact h
  rw [← d1, ← d2, e, m]
theorem ways_div {c n : Nat} {K P B : Nat → Nat} (s : okS c n K P B) {j : Nat} (hj : j < n) {w : Nat} (hw : w < v_ways c K B (j + 1)) : w / v_opt c K B j < v_ways c K B j := by
  have o := v_opt_pos s hj
  exact Nat.div_lt_of_lt_mul (by rw [Nat.mul_comm]; exact hw)
theorem what_inj {c n : Nat} {K P B : Nat → Nat} (s : okS c n K P B) : ∀ j, j ≤ n → ∀ w w', w < v_ways c K B j → w' < v_ways c K B j → (∀ i, i < j → v_what c K B j w i = v_what c K B j w' i) → w = w'
  | 0, _, w, w', h1, h2, _ => by
    have e1 : w < 1 := h1
    have e2 : w' < 1 := h2
    omega
  | j + 1, hj, w, w', h1, h2, h => by
    have e : w / v_opt c K B j = w' / v_opt c K B j := by
      refine what_inj s j (by omega) _ _ (ways_div s (by omega) h1) (ways_div s (by omega) h2) (fun i hi => ?_)
      have := h i (by omega)
      have a : ∀ x, v_what c K B (j + 1) x i = v_what c K B j (x / v_opt c K B j) i := fun x => if_neg (by omega)
      rw [a, a] at this
      exact this
    have q := h j (by omega)
    have a : ∀ x, v_what c K B (j + 1) x j = v_evt c K B j x := fun x => if_pos rfl
    rw [a, a] at q
    exact evt_inj s (by omega) e q
theorem cntN_one {q : Nat → Bool} : ∀ {N w0 : Nat}, w0 < N → (∀ w, w < N → (q w = true ↔ w = w0)) → cntN q N = 1
  | 0, _, h, _ => absurd h (Nat.not_lt_zero _)
  | N + 1, w0, h, hq => by
    show cntN q N + (if q N = true then 1 else 0) = 1
    by_cases z : N = w0
    · rw [if_pos ((hq N (by omega)).mpr z)]
      have : ∀ m, m ≤ N → cntN q m = 0 := by
        intro m
        induction m with
        | zero => intro _; rfl
        | succ m ih =>
          intro hm
          show cntN q m + (if q m = true then 1 else 0) = 0
          rw [ih (by omega), if_neg (fun y => by have := (hq m (by omega)).mp y; omega)]
      rw [this N (Nat.le_refl _)]
    · rw [if_neg (fun y => z ((hq N (by omega)).mp y)), cntN_one (q := q) (w0 := w0) (by omega) (fun w hw => hq w (by omega))]
def sumN (f : Nat → Nat) : Nat → Nat
  | 0 => 0
  | m + 1 => sumN f m + f m
theorem sumN_congr {f g : Nat → Nat} : ∀ m, (∀ i, i < m → f i = g i) → sumN f m = sumN g m
  | 0, _ => rfl
  | m + 1, h => by
    show sumN f m + f m = sumN g m + g m
    rw [sumN_congr m (fun i hi => h i (by omega)), h m (by omega)]
theorem sumN_add (f g : Nat → Nat) : ∀ m, sumN (fun i => f i + g i) m = sumN f m + sumN g m
  | 0 => rfl
  | m + 1 => by
    show sumN (fun i => f i + g i) m + (f m + g m) = (sumN f m + f m) + (sumN g m + g m)
    rw [sumN_add f g m]; omega
theorem sumN_cnt (a : Bool) (r : Nat → Bool) : ∀ N, sumN (fun u => if (a && r u) = true then 1 else 0) N = if a = true then cntN r N else 0
  | 0 => by cases a <;> rfl
  | N + 1 => by
    show sumN (fun u => if (a && r u) = true then 1 else 0) N + (if (a && r N) = true then 1 else 0) = _
    rw [sumN_cnt a r N]
    cases a
    · simp
    · simp [cntN]
theorem sumN_swap (a : Nat → Bool) (r : Nat → Nat → Bool) (N : Nat) : ∀ M, sumN (fun w => if a w = true then cntN (r w) N else 0) M = sumN (fun u => cntN (fun w => a w && r w u) M) N
  | 0 => by
    show 0 = sumN (fun u => 0) N
    have : ∀ N, sumN (fun _ => 0) N = 0 := by
      intro N
      induction N with
      | zero => rfl
      | succ N ih => show sumN (fun _ => 0) N + 0 = 0; rw [ih]
    exact (this N).symm
  | M + 1 => by
    show sumN (fun w => if a w = true then cntN (r w) N else 0) M + (if a M = true then cntN (r M) N else 0) = sumN (fun u => cntN (fun w => a w && r w u) M + (if (a M && r M u) = true then 1 else 0)) N
    rw [sumN_swap a r N M, sumN_add, sumN_cnt]
theorem sumN_one : ∀ N, sumN (fun _ => 1) N = N
  | 0 => rfl
  | N + 1 => by show sumN (fun _ => 1) N + 1 = N + 1; rw [sumN_one N]
/-- the first of those alike -/
theorem nth_0 {q : Nat → Bool} {N w : Nat} (hw : w < N) : v_nth q N 0 = w ↔ (q w = true ∧ ∀ u, u < w → q u = false) := by
  unfold v_nth
  have z0 : ∀ m, (∀ u, u < m → q u = false) → cntN q m = 0 := by
    intro m
    induction m with
    | zero => intro _; rfl
    | succ m ih =>
      intro h
      show cntN q m + (if q m = true then 1 else 0) = 0
      rw [ih (fun u hu => h u (by omega)), h m (by omega)]
      rfl
  constructor
  · intro h
    have a := v_at_is (fun w => q w && decide (cntN q w = 0)) N 0 (by rw [h]; omega)
    rw [h] at a
    simp only [Bool.and_eq_true, decide_eq_true_eq] at a
    refine ⟨a.1, fun u hu => ?_⟩
    cases hq : q u with
    | false => rfl
    | true => exact absurd a.2 (cntN_pos hu hq)
  · rintro ⟨h1, h2⟩
    exact v_at_eq (Nat.zero_le _) (by omega) (by simp [h1, z0 w h2]) (fun i _ hi => by simp [h2 i hi])
/-- the sizes of all that are alike, each once, are all -/
theorem parts_all (F : Nat → Nat) (N : Nat) : sumN (fun w => if decide (v_nth (fun u => decide (F u = F w)) N 0 = w) = true then cntN (fun u => decide (F u = F w)) N else 0) N = N := by
  rw [sumN_swap (fun w => decide (v_nth (fun u => decide (F u = F w)) N 0 = w)) (fun w u => decide (F u = F w)) N N]
  refine Eq.trans (sumN_congr N (fun u hu => ?_)) (sumN_one N)
  -- the first that is as u
  have ex : ∃ w0, w0 < N ∧ F w0 = F u ∧ ∀ i, i < w0 → F i ≠ F u := by
    have lt : v_at (fun i => decide (F i = F u)) N 0 < N := by
      rcases Nat.lt_or_ge (v_at (fun i => decide (F i = F u)) N 0) N with z | z
      · exact z
      · have := v_at_not (fun i => decide (F i = F u)) N 0 u (Nat.zero_le _) (by omega)
        simp at this
    refine ⟨_, lt, ?_, fun i hi => ?_⟩
    · have := v_at_is (fun i => decide (F i = F u)) N 0 (by omega)
      simpa using this
    · have := v_at_not (fun i => decide (F i = F u)) N 0 i (Nat.zero_le _) hi
      simpa using this
  obtain ⟨w0, l0, e0, m0⟩ := ex
  refine cntN_one l0 (fun w hw => ?_)
  simp only [Bool.and_eq_true, decide_eq_true_eq]
  rw [nth_0 hw]
  constructor
  · rintro ⟨⟨-, h2⟩, h3⟩
    have h2' : ∀ x, x < w → F x ≠ F w := fun x hx => by have := h2 x hx; simpa using this
    rcases Nat.lt_trichotomy w w0 with z | z | z
    · exact absurd h3.symm (m0 w z)
    · exact z
    · exact absurd (e0.trans h3) (h2' w0 z)
  · intro e
    subst e
    refine ⟨⟨by simp, fun x hx => ?_⟩, e0.symm⟩
    have := m0 x hx
    simpa [e0] using this
/-- of all, those with each number -/
theorem cnt_five (a : Nat → Bool) (e : Nat → Nat) : ∀ N, (∀ w, w < N → e w < 5) → cntN (fun w => a w && decide (e w = 0)) N + cntN (fun w => a w && decide (e w = 1)) N + cntN (fun w => a w && decide (e w = 2)) N + cntN (fun w => a w && decide (e w = 3)) N + cntN (fun w => a w && decide (e w = 4)) N = cntN a N
  | 0, _ => rfl
  | N + 1, h => by
    have ih := cnt_five a e N (fun w hw => h w (by omega))
    have hN := h N (by omega)
    show (cntN (fun w => a w && decide (e w = 0)) N + (if (a N && decide (e N = 0)) = true then 1 else 0)) + (cntN (fun w => a w && decide (e w = 1)) N + (if (a N && decide (e N = 1)) = true then 1 else 0)) + (cntN (fun w => a w && decide (e w = 2)) N + (if (a N && decide (e N = 2)) = true then 1 else 0)) + (cntN (fun w => a w && decide (e w = 3)) N + (if (a N && decide (e N = 3)) = true then 1 else 0)) + (cntN (fun w => a w && decide (e w = 4)) N + (if (a N && decide (e N = 4)) = true then 1 else 0)) = cntN a N + (if a N = true then 1 else 0)
    have k : e N = 0 ∨ e N = 1 ∨ e N = 2 ∨ e N = 3 ∨ e N = 4 := by omega
    cases a N <;> rcases k with x | x | x | x | x <;> rw [x] <;> simp <;> omega
section S81
variable {c n : Nat} {K P B : Nat → Nat}
/-- sets are in order, by stage, then by view -/
theorem sets_order (s : okS c n K P B) {p t : Nat} (h : t + 1 < v_sM c n K P B p) : v_sJ c n K P B p t ≤ v_sJ c n K P B p (t + 1) ∧ (v_sJ c n K P B p t = v_sJ c n K P B p (t + 1) → v_sV c n K P B p t < v_sV c n K P B p (t + 1)) := by
  have e := (v_sets_ok s p).2.1 t (t + 1) (by omega) h
  show (v_sets c n K P B p).2 t / 524288 ≤ (v_sets c n K P B p).2 (t + 1) / 524288 ∧ ((v_sets c n K P B p).2 t / 524288 = (v_sets c n K P B p).2 (t + 1) / 524288 → (v_sets c n K P B p).2 t % 524288 < (v_sets c n K P B p).2 (t + 1) % 524288)
  omega
end S81
