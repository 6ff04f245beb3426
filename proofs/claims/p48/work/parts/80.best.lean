/-! PURE: a reply is the best of all plans -/
theorem rk_div {a b c x y : Nat} (hx : x < c) (hy : y < c) (h : a * c + x = b * c + y) : a = b ∧ x = y := by
  have h1 : (a * c + x) / c = (b * c + y) / c := by rw [h]
  have hc : 0 < c := by omega
  rw [Nat.mul_comm a c, Nat.mul_comm b c, Nat.mul_add_div hc, Nat.mul_add_div hc, Nat.div_eq_of_lt hx, Nat.div_eq_of_lt hy] at h1
  have : a = b := by omega
  subst this
  exact ⟨rfl, by omega⟩
theorem v_rk_inj (b : Nat → Nat) : ∀ m tr tr', (∀ t, t < m → tr t < b t) → (∀ t, t < m → tr' t < b t) → v_rk b m tr = v_rk b m tr' → ∀ t, t < m → tr t = tr' t
  | 0, _, _, _, _, _, t, h => absurd h (Nat.not_lt_zero _)
  | m + 1, tr, tr', h1, h2, e, t, h => by
    have e' : v_rk b m tr * b m + tr m = v_rk b m tr' * b m + tr' m := e
    have := rk_div (h1 m (by omega)) (h2 m (by omega)) e'
    by_cases q : t = m
    · rw [q]; exact this.2
    · exact v_rk_inj b m tr tr' (fun t ht => h1 t (by omega)) (fun t ht => h2 t (by omega)) this.1 t (by omega)
theorem v_rk_0 (b : Nat → Nat) : ∀ m, v_rk b m (fun _ => 0) = 0
  | 0 => rfl
  | m + 1 => by show v_rk b m (fun _ => 0) * b m + 0 = 0; rw [v_rk_0 b m]; omega
theorem v_go_ge {S : (Nat → Nat) → Int} {b : Nat → Nat} {M : Nat} (hS : ∀ tr tr', (∀ t, t < M → tr t = tr' t) → S tr = S tr') : ∀ f tr x bt, (∀ t, t < M → tr t < b t) → v_pr b M ≤ v_rk b M tr + 1 + f → x ≤ (v_go S b M f tr x bt).1 ∧ ∀ tr', (∀ t, t < M → tr' t < b t) → v_rk b M tr < v_rk b M tr' → S tr' ≤ (v_go S b M f tr x bt).1
  | 0, tr, x, bt, hv, hf => ⟨Int.le_refl _, fun tr' h1 h2 => by have := v_rk_lt b M tr' h1; omega⟩
  | f + 1, tr, x, bt, hv, hf => by
    have nl := v_nxt_lt b M tr hv
    have nr := v_nxt_rk b M tr hv
    unfold v_go
    by_cases q : (v_nxt b M tr).2 = true
    · rw [if_pos q]
      have e := nr.1 q
      have eqS : ∀ tr', (∀ t, t < M → tr' t < b t) → v_rk b M tr' = v_rk b M tr + 1 → S tr' = S (v_nxt b M tr).1 := fun tr' h1 h2 => hS _ _ (v_rk_inj b M _ _ h1 nl (by rw [h2, e]))
      by_cases y : x < S (v_nxt b M tr).1
      · rw [if_pos y]
        have ih := v_go_ge hS f (v_nxt b M tr).1 (S (v_nxt b M tr).1) (v_nxt b M tr).1 nl (by omega)
        refine ⟨by have := ih.1; omega, fun tr' h1 h2 => ?_⟩
        by_cases z : v_rk b M tr' = v_rk b M tr + 1
        · rw [eqS tr' h1 z]; exact ih.1
        · exact ih.2 tr' h1 (by omega)
      · rw [if_neg y]
        have ih := v_go_ge hS f (v_nxt b M tr).1 x bt nl (by omega)
        refine ⟨ih.1, fun tr' h1 h2 => ?_⟩
        by_cases z : v_rk b M tr' = v_rk b M tr + 1
        · rw [eqS tr' h1 z]; have := ih.1; omega
        · exact ih.2 tr' h1 (by omega)
    · have e := (nr.2 (by simpa using q)).1
      rw [if_neg q]
      refine ⟨Int.le_refl _, fun tr' h1 h2 => ?_⟩
      have := v_rk_lt b M tr' h1
      omega
theorem v_go_at {S : (Nat → Nat) → Int} {b : Nat → Nat} {M : Nat} : ∀ f tr x bt, x = S bt → (v_go S b M f tr x bt).1 = S (v_go S b M f tr x bt).2
  | 0, _, _, _, h => h
  | f + 1, tr, x, bt, h => by
    unfold v_go
    split
    · split
      · exact v_go_at f _ _ _ rfl
      · exact v_go_at f _ _ _ h
    · exact h
theorem v_bst_at (S : (Nat → Nat) → Int) (b : Nat → Nat) (M : Nat) : (v_bst S b M).1 = S (v_bst S b M).2 := v_go_at 800 _ _ _ rfl
theorem v_bst_ge {S : (Nat → Nat) → Int} {b : Nat → Nat} {M : Nat} (hS : ∀ tr tr', (∀ t, t < M → tr t = tr' t) → S tr = S tr') (hb : ∀ t, t < M → 0 < b t) (hp : v_pr b M ≤ 729) {tr : Nat → Nat} (h : ∀ t, t < M → tr t < b t) : S tr ≤ (v_bst S b M).1 := by
  have g := v_go_ge hS 800 (fun _ => 0) (S fun _ => 0) (fun _ => 0) hb (by rw [v_rk_0]; omega)
  by_cases z : v_rk b M tr = 0
  · have e := hS tr (fun _ => 0) (v_rk_inj b M _ _ h hb (by rw [z, v_rk_0]))
    rw [e]
    exact g.1
  · exact g.2 tr h (by rw [v_rk_0]; omega)
section S80
variable {c n nr : Nat} {K P B : Nat → Nat} {U : Nat → Nat → Nat} {V W : Nat → Int}
theorem v_mt_congr (s : okS c n K P B) {p w : Nat} (hw : w < v_ways c K B n) {tr tr' : Nat → Nat} (h : ∀ t, t < v_sM c n K P B p → tr t = tr' t) : ∀ i, i ≤ n → v_mt c n K P B p w tr i = v_mt c n K P B p w tr' i
  | 0, _ => rfl
  | i + 1, hi => by
    have ih := v_mt_congr s hw h i (by omega)
    show (v_mt c n K P B p w tr i && (decide (¬ picks K P p i) || decide (tr (v_wix c n K P B p w i) = v_what c K B n w i))) = (v_mt c n K P B p w tr' i && (decide (¬ picks K P p i) || decide (tr' (v_wix c n K P B p w i) = v_what c K B n w i)))
    rw [ih]
    by_cases q : picks K P p i
    · rw [h _ (v_wix_is s (by omega) q hw).1]
    · simp [q]
theorem v_trS_congr (s : okS c n K P B) {ch : Nat → Nat → Nat → Nat} {p : Nat} {tr tr' : Nat → Nat} (h : ∀ t, t < v_sM c n K P B p → tr t = tr' t) : v_trS c n K P B ch U V W nr p tr = v_trS c n K P B ch U V W nr p tr' := by
  refine sumZ_congr _ (fun w hw => ?_)
  unfold v_trf
  rw [v_mt_congr s hw h n (Nat.le_refl _)]
theorem v_pl_others {ch ch' : Nat → Nat → Nat → Nat} {p : Nat} (h : ∀ q j v, q ≠ p → ch q j v = ch' q j v) (e : Nat → Nat) : ∀ i, v_pl K P ch p e i = v_pl K P ch' p e i
  | 0 => rfl
  | i + 1 => by
    show (v_pl K P ch p e i && (decide (¬ isChc (K i)) || decide (P i = p) || decide (e i = ch (P i) i (v_view K P (P i) i e i)))) = (v_pl K P ch' p e i && (decide (¬ isChc (K i)) || decide (P i = p) || decide (e i = ch' (P i) i (v_view K P (P i) i e i))))
    rw [v_pl_others h e i]
    by_cases q : P i = p
    · simp [q]
    · rw [h _ _ _ q]
theorem v_trS_others {ch ch' : Nat → Nat → Nat → Nat} {p : Nat} (h : ∀ q j v, q ≠ p → ch q j v = ch' q j v) (tr : Nat → Nat) : v_trS c n K P B ch U V W nr p tr = v_trS c n K P B ch' U V W nr p tr := by
  refine sumZ_congr _ (fun w hw => ?_)
  unfold v_trf
  rw [v_pl_others h]
/-- the reply looks at the others' plans alone -/
theorem v_rep_others {ch ch' : Nat → Nat → Nat → Nat} {p : Nat} (h : ∀ q j v, q ≠ p → ch q j v = ch' q j v) : v_rep c n K P B ch U V W nr p = v_rep c n K P B ch' U V W nr p := by
  unfold v_rep
  rw [show v_trS c n K P B ch U V W nr p = v_trS c n K P B ch' U V W nr p from funext fun tr => v_trS_others h tr]
/-- a way is played where it goes by the others' plans and by the player's own -/
theorem v_pl_own (s : okS c n K P B) {ch : Nat → Nat → Nat → Nat} {p w : Nat} (hp : p < 3) (hw : w < v_ways c K B n) {tr : Nat → Nat} (h : ∀ t, t < v_sM c n K P B p → tr t = ch p (v_sJ c n K P B p t) (v_sV c n K P B p t)) : ∀ i, i ≤ n → v_pl K P ch 3 (v_what c K B n w) i = (v_pl K P ch p (v_what c K B n w) i && v_mt c n K P B p w tr i)
  | 0, _ => rfl
  | i + 1, hi => by
    have ih := v_pl_own s hp hw h i (by omega)
    have hP := (s.2.2.2 i (by omega)).2.1
    show (v_pl K P ch 3 (v_what c K B n w) i && (decide (¬ isChc (K i)) || decide (P i = 3) || decide (v_what c K B n w i = ch (P i) i (v_view K P (P i) i (v_what c K B n w) i)))) = ((v_pl K P ch p (v_what c K B n w) i && (decide (¬ isChc (K i)) || decide (P i = p) || decide (v_what c K B n w i = ch (P i) i (v_view K P (P i) i (v_what c K B n w) i)))) && (v_mt c n K P B p w tr i && (decide (¬ picks K P p i) || decide (tr (v_wix c n K P B p w i) = v_what c K B n w i))))
    rw [ih]
    have h3 : decide (P i = 3) = false := decide_eq_false (by omega)
    rw [h3]
    by_cases q : picks K P p i
    · obtain ⟨x1, x2, x3⟩ := v_wix_is s (by omega) q hw
      rw [h _ x1, x2, x3]
      have e1 : decide (¬ isChc (K i)) = false := decide_eq_false (fun z => z q.1)
      have e2 : decide (P i = p) = true := decide_eq_true q.2
      have e3 : decide (¬ picks K P p i) = false := decide_eq_false (fun z => z q)
      rw [e1, e2, e3]
      have e4 : decide (v_what c K B n w i = ch (P i) i (v_view K P (P i) i (v_what c K B n w) i)) = decide (ch p i (v_pv c K P B p n w i) = v_what c K B n w i) := by
        rw [q.2]
        exact decide_eq_decide.mpr ⟨fun z => z.symm, fun z => z.symm⟩
      rw [e4]
      cases v_pl K P ch p (v_what c K B n w) i <;> cases v_mt c n K P B p w tr i <;> simp
    · have e3 : decide (¬ picks K P p i) = true := decide_eq_true q
      rw [e3]
      by_cases y : isChc (K i)
      · have e2 : decide (P i = p) = false := decide_eq_false (fun z => q ⟨y, z⟩)
        rw [e2]
        cases v_pl K P ch p (v_what c K B n w) i <;> cases v_mt c n K P B p w tr i <;> simp
      · have e1 : decide (¬ isChc (K i)) = true := decide_eq_true y
        rw [e1]
        cases v_pl K P ch p (v_what c K B n w) i <;> cases v_mt c n K P B p w tr i <;> simp
theorem v_trS_own (s : okS c n K P B) {ch : Nat → Nat → Nat → Nat} {p : Nat} (hp : p < 3) {tr : Nat → Nat} (h : ∀ t, t < v_sM c n K P B p → tr t = ch p (v_sJ c n K P B p t) (v_sV c n K P B p t)) : v_trS c n K P B ch U V W nr p tr = sumZ (v_sumf c n K P B ch U V W nr 3 p) (v_ways c K B n) := by
  refine sumZ_congr _ (fun w hw => ?_)
  unfold v_trf
  show _ = if v_pl K P ch 3 (v_what c K B n w) n = true then v_pay U V W c n (v_what c K B n w) p nr else 0
  rw [v_pl_own s hp hw h n (Nat.le_refl _)]
  cases v_pl K P ch p (v_what c K B n w) n <;> cases v_mt c n K P B p w tr n <;> simp
theorem v_much_729 (s : okS c n K P B) {p : Nat} (nm : ¬ 729 < v_much c n K P B p (v_sM c n K P B p)) : v_pr (fun t => B (v_sJ c n K P B p t)) (v_sM c n K P B p) ≤ 729 := by
  rw [← v_much_pr (by omega) _ (Nat.le_refl _)]
  omega
/-- A: the reply is no less than the mean -/
theorem rep_ge (s : okS c n K P B) {np : Nat} {T C : Nat → Nat} {p : Nat} (hp : p < 3) (nm : ¬ 729 < v_much c n K P B p (v_sM c n K P B p)) : sumZ (v_sumf c n K P B (v_chs np T C B) U V W nr 3 p) (v_ways c K B n) ≤ (v_rep c n K P B (v_chs np T C B) U V W nr p).1 := by
  have hb : ∀ t, t < v_sM c n K P B p → 0 < B (v_sJ c n K P B p t) := fun t ht => by have := v_setB s ht; omega
  rw [← v_trS_own s hp (tr := fun t => v_chs np T C B p (v_sJ c n K P B p t) (v_sV c n K P B p t)) (fun _ _ => rfl)]
  exact v_bst_ge (b := fun t => B (v_sJ c n K P B p t)) (fun tr tr' h => v_trS_congr s h) hb (v_much_729 s nm) (fun t ht => v_chs_lt (hb t ht))
/-- C: who plays the reply, wins it -/
theorem rep_at (s : okS c n K P B) {ch ch' : Nat → Nat → Nat → Nat} {p : Nat} (hp : p < 3) (h : ∀ q j v, q ≠ p → ch' q j v = ch q j v) (h2 : ∀ t, t < v_sM c n K P B p → ch' p (v_sJ c n K P B p t) (v_sV c n K P B p t) = (v_rep c n K P B ch U V W nr p).2 t) : sumZ (v_sumf c n K P B ch' U V W nr 3 p) (v_ways c K B n) = (v_rep c n K P B ch U V W nr p).1 := by
  rw [v_bst_at, ← v_trS_own s hp (ch := ch') (tr := (v_rep c n K P B ch U V W nr p).2) (fun t ht => (h2 t ht).symm)]
  exact v_trS_others h _
/-- what all win is nothing together -/
theorem pay_zero (r : okR nr U V) (e : Nat → Nat) : ∀ m, m ≤ nr → v_pay U V W c n e 0 m + v_pay U V W c n e 1 m + v_pay U V W c n e 2 m = 0
  | 0, _ => rfl
  | m + 1, hm => by
    have ih := pay_zero r e m (by omega)
    obtain ⟨-, -, -, a3, b3, ne, -⟩ := r.2 m (by omega)
    show (v_pay U V W c n e 0 m + _) + (v_pay U V W c n e 1 m + _) + (v_pay U V W c n e 2 m + _) = 0
    generalize v_am U V W c n e 9 m = A
    have k3 : U m 3 = 0 ∨ U m 3 = 1 ∨ U m 3 = 2 := by omega
    have k4 : U m 4 = 0 ∨ U m 4 = 1 ∨ U m 4 = 2 := by omega
    by_cases q : v_so U n e 9 m = true
    · rcases k3 with x | x | x <;> rcases k4 with y | y | y <;> (first | (exfalso; omega) | (simp only [x, y, q, if_true]; simp; omega))
    · rcases k3 with x | x | x <;> rcases k4 with y | y | y <;> (first | (exfalso; omega) | (simp only [x, y, q]; simp; omega))
end S80
