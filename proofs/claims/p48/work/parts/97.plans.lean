/-! PURE: what is told for a player leaves the others; who is told the reply plays it -/
theorem tl1_ne {x : PT} {B : Nat → Nat} {p j v y p' j' v' : Nat} (ne : v_key p' j' v' ≠ v_key p j v) : v_chs (v_tl1 x p j v y).1 (v_tl1 x p j v y).2.1 (v_tl1 x p j v y).2.2 B p' j' v' = v_chs x.1 x.2.1 x.2.2 B p' j' v' := by
  unfold v_tl1
  by_cases q : v_pat x.1 x.2.1 p j v < 40
  · rw [if_pos q]
    show v_chs (v_tn x.1 x.2.1 p j v) (updN x.2.1 (v_pat x.1 x.2.1 p j v) (v_key p j v)) (updN x.2.2 (v_pat x.1 x.2.1 p j v) y) B p' j' v' = _
    obtain ⟨np, T, C⟩ := x
    show v_chs (v_tn np T p j v) (updN T (v_pat np T p j v) (v_key p j v)) (updN C (v_pat np T p j v) y) B p' j' v' = v_chs np T C B p' j' v'
    have le : 0 ≤ v_pat np T p j v ∧ v_pat np T p j v ≤ 0 + np := v_at_le (fun k => decide (T k = v_key p j v)) np 0
    have le' : 0 ≤ v_pat np T p' j' v' ∧ v_pat np T p' j' v' ≤ 0 + np := v_at_le (fun k => decide (T k = v_key p' j' v')) np 0
    have tn : v_tn np T p j v = np ∨ v_tn np T p j v = np + 1 ∧ v_pat np T p j v = np := by
      show (if v_pat np T p j v = np then np + 1 else np) = np ∨ _
      by_cases z : v_pat np T p j v = np
      · exact Or.inr ⟨if_pos z, z⟩
      · exact Or.inl (if_neg z)
    have isk : v_pat np T p j v < np → T (v_pat np T p j v) = v_key p j v := fun z => of_decide_eq_true (v_at_is (fun k => decide (T k = v_key p j v)) np 0 (by rw [Nat.zero_add]; exact z))
    by_cases z : v_pat np T p' j' v' = np
    · have no : ∀ i, i < np → T i ≠ v_key p' j' v' := fun i hi => of_decide_eq_false (v_at_not (fun k => decide (T k = v_key p' j' v')) np 0 i (Nat.zero_le _) (by
        have : i < v_pat np T p' j' v' := by omega
        exact this))
      have e : v_pat (v_tn np T p j v) (updN T (v_pat np T p j v) (v_key p j v)) p' j' v' = v_tn np T p j v := by
        have := v_at_none (q := fun k => decide (updN T (v_pat np T p j v) (v_key p j v) k = v_key p' j' v')) (v_tn np T p j v) 0 (fun i hi => by
          by_cases e : i = v_pat np T p j v
          · rw [e, updN_s]
            exact decide_eq_false (fun w => ne w.symm)
          · rw [updN_o e]
            exact decide_eq_false (no i (by omega)))
        rw [Nat.zero_add] at this
        exact this
      unfold v_chs
      rw [if_pos (Or.inl e), if_pos (Or.inl z)]
    · have lt : v_pat np T p' j' v' < np := by omega
      have is' : T (v_pat np T p' j' v') = v_key p' j' v' := of_decide_eq_true (v_at_is (fun k => decide (T k = v_key p' j' v')) np 0 (by rw [Nat.zero_add]; exact lt))
      have dif : v_pat np T p' j' v' ≠ v_pat np T p j v := by
        intro w
        have := isk (by omega)
        rw [← w, is'] at this
        exact ne this
      have e : v_pat (v_tn np T p j v) (updN T (v_pat np T p j v) (v_key p j v)) p' j' v' = v_pat np T p' j' v' := v_at_eq (Nat.zero_le _) (by omega) (by rw [updN_o dif]; exact decide_eq_true is') (fun i _ hi => by
        by_cases e : i = v_pat np T p j v
        · rw [e, updN_s]
          exact decide_eq_false (fun w => ne w.symm)
        · rw [updN_o e]
          exact v_at_not (fun k => decide (T k = v_key p' j' v')) np 0 i (Nat.zero_le _) hi)
      unfold v_chs
      rw [e, updN_o dif]
      by_cases w : B j' ≤ C (v_pat np T p' j' v')
      · rw [if_pos (Or.inr w), if_pos (Or.inr w)]
      · rw [if_neg (fun y => y.elim (fun y => by omega) w), if_neg (fun y => y.elim z w)]
  · rw [if_neg q]
theorem at_le {q : Nat → Bool} {f k k0 : Nat} (h1 : k ≤ k0) (h3 : q k0 = true) : v_at q f k ≤ k0 := by
  rcases Nat.lt_or_ge k0 (v_at q f k) with z | z
  · have := v_at_not q f k k0 h1 z
    rw [h3] at this; cases this
  · exact z
theorem tl1_self {x : PT} {B : Nat → Nat} {p j v y : Nat} (hr : v_pat x.1 x.2.1 p j v < 40) (hy : y < B j) : v_chs (v_tl1 x p j v y).1 (v_tl1 x p j v y).2.1 (v_tl1 x p j v y).2.2 B p j v = y := by
  unfold v_tl1
  rw [if_pos hr]
  obtain ⟨np, T, C⟩ := x
  show v_chs (v_tn np T p j v) (updN T (v_pat np T p j v) (v_key p j v)) (updN C (v_pat np T p j v) y) B p j v = y
  have le : 0 ≤ v_pat np T p j v ∧ v_pat np T p j v ≤ 0 + np := v_at_le (fun k => decide (T k = v_key p j v)) np 0
  have tn : v_pat np T p j v < v_tn np T p j v := by
    show _ < (if v_pat np T p j v = np then np + 1 else np)
    split <;> omega
  have e : v_pat (v_tn np T p j v) (updN T (v_pat np T p j v) (v_key p j v)) p j v = v_pat np T p j v := v_at_eq (Nat.zero_le _) (by omega) (by rw [updN_s]; exact decide_eq_true rfl) (fun i _ hi => by
    rw [updN_o (by omega)]
    exact v_at_not (fun k => decide (T k = v_key p j v)) np 0 i (Nat.zero_le _) hi)
  unfold v_chs
  rw [e, updN_s, if_neg (fun z => z.elim (fun z => by omega) (fun z => by omega))]
theorem cntN_mono (q : Nat → Bool) {a : Nat} : ∀ {b}, a ≤ b → cntN q a ≤ cntN q b
  | 0, h => by
    obtain rfl : a = 0 := by omega
    exact Nat.le_refl _
  | b + 1, h => by
    by_cases z : a = b + 1
    · rw [z]; exact Nat.le_refl _
    · have := cntN_mono q (a := a) (b := b) (by omega)
      show _ ≤ cntN q b + (if q b = true then 1 else 0)
      omega
section S97
variable {c n nr np : Nat} {K P B T C : Nat → Nat} {U : Nat → Nat → Nat} {V W : Nat → Int}
theorem v_pl_cg (s : okS c n K P B) {ch ch' : Nat → Nat → Nat → Nat} {but : Nat} (h : ∀ q j v, q < 3 → j < n → q ≠ but → ch q j v = ch' q j v) (e : Nat → Nat) : ∀ i, i ≤ n → v_pl K P ch but e i = v_pl K P ch' but e i
  | 0, _ => rfl
  | i + 1, hi => by
    show (v_pl K P ch but e i && (decide (¬ isChc (K i)) || decide (P i = but) || decide (e i = ch (P i) i (v_view K P (P i) i e i)))) = (v_pl K P ch' but e i && (decide (¬ isChc (K i)) || decide (P i = but) || decide (e i = ch' (P i) i (v_view K P (P i) i e i))))
    rw [v_pl_cg s h e i (by omega)]
    by_cases q : P i = but
    · simp [q]
    · rw [h _ _ _ (s.2.2.2 i (by omega)).2.1 (by omega) q]
theorem v_rep_cg (s : okS c n K P B) {ch ch' : Nat → Nat → Nat → Nat} {p : Nat} (h : ∀ q j v, q < 3 → j < n → q ≠ p → ch q j v = ch' q j v) : v_rep c n K P B ch U V W nr p = v_rep c n K P B ch' U V W nr p := by
  unfold v_rep
  rw [show v_trS c n K P B ch U V W nr p = v_trS c n K P B ch' U V W nr p from funext fun tr => by
    refine sumZ_congr _ (fun w hw => ?_)
    unfold v_trf
    rw [v_pl_cg s h _ n (Nat.le_refl _)]]
theorem sumf_cg (s : okS c n K P B) {ch ch' : Nat → Nat → Nat → Nat} {p : Nat} (h : ∀ q j v, q < 3 → j < n → ch q j v = ch' q j v) : sumZ (v_sumf c n K P B ch U V W nr 3 p) (v_ways c K B n) = sumZ (v_sumf c n K P B ch' U V W nr 3 p) (v_ways c K B n) := by
  refine sumZ_congr _ (fun w hw => ?_)
  show (if v_pl K P ch 3 (v_what c K B n w) n = true then _ else _) = (if v_pl K P ch' 3 (v_what c K B n w) n = true then _ else _)
  rw [v_pl_cg s (fun q j v hq hj _ => h q j v hq hj) _ n (Nat.le_refl _)]
/-- who plays the reply, wins it; only plans that can be matter -/
theorem rep_at' (s : okS c n K P B) {ch ch' : Nat → Nat → Nat → Nat} {p : Nat} (hp : p < 3) (h : ∀ q j v, q < 3 → j < n → q ≠ p → ch' q j v = ch q j v) (h2 : ∀ t, t < v_sM c n K P B p → ch' p (v_sJ c n K P B p t) (v_sV c n K P B p t) = (v_rep c n K P B ch U V W nr p).2 t) : sumZ (v_sumf c n K P B ch' U V W nr 3 p) (v_ways c K B n) = (v_rep c n K P B ch U V W nr p).1 := by
  have r := rep_at (U := U) (V := V) (W := W) (nr := nr) s (ch := ch) (ch' := fun q j v => if q = p then ch' p j v else ch q j v) hp (fun q j v z => if_neg z) (fun t ht => (if_pos rfl).trans (h2 t ht))
  rw [← r]
  refine sumf_cg s (fun q j v hq hj => ?_)
  by_cases z : q = p
  · rw [if_pos z, z]
  · rw [if_neg z]
    exact h q j v hq hj z
/-- told the tree of a player from the first set on -/
theorem tla_ok (s : okS c n K P B) {p : Nat} (hp : p < 3) (h40 : np ≤ 40) {y : Nat → Nat} (hy : ∀ t, t < v_sM c n K P B p → y t < B (v_sJ c n K P B p t)) (room : np + cntN (v_new c n K P B np T p) (v_sM c n K P B p) ≤ 40) : ∀ i, i ≤ v_sM c n K P B p → np ≤ (v_tla c n K P B p y i (np, T, C)).1 ∧ (v_tla c n K P B p y i (np, T, C)).1 ≤ np + cntN (v_new c n K P B np T p) i ∧ (∀ k, k < np → (v_tla c n K P B p y i (np, T, C)).2.1 k = T k) ∧ (∀ t, t < i → v_chs (v_tla c n K P B p y i (np, T, C)).1 (v_tla c n K P B p y i (np, T, C)).2.1 (v_tla c n K P B p y i (np, T, C)).2.2 B p (v_sJ c n K P B p t) (v_sV c n K P B p t) = y t) ∧ ∀ q j v, q < 4 → j < 8 → q ≠ p → v_chs (v_tla c n K P B p y i (np, T, C)).1 (v_tla c n K P B p y i (np, T, C)).2.1 (v_tla c n K P B p y i (np, T, C)).2.2 B q j v = v_chs np T C B q j v
  | 0, _ => ⟨Nat.le_refl _, Nat.le_refl _, fun _ _ => rfl, fun t ht => absurd ht (Nat.not_lt_zero _), fun _ _ _ _ _ _ => rfl⟩
  | i + 1, hi => by
    obtain ⟨a1, a2, a3, a4, a5⟩ := tla_ok s hp h40 hy room i (by omega)
    have n6 := s.2.2.1
    have ji := (v_set_is s (p := p) (t := i) (by omega)).1
    have mono : cntN (v_new c n K P B np T p) (i + 1) ≤ cntN (v_new c n K P B np T p) (v_sM c n K P B p) := cntN_mono _ hi
    show _ ≤ (v_tl1 (v_tla c n K P B p y i (np, T, C)) p (v_sJ c n K P B p i) (v_sV c n K P B p i) (y i)).1 ∧ (v_tl1 (v_tla c n K P B p y i (np, T, C)) p (v_sJ c n K P B p i) (v_sV c n K P B p i) (y i)).1 ≤ _ ∧ (∀ k, k < np → (v_tl1 (v_tla c n K P B p y i (np, T, C)) p (v_sJ c n K P B p i) (v_sV c n K P B p i) (y i)).2.1 k = T k) ∧ (∀ t, t < i + 1 → v_chs (v_tl1 (v_tla c n K P B p y i (np, T, C)) p (v_sJ c n K P B p i) (v_sV c n K P B p i) (y i)).1 (v_tl1 (v_tla c n K P B p y i (np, T, C)) p (v_sJ c n K P B p i) (v_sV c n K P B p i) (y i)).2.1 (v_tl1 (v_tla c n K P B p y i (np, T, C)) p (v_sJ c n K P B p i) (v_sV c n K P B p i) (y i)).2.2 B p (v_sJ c n K P B p t) (v_sV c n K P B p t) = y t) ∧ ∀ q j v, q < 4 → j < 8 → q ≠ p → v_chs (v_tl1 (v_tla c n K P B p y i (np, T, C)) p (v_sJ c n K P B p i) (v_sV c n K P B p i) (y i)).1 (v_tl1 (v_tla c n K P B p y i (np, T, C)) p (v_sJ c n K P B p i) (v_sV c n K P B p i) (y i)).2.1 (v_tl1 (v_tla c n K P B p y i (np, T, C)) p (v_sJ c n K P B p i) (v_sV c n K P B p i) (y i)).2.2 B q j v = v_chs np T C B q j v
    generalize v_tla c n K P B p y i (np, T, C) = x at *
    have le : v_pat x.1 x.2.1 p (v_sJ c n K P B p i) (v_sV c n K P B p i) ≤ 0 + x.1 := (v_at_le (fun k => decide (x.2.1 k = v_key p (v_sJ c n K P B p i) (v_sV c n K P B p i))) x.1 0).2
    have leT : v_pat np T p (v_sJ c n K P B p i) (v_sV c n K P B p i) ≤ 0 + np := (v_at_le (fun k => decide (T k = v_key p (v_sJ c n K P B p i) (v_sV c n K P B p i))) np 0).2
    -- it is told
    have key : v_pat x.1 x.2.1 p (v_sJ c n K P B p i) (v_sV c n K P B p i) < 40 ∧ (v_tl1 x p (v_sJ c n K P B p i) (v_sV c n K P B p i) (y i)).1 ≤ np + cntN (v_new c n K P B np T p) (i + 1) ∧ np ≤ (v_tl1 x p (v_sJ c n K P B p i) (v_sV c n K P B p i) (y i)).1 := by
      have tl : v_pat x.1 x.2.1 p (v_sJ c n K P B p i) (v_sV c n K P B p i) < 40 → (v_tl1 x p (v_sJ c n K P B p i) (v_sV c n K P B p i) (y i)).1 = if v_pat x.1 x.2.1 p (v_sJ c n K P B p i) (v_sV c n K P B p i) = x.1 then x.1 + 1 else x.1 := fun z => by
        unfold v_tl1
        rw [if_pos z]
      by_cases z : v_new c n K P B np T p i = true
      · have cn : cntN (v_new c n K P B np T p) (i + 1) = cntN (v_new c n K P B np T p) i + 1 := cntN_yes z
        have lt : v_pat x.1 x.2.1 p (v_sJ c n K P B p i) (v_sV c n K P B p i) < 40 := by omega
        refine ⟨lt, ?_, ?_⟩ <;> (rw [tl lt]; split <;> omega)
      · have cn : cntN (v_new c n K P B np T p) (i + 1) = cntN (v_new c n K P B np T p) i := cntN_not z
        have nz : v_pat np T p (v_sJ c n K P B p i) (v_sV c n K P B p i) < np := by
          have : v_pat np T p (v_sJ c n K P B p i) (v_sV c n K P B p i) ≠ np := fun y => z (decide_eq_true y)
          omega
        have isT : T (v_pat np T p (v_sJ c n K P B p i) (v_sV c n K P B p i)) = v_key p (v_sJ c n K P B p i) (v_sV c n K P B p i) := of_decide_eq_true (v_at_is (fun k => decide (T k = v_key p (v_sJ c n K P B p i) (v_sV c n K P B p i))) np 0 (by rw [Nat.zero_add]; exact nz))
        have l2 : v_pat x.1 x.2.1 p (v_sJ c n K P B p i) (v_sV c n K P B p i) ≤ v_pat np T p (v_sJ c n K P B p i) (v_sV c n K P B p i) := at_le (Nat.zero_le _) (decide_eq_true ((a3 _ nz).trans isT))
        have lt : v_pat x.1 x.2.1 p (v_sJ c n K P B p i) (v_sV c n K P B p i) < 40 := by omega
        refine ⟨lt, ?_, ?_⟩ <;> (rw [tl lt, if_neg (by omega)]; omega)
    obtain ⟨k1, k2, k3⟩ := key
    refine ⟨k3, k2, fun k hk => ?_, fun t ht => ?_, fun q j v hq hj ne => ?_⟩
    · unfold v_tl1
      rw [if_pos k1]
      show updN x.2.1 (v_pat x.1 x.2.1 p (v_sJ c n K P B p i) (v_sV c n K P B p i)) (v_key p (v_sJ c n K P B p i) (v_sV c n K P B p i)) k = T k
      by_cases z : k = v_pat x.1 x.2.1 p (v_sJ c n K P B p i) (v_sV c n K P B p i)
      · have isx : x.2.1 (v_pat x.1 x.2.1 p (v_sJ c n K P B p i) (v_sV c n K P B p i)) = v_key p (v_sJ c n K P B p i) (v_sV c n K P B p i) := of_decide_eq_true (v_at_is (fun k => decide (x.2.1 k = v_key p (v_sJ c n K P B p i) (v_sV c n K P B p i))) x.1 0 (by show v_pat x.1 x.2.1 p _ _ < _; omega))
        rw [z, updN_s, ← isx, ← z]
        exact a3 k hk
      · rw [updN_o z]
        exact a3 k hk
    · by_cases z : t = i
      · rw [z]
        exact tl1_self k1 (hy i (by omega))
      · have jt := (v_set_is s (p := p) (t := t) (by omega)).1
        rw [tl1_ne (fun w => by
          obtain ⟨-, e1, e2⟩ := (v_key_eq (by omega) (by omega) (by omega) (by omega)).mp w
          exact z (v_set_inj s (by omega) (by omega) e1 e2))]
        exact a4 t (by omega)
    · rw [tl1_ne (fun w => ne ((v_key_eq (by omega) (by omega) (by omega) (by omega)).mp w).1)]
      exact a5 q j v hq hj ne
end S97
