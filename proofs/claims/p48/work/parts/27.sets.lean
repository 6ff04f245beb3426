/-! ENUMERATIONS: the numbers that are so, from small to great -/
def enumS (Q : Nat → Prop) (M : Nat) (g : Nat → Nat) : Prop := (∀ s t, s < t → t < M → g s < g t) ∧ (∀ t, t < M → Q (g t)) ∧ ∀ x, Q x → ∃ t, t < M ∧ g t = x
theorem enumS.inj {Q : Nat → Prop} {M : Nat} {g : Nat → Nat} (e : enumS Q M g) {s t : Nat} (hs : s < M) (ht : t < M) (q : g s = g t) : s = t := by
  rcases Nat.lt_trichotomy s t with z | z | z
  · have := e.1 s t z ht; omega
  · exact z
  · have := e.1 t s z hs; omega
theorem enumS.lt {Q : Nat → Prop} {M : Nat} {g : Nat → Nat} (e : enumS Q M g) {s t : Nat} (hs : s < M) (q : g s < g t) (ht : t < M) : s < t := by
  rcases Nat.lt_trichotomy s t with z | z | z
  · exact z
  · subst z; omega
  · have := e.1 t s z hs; omega
theorem enumS.eq1 {Q : Nat → Prop} {M M' : Nat} {g g' : Nat → Nat} (e : enumS Q M g) (e' : enumS Q M' g') : ∀ k t, t < k → t < M → t < M' ∧ g t = g' t := by
  intro k
  induction k with
  | zero => intro t ht; exact absurd ht (Nat.not_lt_zero _)
  | succ k ih =>
    intro t ht hM
    by_cases hk : t < k
    · exact ih t hk hM
    obtain ⟨s, hs, es⟩ := e'.2.2 _ (e.2.1 t hM)
    rcases Nat.lt_trichotomy s t with z | z | z
    · have := ih s (by omega) (by omega)
      have := e.1 s t z hM
      omega
    · subst z
      exact ⟨hs, es.symm⟩
    · have h1 := e'.1 t s z hs
      obtain ⟨r, hr, er⟩ := e.2.2 _ (e'.2.1 t (by omega))
      have h2 := e.lt hr (t := t) (by omega) hM
      have h3 := ih r (by omega) hr
      have h4 := e'.1 r t h2 (by omega)
      omega
theorem enumS.eq {Q : Nat → Prop} {M M' : Nat} {g g' : Nat → Nat} (e : enumS Q M g) (e' : enumS Q M' g') : M = M' ∧ ∀ t, t < M → g t = g' t := by
  refine ⟨?_, fun t ht => (e.eq1 e' (t + 1) t (by omega) ht).2⟩
  rcases Nat.lt_trichotomy M M' with z | z | z
  · have := (e'.eq1 e (M + 1) M (by omega) z).1; omega
  · exact z
  · have := (e.eq1 e' (M' + 1) M' (by omega) z).1; omega
theorem enumS.congr {Q Q' : Nat → Prop} {M : Nat} {g : Nat → Nat} (e : enumS Q M g) (h : ∀ x, Q x ↔ Q' x) : enumS Q' M g := ⟨e.1, fun t ht => (h _).mp (e.2.1 t ht), fun x hx => e.2.2 x ((h x).mpr hx)⟩
theorem enumS.nil {Q : Nat → Prop} (g : Nat → Nat) (h : ∀ x, ¬ Q x) : enumS Q 0 g := ⟨fun _ _ _ z => absurd z (Nat.not_lt_zero _), fun _ z => absurd z (Nat.not_lt_zero _), fun x z => absurd z (h x)⟩
/-- a is where v stands or would stand -/
def insA (f : Nat → Nat) (m v a : Nat) : Prop := a ≤ m ∧ (∀ t, t < m → a ≤ t → v < f t) ∧ (a = 0 ∨ f (a - 1) ≤ v)
def insF (f : Nat → Nat) (v a : Nat) : Nat → Nat := fun t => if t < a then f t else if t = a then v else f (t - 1)
theorem insA_ex (f : Nat → Nat) (m v : Nat) : ∀ k, k ≤ m → (∀ t, t < m → k ≤ t → v < f t) → ∃ a, insA f m v a
  | 0, _, h => ⟨0, Nat.zero_le _, h, Or.inl rfl⟩
  | k + 1, hk, h => by
    by_cases q : f k ≤ v
    · exact ⟨k + 1, hk, h, Or.inr q⟩
    · refine insA_ex f m v k (by omega) (fun t ht kt => ?_)
      by_cases e : t = k
      · subst e; omega
      · exact h t ht (by omega)
theorem enumS.old {Q : Nat → Prop} {m : Nat} {f : Nat → Nat} (e : enumS Q m f) {v a : Nat} (ia : insA f m v a) (q : ¬ (a = 0 ∨ f (a - 1) ≠ v)) : enumS (fun x => Q x ∨ x = v) m f := by
  refine e.congr (fun x => ⟨Or.inl, fun z => z.elim id (fun z => ?_)⟩)
  have q1 : f (a - 1) = v := by
    by_cases z : f (a - 1) = v
    · exact z
    · exact absurd (Or.inr z) q
  rw [z, ← q1]
  have a0 : a ≠ 0 := fun z => q (Or.inl z)
  exact e.2.1 _ (by have := ia.1; omega)
theorem enumS.ins {Q : Nat → Prop} {m : Nat} {f : Nat → Nat} (e : enumS Q m f) {v a : Nat} (ia : insA f m v a) (q : a = 0 ∨ f (a - 1) ≠ v) : enumS (fun x => Q x ∨ x = v) (m + 1) (insF f v a) := by
  have am := ia.1
  have lo : ∀ t, t < a → f t < v := by
    intro t ht
    have h1 : f (a - 1) < v := by
      rcases ia.2.2 with z | z
      · omega
      · rcases q with y | y
        · omega
        · omega
    by_cases z : t = a - 1
    · rw [z]; exact h1
    · have := e.1 t (a - 1) (by omega) (by omega); omega
  refine ⟨fun s t hst ht => ?_, fun t ht => ?_, fun x hx => ?_⟩
  · unfold insF
    by_cases s1 : s < a
    · rw [if_pos s1]
      by_cases t1 : t < a
      · rw [if_pos t1]
        exact e.1 s t hst (by omega)
      · rw [if_neg t1]
        by_cases t2 : t = a
        · rw [if_pos t2]
          exact lo s s1
        · rw [if_neg t2]
          have h1 := lo s s1
          have h2 := ia.2.1 (t - 1) (by omega) (by omega)
          omega
    · rw [if_neg s1, if_neg (show ¬ t < a by omega), if_neg (show ¬ t = a by omega)]
      by_cases s2 : s = a
      · rw [if_pos s2]
        exact ia.2.1 (t - 1) (by omega) (by omega)
      · rw [if_neg s2]
        exact e.1 (s - 1) (t - 1) (by omega) (by omega)
  · unfold insF
    by_cases t1 : t < a
    · rw [if_pos t1]
      exact Or.inl (e.2.1 t (by omega))
    · rw [if_neg t1]
      by_cases t2 : t = a
      · rw [if_pos t2]
        exact Or.inr rfl
      · rw [if_neg t2]
        exact Or.inl (e.2.1 _ (by omega))
  · rcases hx with z | z
    · obtain ⟨t, ht, et⟩ := e.2.2 x z
      by_cases t1 : t < a
      · exact ⟨t, by omega, by unfold insF; rw [if_pos t1]; exact et⟩
      · exact ⟨t + 1, by omega, by unfold insF; rw [if_neg (show ¬ t + 1 < a by omega), if_neg (show ¬ t + 1 = a by omega), Nat.add_sub_cancel]; exact et⟩
    · exact ⟨a, by omega, by unfold insF; rw [if_neg (Nat.lt_irrefl _), if_pos rfl]; exact z.symm⟩
def appF (M B : Nat) (g f : Nat → Nat) : Nat → Nat := fun t => if t < M then g t else B + f (t - M)
theorem enumS.app {Q R : Nat → Prop} {M m B : Nat} {g f : Nat → Nat} (e : enumS Q M g) (e' : enumS R m f) (hB : ∀ x, Q x → x < B) : enumS (fun x => Q x ∨ ∃ v, R v ∧ x = B + v) (M + m) (appF M B g f) := by
  refine ⟨fun s t hst ht => ?_, fun t ht => ?_, fun x hx => ?_⟩
  · unfold appF
    by_cases t1 : t < M
    · rw [if_pos t1, if_pos (Nat.lt_trans hst t1)]
      exact e.1 s t hst t1
    · rw [if_neg t1]
      by_cases s1 : s < M
      · rw [if_pos s1]
        have := hB _ (e.2.1 s s1)
        omega
      · rw [if_neg s1]
        have := e'.1 (s - M) (t - M) (by omega) (by omega)
        omega
  · unfold appF
    by_cases t1 : t < M
    · rw [if_pos t1]
      exact Or.inl (e.2.1 t t1)
    · rw [if_neg t1]
      exact Or.inr ⟨_, e'.2.1 (t - M) (by omega), rfl⟩
  · rcases hx with z | ⟨v, z, rfl⟩
    · obtain ⟨t, ht, et⟩ := e.2.2 x z
      exact ⟨t, by omega, by unfold appF; rw [if_pos ht]; exact et⟩
    · obtain ⟨t, ht, et⟩ := e'.2.2 v z
      exact ⟨M + t, by omega, by unfold appF; rw [if_neg (by omega), Nat.add_sub_cancel_left, et]⟩
/-! SETS: views of a player at stages where they choose; stage * 524288 + view -/
def vwQ (c : Nat) (K P B : Nat → Nat) (p j m x : Nat) : Prop := ∃ w, w < m ∧ v_vw c K P B p j w = x
abbrev picks (K P : Nat → Nat) (p j : Nat) : Prop := isChc (K j) ∧ P j = p
def setQ (c : Nat) (K P B : Nat → Nat) (p m x : Nat) : Prop := ∃ j v, j < m ∧ picks K P p j ∧ vwQ c K P B p j (v_ways c K B j) v ∧ x = j * 524288 + v
/-- how many sets there may be -/
def setB (c : Nat) (K P B : Nat → Nat) (p : Nat) : Nat → Nat
  | 0 => 0
  | j + 1 => setB c K P B p j + (if picks K P p j then v_ways c K B j else 0)
theorem vwQ_succ (c : Nat) (K P B : Nat → Nat) (p j m x : Nat) : (vwQ c K P B p j m x ∨ x = v_vw c K P B p j m) ↔ vwQ c K P B p j (m + 1) x := by
  constructor
  · rintro (⟨w, hw, e⟩ | e)
    · exact ⟨w, by omega, e⟩
    · exact ⟨m, by omega, e.symm⟩
  · rintro ⟨w, hw, e⟩
    by_cases q : w = m
    · exact Or.inr (by rw [← q, e])
    · exact Or.inl ⟨w, by omega, e⟩
theorem vwQ_ex (c : Nat) (K P B : Nat → Nat) (p j : Nat) : ∀ m, ∃ k f, k ≤ m ∧ enumS (vwQ c K P B p j m) k f
  | 0 => ⟨0, id, Nat.le_refl _, enumS.nil _ (fun x ⟨w, hw, _⟩ => Nat.not_lt_zero _ hw)⟩
  | m + 1 => by
    obtain ⟨k, f, hk, e⟩ := vwQ_ex c K P B p j m
    obtain ⟨a, ia⟩ := insA_ex f k (v_vw c K P B p j m) k (Nat.le_refl _) (fun t ht kt => absurd ht (by omega))
    by_cases q : a = 0 ∨ f (a - 1) ≠ v_vw c K P B p j m
    · exact ⟨k + 1, _, by omega, (e.ins ia q).congr (vwQ_succ c K P B p j m)⟩
    · exact ⟨k, f, by omega, (e.old ia q).congr (vwQ_succ c K P B p j m)⟩
theorem setQ_skip {c : Nat} {K P B : Nat → Nat} {p m : Nat} (q : ¬ picks K P p m) (x : Nat) : setQ c K P B p m x ↔ setQ c K P B p (m + 1) x := by
  constructor
  · rintro ⟨j, v, hj, z⟩
    exact ⟨j, v, by omega, z⟩
  · rintro ⟨j, v, hj, z⟩
    by_cases e : j = m
    · subst e
      exact absurd z.1 q
    · exact ⟨j, v, by omega, z⟩
theorem setQ_more {c : Nat} {K P B : Nat → Nat} {p m : Nat} (q : picks K P p m) (x : Nat) : (setQ c K P B p m x ∨ ∃ v, vwQ c K P B p m (v_ways c K B m) v ∧ x = m * 524288 + v) ↔ setQ c K P B p (m + 1) x := by
  constructor
  · rintro (⟨j, v, hj, z⟩ | ⟨v, z, e⟩)
    · exact ⟨j, v, by omega, z⟩
    · exact ⟨m, v, by omega, q, z, e⟩
  · rintro ⟨j, v, hj, z⟩
    by_cases e : j = m
    · subst e
      exact Or.inr ⟨v, z.2⟩
    · exact Or.inl ⟨j, v, by omega, z⟩
theorem setQ_lt {c n : Nat} {K P B : Nat → Nat} (s : okS c n K P B) {p m x : Nat} (hm : m ≤ n) (q : setQ c K P B p m x) : x < m * 524288 := by
  obtain ⟨j, v, hj, _, ⟨w, hw, e⟩, rfl⟩ := q
  have := (v_vw_lt s (j := j) (by omega) p w).2
  rw [e] at this
  have : (j + 1) * 524288 ≤ m * 524288 := Nat.mul_le_mul_right _ hj
  omega
theorem setQ_ex {c n : Nat} {K P B : Nat → Nat} (s : okS c n K P B) (p : Nat) : ∀ m, m ≤ n → ∃ M g, M ≤ setB c K P B p m ∧ enumS (setQ c K P B p m) M g
  | 0, _ => ⟨0, id, Nat.le_refl _, enumS.nil _ (fun x ⟨j, v, hj, _⟩ => Nat.not_lt_zero _ hj)⟩
  | m + 1, hm => by
    obtain ⟨M, g, hM, e⟩ := setQ_ex s p m (by omega)
    by_cases q : picks K P p m
    · obtain ⟨k, f, hk, e'⟩ := vwQ_ex c K P B p m (v_ways c K B m)
      refine ⟨M + k, _, ?_, (e.app e' (fun x hx => setQ_lt s (by omega) hx)).congr (setQ_more q)⟩
      show M + k ≤ setB c K P B p m + (if picks K P p m then v_ways c K B m else 0)
      rw [if_pos q]
      omega
    · refine ⟨M, g, ?_, e.congr (setQ_skip q)⟩
      show M ≤ setB c K P B p m + (if picks K P p m then v_ways c K B m else 0)
      omega
theorem setQ_ex' (c n : Nat) (K P B : Nat → Nat) (p : Nat) : ∃ r : Nat × (Nat → Nat), okS c n K P B → r.1 ≤ setB c K P B p n ∧ enumS (setQ c K P B p n) r.1 r.2 := by
  by_cases s : okS c n K P B
  · obtain ⟨M, g, a, b⟩ := setQ_ex s p n (Nat.le_refl _)
    exact ⟨(M, g), fun _ => ⟨a, b⟩⟩
  · exact ⟨(0, id), fun z => absurd z s⟩
noncomputable def v_sets (c n : Nat) (K P B : Nat → Nat) (p : Nat) : Nat × (Nat → Nat) := Classical.choose (setQ_ex' c n K P B p)
noncomputable abbrev v_sM (c n : Nat) (K P B : Nat → Nat) (p : Nat) : Nat := (v_sets c n K P B p).1
noncomputable abbrev v_sJ (c n : Nat) (K P B : Nat → Nat) (p t : Nat) : Nat := (v_sets c n K P B p).2 t / 524288
noncomputable abbrev v_sV (c n : Nat) (K P B : Nat → Nat) (p t : Nat) : Nat := (v_sets c n K P B p).2 t % 524288
theorem v_sets_ok {c n : Nat} {K P B : Nat → Nat} (s : okS c n K P B) (p : Nat) : (v_sets c n K P B p).1 ≤ setB c K P B p n ∧ enumS (setQ c K P B p n) (v_sets c n K P B p).1 (v_sets c n K P B p).2 := Classical.choose_spec (setQ_ex' c n K P B p) s
def v_wB (j : Nat) : Nat := if j = 0 then 1 else if j = 1 then 5 else if j = 2 then 20 else if j = 3 then 60 else if j = 4 then 180 else 540
def v_cB (j : Nat) : Nat := if j = 0 then 0 else if j = 1 then 1 else if j = 2 then 6 else if j = 3 then 26 else if j = 4 then 86 else if j = 5 then 266 else 806
theorem v_wb : ∀ j, j ≤ 5 → ∀ o, o ≤ 5 → o ≤ j → v_ff o * 3 ^ (j - o) ≤ v_wB j := by decide +kernel
theorem v_wc : ∀ j, j ≤ 5 → v_cB j + v_wB j ≤ v_cB (j + 1) := by decide
theorem v_c8 : ∀ j, j ≤ 6 → v_cB j ≤ 806 := by decide
theorem v_ways_b {c n : Nat} {K P B : Nat → Nat} (s : okS c n K P B) {j : Nat} (hj : j ≤ n) (h5 : j ≤ 5) : v_ways c K B j ≤ v_wB j := by
  have h1 := v_ways_ff s j hj
  have h2 := v_out_c s j hj
  have h3 := v_out_le K j
  have h4 := s.2.1
  exact Nat.le_trans h1 (v_wb j h5 _ (by omega) h3)
theorem setB_le1 {c n : Nat} {K P B : Nat → Nat} (s : okS c n K P B) (p : Nat) : ∀ j, j ≤ n → setB c K P B p j ≤ v_cB j
  | 0, _ => Nat.zero_le _
  | j + 1, hj => by
    have h6 := s.2.2.1
    have ih := setB_le1 s p j (by omega)
    have h1 := v_ways_b s (j := j) (by omega) (by omega)
    have h2 := v_wc j (by omega)
    have h3 : (if picks K P p j then v_ways c K B j else 0) ≤ v_ways c K B j := by split <;> omega
    show setB c K P B p j + (if picks K P p j then v_ways c K B j else 0) ≤ _
    omega
theorem setB_le {c n : Nat} {K P B : Nat → Nat} (s : okS c n K P B) (p : Nat) : setB c K P B p n ≤ 806 := Nat.le_trans (setB_le1 s p n (Nat.le_refl _)) (v_c8 n s.2.2.1)
theorem v_sM_le {c n : Nat} {K P B : Nat → Nat} (s : okS c n K P B) (p : Nat) : v_sM c n K P B p ≤ 806 := Nat.le_trans (v_sets_ok s p).1 (setB_le s p)
/-- a set is at a stage where the player chooses, its view is one of theirs there -/
theorem v_set_is {c n : Nat} {K P B : Nat → Nat} (s : okS c n K P B) {p t : Nat} (ht : t < v_sM c n K P B p) : v_sJ c n K P B p t < n ∧ picks K P p (v_sJ c n K P B p t) ∧ vwQ c K P B p (v_sJ c n K P B p t) (v_ways c K B (v_sJ c n K P B p t)) (v_sV c n K P B p t) := by
  obtain ⟨j, v, hj, q, z, e⟩ := (v_sets_ok s p).2.2.1 t ht
  have lv : v < 524288 := by
    obtain ⟨w, hw, e⟩ := z
    have := (v_vw_lt s (j := j) (by omega) p w).2
    rw [e] at this
    exact this
  have e1 : v_sJ c n K P B p t = j := by show (v_sets c n K P B p).2 t / 524288 = j; rw [e]; omega
  have e2 : v_sV c n K P B p t = v := by show (v_sets c n K P B p).2 t % 524288 = v; rw [e]; omega
  rw [e1, e2]
  exact ⟨hj, q, z⟩
theorem v_sV_lt (c n : Nat) (K P B : Nat → Nat) (p t : Nat) : v_sV c n K P B p t < 524288 := Nat.mod_lt _ (by decide)
/-- each such view is a set -/
theorem v_set_ex {c n : Nat} {K P B : Nat → Nat} (s : okS c n K P B) {p j w : Nat} (hj : j < n) (q : picks K P p j) (hw : w < v_ways c K B j) : ∃ t, t < v_sM c n K P B p ∧ v_sJ c n K P B p t = j ∧ v_sV c n K P B p t = v_vw c K P B p j w := by
  obtain ⟨t, ht, e⟩ := (v_sets_ok s p).2.2.2 _ ⟨j, _, hj, q, ⟨w, hw, rfl⟩, rfl⟩
  have lv := (v_vw_lt s (j := j) (by omega) p w).2
  refine ⟨t, ht, ?_, ?_⟩
  · show (v_sets c n K P B p).2 t / 524288 = j
    rw [e]; omega
  · show (v_sets c n K P B p).2 t % 524288 = _
    rw [e]; omega
theorem v_set_inj {c n : Nat} {K P B : Nat → Nat} (s : okS c n K P B) {p t t' : Nat} (ht : t < v_sM c n K P B p) (ht' : t' < v_sM c n K P B p) (e1 : v_sJ c n K P B p t = v_sJ c n K P B p t') (e2 : v_sV c n K P B p t = v_sV c n K P B p t') : t = t' := by
  refine (v_sets_ok s p).2.inj ht ht' ?_
  have : ∀ a b : Nat, a / 524288 = b / 524288 → a % 524288 = b % 524288 → a = b := by omega
  exact this _ _ e1 e2
