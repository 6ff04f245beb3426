/-! THE CLASS: the row is sorted -/
abbrev cntV (r : Nat → Nat) (m x : Nat) : Nat := cntN (fun a => decide (r a = x)) m
theorem cntV_upd (r : Nat → Nat) (v x : Nat) : ∀ m a, a < m → cntV (updN r a v) m x + (if r a = x then 1 else 0) = cntV r m x + (if v = x then 1 else 0)
  | 0, _, h => absurd h (Nat.not_lt_zero _)
  | m + 1, a, h => by
    show cntV (updN r a v) m x + (if decide (updN r a v m = x) = true then 1 else 0) + _ = cntV r m x + (if decide (r m = x) = true then 1 else 0) + _
    by_cases q : a = m
    · subst q
      rw [updN_s]
      have e : cntV (updN r a v) a x = cntV r a x := cntN_cong a (fun w hw => by rw [updN_o (by omega)])
      rw [e]
      by_cases y : v = x <;> by_cases z : r a = x <;> simp [y, z]
    · have ih := cntV_upd r v x m a (by omega)
      rw [updN_o (by omega)]
      omega
/-- the same values, as often -/
def permV (m : Nat) (r r' : Nat → Nat) : Prop := ∀ x, cntV r m x = cntV r' m x
theorem permV.refl (m : Nat) (r : Nat → Nat) : permV m r r := fun _ => rfl
theorem permV.trans {m : Nat} {r r' r'' : Nat → Nat} (h : permV m r r') (g : permV m r' r'') : permV m r r'' := fun x => (h x).trans (g x)
/-- a hole moves -/
theorem permV.hole {m : Nat} (r : Nat → Nat) {a b : Nat} (ha : a < m) (hb : b < m) (v : Nat) (hab : a ≠ b) : permV m (updN r a v) (updN (updN r a (r b)) b v) := by
  intro x
  have h1 := cntV_upd r v x m a ha
  have h2 := cntV_upd r (r b) x m a ha
  have h3 := cntV_upd (updN r a (r b)) v x m b hb
  rw [updN_o (fun z => hab z.symm)] at h3
  omega
def sortV (m : Nat) (r : Nat → Nat) : Prop := ∀ a b, a < b → b < m → r a ≤ r b
/-- the row -/
def cRw (m : Nat) (r : Nat → Nat) (h : AH) : Prop := ∀ a, a < m → hI h 127 a = nI (r a)
section S62
variable {h h' : AH}
theorem sp_sort_fin {m g k v t : Nat} (hm : m ≤ 1620) (hk : k < m) (hv : v < 524288) (htk : t ≤ k) {r : Nat → Nat} {h1 : AH} (fr1 : fr [(127, none)] h h1) (c : cRw m r h1) (bd : ∀ a, a < m → r a < 524288) (so : g = 1 → ((∀ a b, a < b → b ≤ k → a ≠ t → b ≠ t → r a ≤ r b) ∧ ∀ a, t < a → a ≤ k → v ≤ r a) ∧ (t = 0 ∨ r (t - 1) ≤ v)) : ∃ r' h2, fr [(127, none)] h h2 ∧ cRw m r' h2 ∧ (∀ a, a < m → r' a < 524288) ∧ permV m (updN r t v) r' ∧ (g = 1 → sortV (k + 1) r') ∧ ∀ R, XX true 1 43 10 [.ref 123, .int (nI m), .int (nI g), .int (nI (k + 1)), ax_junk, ax_junk] [] (h2) (R) → XX true 1 43 71 [.ref 123, .int (nI m), .int (nI g), .int (nI k), .int (nI v), .int (nI t)] [] (h1) (R) := by
  refine ⟨updN r t v, ax_wr h1 127 t (.int (nI v)), fr1.wr' (by simp [inS]), fun a ha => ?_, fun a ha => ?_, permV.refl _ _, fun e => ?_, fun R u => ?_⟩
  · by_cases z : a = t
    · rw [z, updN_s, wr_I]
    · rw [updN_o z, wr_Ij z]
      exact c a ha
  · by_cases z : a = t
    · rw [z, updN_s]; exact hv
    · rw [updN_o z]; exact bd a ha
  · intro a b hab hb
    obtain ⟨⟨A, Bq⟩, E⟩ := so e
    by_cases z : a = t
    · rw [z, updN_s, updN_o (by omega)]
      exact Bq b (by omega) (by omega)
    · rw [updN_o z]
      by_cases y : b = t
      · rw [y, updN_s]
        have E2 := E.resolve_left (by omega)
        by_cases w : a = t - 1
        · rw [w]; exact E2
        · exact Nat.le_trans (A a (t - 1) (by omega) (by omega) z (by omega)) E2
      · rw [updN_o y]
        exact A a b hab (by omega) z y
  · refine wb_X5_sort_71 ?_
    rw [nI_s, ix_nI (by omega)]
    exact ⟨in_nI (by omega) (by decide), u⟩
theorem sp_sort_in {m g k v : Nat} (hg : 1 ≤ g) (hg2 : g ≤ 1620) (hm : m ≤ 1620) (hk : k < m) (hv : v < 524288) : ∀ f t, t ≤ f → t ≤ k → ∀ r h1, fr [(127, none)] h h1 → cRw m r h1 → (∀ a, a < m → r a < 524288) → (g = 1 → (∀ a b, a < b → b ≤ k → a ≠ t → b ≠ t → r a ≤ r b) ∧ ∀ a, t < a → a ≤ k → v ≤ r a) → ∃ r' h2, fr [(127, none)] h h2 ∧ cRw m r' h2 ∧ (∀ a, a < m → r' a < 524288) ∧ permV m (updN r t v) r' ∧ (g = 1 → sortV (k + 1) r') ∧ ∀ R, XX true 1 43 10 [.ref 123, .int (nI m), .int (nI g), .int (nI (k + 1)), ax_junk, ax_junk] [] (h2) (R) → XX true 1 43 26 [.ref 123, .int (nI m), .int (nI g), .int (nI k), .int (nI v), .int (nI t)] [] (h1) (R) := by
  intro f
  induction f with
  | zero =>
    intro t ht htk r h1 fr1 c bd so
    obtain rfl : t = 0 := by omega
    obtain ⟨r', h2, x1, x2, x3, x4, x5, x6⟩ := sp_sort_fin (g := g) hm hk hv htk fr1 c bd (fun e => ⟨so e, Or.inl rfl⟩)
    refine ⟨r', h2, x1, x2, x3, x4, x5, fun R u => ?_⟩
    refine wb_X5_sort_26 ?_
    rw [if_pos (nI_lt (by omega) (by omega))]
    exact x6 R u
  | succ f ih =>
    intro t ht htk r h1 fr1 c bd so
    by_cases q : t < g
    · obtain ⟨r', h2, x1, x2, x3, x4, x5, x6⟩ := sp_sort_fin (g := g) hm hk hv htk fr1 c bd (fun e => ⟨so e, Or.inl (by omega)⟩)
      refine ⟨r', h2, x1, x2, x3, x4, x5, fun R u => ?_⟩
      refine wb_X5_sort_26 ?_
      rw [if_pos (nI_lt (by omega) (by omega))]
      exact x6 R u
    · have bt := bd (t - g) (by omega)
      by_cases y : r (t - g) ≤ v
      · obtain ⟨r', h2, x1, x2, x3, x4, x5, x6⟩ := sp_sort_fin (g := g) hm hk hv htk fr1 c bd (fun e => ⟨so e, Or.inr (by rw [e] at y; exact y)⟩)
        refine ⟨r', h2, x1, x2, x3, x4, x5, fun R u => ?_⟩
        refine wb_X5_sort_26 ?_
        rw [if_neg (nI_nlt (by omega) (by omega)), nI_subI (by omega), ix_nI (by omega), c (t - g) (by omega)]
        refine ⟨in_nI (by omega) (by decide), ?_⟩
        rw [if_pos (nI_le y (by omega))]
        exact x6 R u
      · obtain ⟨r', h2, x1, x2, x3, x4, x5, x6⟩ := ih (t - g) (by omega) (by omega) (updN r t (r (t - g))) (ax_wr h1 127 t (.int (nI (r (t - g))))) (fr1.wr' (by simp [inS])) (fun a ha => by
          by_cases z : a = t
          · rw [z, updN_s, wr_I]
          · rw [updN_o z, wr_Ij z]
            exact c a ha) (fun a ha => by
          by_cases z : a = t
          · rw [z, updN_s]; exact bt
          · rw [updN_o z]; exact bd a ha) (fun e => by
          subst e
          obtain ⟨A, Bq⟩ := so rfl
          refine ⟨fun a b hab hb na nb => ?_, fun a ha hk => ?_⟩
          · by_cases z : b = t
            · rw [z, updN_s, updN_o (by omega)]
              exact A a (t - 1) (by omega) (by omega) (by omega) (by omega)
            · rw [updN_o z]
              by_cases w : a = t
              · rw [w, updN_s]
                exact A (t - 1) b (by omega) hb (by omega) z
              · rw [updN_o w]
                exact A a b hab hb w z
          · by_cases z : a = t
            · rw [z, updN_s]; omega
            · rw [updN_o z]
              exact Bq a (by omega) hk)
        refine ⟨r', h2, x1, x2, x3, (permV.hole r (by omega) (by omega) v (by omega)).trans x4, x5, fun R u => ?_⟩
        refine wb_X5_sort_26 ?_
        rw [if_neg (nI_nlt (by omega) (by omega)), nI_subI (by omega), ix_nI (by omega), ix_nI (by omega), c (t - g) (by omega)]
        refine ⟨in_nI (by omega) (by decide), ?_⟩
        rw [if_neg (fun z => y ((nI_leI (by omega) (by omega)).mp z))]
        exact ⟨in_nI (by omega) (by decide), in_nI (by omega) (by decide), x6 R u⟩
theorem sp_sort_mid {m g : Nat} (hg : 1 ≤ g) (hg2 : g ≤ 1620) (hm : m ≤ 1620) : ∀ f k, k + f = m → ∀ r h1, fr [(127, none)] h h1 → cRw m r h1 → (∀ a, a < m → r a < 524288) → (g = 1 → sortV k r) → ∃ r' h2, fr [(127, none)] h h2 ∧ cRw m r' h2 ∧ (∀ a, a < m → r' a < 524288) ∧ permV m r r' ∧ (g = 1 → sortV m r') ∧ ∀ R, XX true 1 43 4 [.ref 123, .int (nI m), .int (nI (g / 2)), ax_junk, ax_junk, ax_junk] [] (h2) (R) → XX true 1 43 10 [.ref 123, .int (nI m), .int (nI g), .int (nI k), ax_junk, ax_junk] [] (h1) (R) := by
  intro f
  induction f with
  | zero =>
    intro k hk r h1 fr1 c bd so
    obtain rfl : k = m := hk
    refine ⟨r, h1, fr1, c, bd, permV.refl _ _, so, fun R u => ?_⟩
    refine wb_X5_sort_10 ?_
    rw [if_neg (nI_nlt (Nat.le_refl _) (by omega)), nI_divI (by omega) (by omega)]
    exact ⟨by decide, u⟩
  | succ f ih =>
    intro k hk r h1 fr1 c bd so
    obtain ⟨r1, h2, x1, x2, x3, x4, x5, x6⟩ := sp_sort_in (h := h) hg hg2 hm (k := k) (by omega) (bd k (by omega)) k k (Nat.le_refl _) (Nat.le_refl _) r h1 fr1 c bd (fun e => ⟨fun a b hab hb na nb => so e a b hab (by omega), fun a ha hb => absurd hb (by omega)⟩)
    have eu : updN r k (r k) = r := updN_self r k
    rw [eu] at x4
    obtain ⟨r2, h3, y1, y2, y3, y4, y5, y6⟩ := ih (k + 1) (by omega) r1 h2 x1 x2 x3 x5
    refine ⟨r2, h3, y1, y2, y3, x4.trans y4, y5, fun R u => ?_⟩
    refine wb_X5_sort_10 ?_
    rw [if_pos (nI_lt (by omega) (by omega)), ix_nI (by omega), c k (by omega)]
    exact ⟨in_nI (by omega) (by decide), x6 R (y6 R u)⟩
theorem sp_sort_gap {m : Nat} (hm : m ≤ 1620) : ∀ f g, g ≤ f → 1 ≤ g → g ≤ m → ∀ r h1, fr [(127, none)] h h1 → cRw m r h1 → (∀ a, a < m → r a < 524288) → ∃ r' h', XX true 1 43 4 [.ref 123, .int (nI m), .int (nI g), ax_junk, ax_junk, ax_junk] [] (h1) ((none, h')) ∧ fr [(127, none)] h h' ∧ cRw m r' h' ∧ (∀ a, a < m → r' a < 524288) ∧ permV m r r' ∧ sortV m r' := by
  intro f
  induction f with
  | zero => intro g h0 h1; exact absurd h1 (by omega)
  | succ f ih =>
    intro g hf hg hgm r h1 fr1 c bd
    obtain ⟨r1, h2, x1, x2, x3, x4, x5, x6⟩ := sp_sort_mid (h := h) hg (by omega) hm (m - g) g (by omega) r h1 fr1 c bd (fun e a b hab hb => by omega)
    by_cases z : g = 1
    · refine ⟨r1, h2, ?_, x1, x2, x3, x4, x5 z⟩
      refine wb_X5_sort_4 ?_
      rw [if_neg (nI_p (by omega) (by omega))]
      refine x6 _ ?_
      refine wb_X5_sort_4 ?_
      rw [z, if_pos (by decide)]
    · obtain ⟨r2, h', y, y1, y2, y3, y4, y5⟩ := ih (g / 2) (by omega) (by omega) (by omega) r1 h2 x1 x2 x3
      refine ⟨r2, h', ?_, y1, y2, y3, x4.trans y4, y5⟩
      refine wb_X5_sort_4 ?_
      rw [if_neg (nI_p (by omega) (by omega))]
      exact x6 _ y
theorem sp_sort {m : Nat} (hm : m ≤ 1620) {r : Nat → Nat} (c : cRw m r h) (bd : ∀ a, a < m → r a < 524288) : ∃ r' h', XX true 1 43 0 [.ref 123, .int (nI m), ax_junk, ax_junk, ax_junk, ax_junk] [] (h) (none, h') ∧ fr [(127, none)] h h' ∧ cRw m r' h' ∧ (∀ a, a < m → r' a < 524288) ∧ permV m r r' ∧ sortV m r' := by
  by_cases z : m / 2 = 0
  · refine ⟨r, h, ?_, fr.rfl', c, bd, permV.refl _ _, fun a b hab hb => by omega⟩
    refine wb_X5_sort_0 ?_
    rw [nI_divI (by omega) (by omega), z]
    refine ⟨by decide, ?_⟩
    refine wb_X5_sort_4 ?_
    rw [if_pos (by decide)]
  · obtain ⟨r', h', x, y⟩ := sp_sort_gap (h := h) hm (m / 2) (m / 2) (Nat.le_refl _) (by omega) (by omega) r h fr.rfl' c bd
    refine ⟨r', h', ?_, y⟩
    refine wb_X5_sort_0 ?_
    rw [nI_divI (by omega) (by omega)]
    exact ⟨by decide, x⟩
end S62
