/-! THE LAW's OWN GAME: all ways, in rows -/
def v_tail (c : Nat) (K B : Nat → Nat) : Nat → Nat → Nat
  | _, 0 => 1
  | i, k + 1 => v_opt c K B i * v_tail c K B (i + 1) k
theorem v_tail_ways (c : Nat) (K B : Nat → Nat) : ∀ k i, v_ways c K B i * v_tail c K B i k = v_ways c K B (i + k)
  | 0, i => Nat.mul_one _
  | k + 1, i => by
    show v_ways c K B i * (v_opt c K B i * v_tail c K B (i + 1) k) = _
    rw [← Nat.mul_assoc, show i + (k + 1) = (i + 1) + k by omega]
    exact v_tail_ways c K B k (i + 1)
/-- how many below aren't gone -/
def v_free (g : Nat) : Nat → Nat
  | 0 => 0
  | e + 1 => v_free g e + (if g.testBit e = true then 0 else 1)
theorem free_sel : ∀ g, g < 32 → ∀ e, e < 5 → g.testBit e = false → v_sel g 10 0 (v_free g e) = e := by decide +kernel
theorem free_all : ∀ c, c < 6 → ∀ g, g < 2 ^ c → v_free g c = c - v_pc g := by decide +kernel
theorem free_lt : ∀ c, c < 6 → ∀ g, g < 2 ^ c → ∀ e, e < c → g.testBit e = false → v_free g e < c - v_pc g := by decide +kernel
/-- a row that holds a way -/
def yW (h : AH) (r j : Nat) (e : Nat → Nat) : Prop := yA h r 6 ∧ ∀ a, a < j → hI h r a = nI (e a)
theorem yW.y {k : Nat} {X : Nat → Prop} {h h' : AH} {r j : Nat} {e : Nat → Nat} (s : yW h r j e) (f : fy k X h h') (q : ¬ X r) : yW h' r j e := ⟨s.1.y f, fun a ha => (f.I s.1.2.1 q).trans (s.2 a ha)⟩
theorem yA_ne {h : AH} {a b n m : Nat} (s : yA h a n) (t : yM h b m) : a ≠ b := fun e => by
  have h1 := s.2.2
  have h2 := t.2.2
  rw [e, h2] at h1
  omega
theorem toR_n : toR Value.null = Value.null := rfl
section S85
variable {c n : Nat} {K P B : Nat → Nat} {h h' : AH}
theorem v_u {c n : Nat} {K P B : Nat → Nat} (s : okS c n K P B) {i : Nat} (hi : i < n) {u d : Nat} (hd : d < v_opt c K B i) : (u * v_opt c K B i + d) / v_opt c K B i = u ∧ (u * v_opt c K B i + d) % v_opt c K B i = d := by
  have o := v_opt_pos s hi
  rw [Nat.mul_comm]
  exact ⟨by rw [Nat.mul_add_div (by omega), Nat.div_eq_of_lt hd, Nat.add_zero], by rw [Nat.mul_add_mod, Nat.mod_eq_of_lt hd]⟩
/-- what a run of goes has done -/
def goD (c : Nat) (K B : Nat → Nat) (A Rw i j lo hi k : Nat) (h h' : AH) : Prop := fy k (fun a => a = A ∨ a = Rw) h h' ∧ (∀ w, w < lo → h'.1 A w = h.1 A w) ∧ (∀ w, lo ≤ w → w < hi → ∃ r, hR h' A w = rf r ∧ h.2.2.1 ≤ r ∧ yW h' r j (v_what c K B j w)) ∧ ∀ a, a < i → hI h' Rw a = hI h Rw a
theorem so_goes {j A Rw : Nat} (hj : j ≤ n) : ∀ k i, i + k = j → ∀ u, u < v_ways c K B i → ∀ h, oS c n K P B h → yM h A 1620 → yW h Rw i (v_what c K B i u) → ∃ h', XX true (k + 2) 79 0 [.ref 153, rf (A), rf (Rw), .int (nI i), .int (nI (v_gone c K B i u)), .int (nI j), .int (nI (u * v_tail c K B i k)), ax_junk, ax_junk, ax_junk] [] (h) (some (.int (nI ((u + 1) * v_tail c K B i k))), h') ∧ goD c K B A Rw i j (u * v_tail c K B i k) ((u + 1) * v_tail c K B i k) (v_tail c K B i k * 7) h h' := by
  intro k
  induction k with
  | zero =>
    intro i hi u hu h s yQ yR
    obtain rfl : i = j := hi
    have w6 := v_ways_le s.ok hj
    have n6 := s.n6
    have h1 := yQ.1
    have h2 := yR.1.1
    have r1 := yQ.2.1
    have r2 := yR.1.2.1
    have ne := yA_ne yR.1 yQ
    have al := s.al
    have yN : yM (mkC h Rw 6) A 1620 := ⟨h1, Nat.lt_succ_of_lt r1, (if_neg (by omega)).trans yQ.2.2⟩
    have yR' : yA (mkC h Rw 6) h.2.2.1 6 := yA.new al _
    have e1 : v_tail c K B i 0 = 1 := rfl
    rw [e1, Nat.mul_one, Nat.mul_one]
    refine ⟨ax_wr (mkC h Rw 6) A u (rf h.2.2.1), ?_, ?_⟩
    · refine wb_X12_goes_0 ?_
      rw [if_pos rfl, ix_nI (by omega), nI_s]
      exact ⟨6, ⟨yR.1.d, by omega, al, by decide⟩, yR'.c, 1620, yN.d, in_nI (by omega) (by decide), yN.w _, yR'.c, rfl⟩
    · refine ⟨(((fy.rf _ h).mk).wr (Or.inl (Or.inl rfl))).mono (fun _ z => z) (by decide), fun w hw => ?_, fun w h3 h4 => ?_, fun a ha => ?_⟩
      · show (if A = A ∧ w = u then _ else (if A = h.2.2.1 then _ else h.1 A w)) = _
        rw [if_neg (by omega), if_neg (by omega)]
      · obtain rfl : w = u := by omega
        refine ⟨h.2.2.1, by rw [wr_R, toR_rf], Nat.le_refl _, yR'.wr _ _ _, fun a ha => ?_⟩
        rw [wr_Ia (by omega)]
        show toI (if h.2.2.1 = h.2.2.1 then Value.int (toI (h.1 Rw a)) else _) = _
        rw [if_pos rfl]
        exact yR.2 a ha
      · rw [wr_Ia ne]
        show toI (if Rw = h.2.2.1 then _ else h.1 Rw a) = _
        rw [if_neg (by omega)]
        rfl
  | succ k ih =>
    intro i hi u hu h s yQ yR
    have n6 := s.n6
    have c5 := s.ok.2.1
    have kk := s.ok.2.2.2 i (by omega)
    have op := v_opt_pos s.ok (i := i) (by omega)
    have go := v_gone_ok s.ok i u (by omega)
    have g32 : v_gone c K B i u < 32 := Nat.lt_of_lt_of_le go.1 (Nat.pow_le_pow_right (by decide) c5)
    have wj := v_ways_le s.ok hj
    have wt := v_tail_ways c K B (k + 1) i
    rw [hi] at wt
    have eT : v_tail c K B i (k + 1) = v_opt c K B i * v_tail c K B (i + 1) k := rfl
    have ne := yA_ne yR.1 yQ
    have r1 := yQ.2.1
    have r2 := yR.1.2.1
    generalize hT : v_tail c K B (i + 1) k = T at *
    -- all of it is below the end
    have top : (u + 1) * (v_opt c K B i * T) ≤ 1620 := by
      rw [← eT]
      exact Nat.le_trans (Nat.mul_le_mul_right _ hu) (by rw [wt]; exact wj)
    have ii : ax_in (nI i) 6 = true := in_nI (by omega) (by decide)
    let D := fun (d : Nat) (h1 : AH) => goD c K B A Rw i j (u * (v_opt c K B i * T)) (u * (v_opt c K B i * T) + d * T) (d * T * 7) h h1
    -- one of the options
    have one : ∀ d e h1, d < v_opt c K B i → e < 5 → v_evt c K B i (u * v_opt c K B i + d) = e → D d h1 → ∃ h2, D (d + 1) h2 ∧ ∀ t R, XX true (k+1+2) 79 150 [.ref 153, rf (A), rf (Rw), .int (nI i), .int (nI (v_gone c K B i u)), .int (nI j), ax_junk, .int (nI (u * (v_opt c K B i * T) + (d + 1) * T)), .int (t), .int (nI e)] [] (h2) (R) → XX true (k+1+2) 79 108 [.ref 153, rf (A), rf (Rw), .int (nI i), .int (nI (v_gone c K B i u)), .int (nI j), ax_junk, .int (nI (u * (v_opt c K B i * T) + d * T)), .int (t), .int (nI e)] [] (h1) (R) := by
      intro d e h1 hd he ev hD
      obtain ⟨f, D1, D2, D3⟩ := hD
      have s1 : oS c n K P B h1 := s.y f (fun a z => by have := yQ.1; have := yR.1.1; rcases z with z | z <;> omega)
      have yQ1 := yQ.y f
      have yR1 := yR.1.y f
      have vu := v_u s.ok (i := i) (u := u) (by omega) hd
      have lt' : u * v_opt c K B i + d < v_ways c K B (i + 1) := by
        show _ < v_ways c K B i * v_opt c K B i
        calc u * v_opt c K B i + d < u * v_opt c K B i + v_opt c K B i := by omega
          _ = (u + 1) * v_opt c K B i := by rw [Nat.add_mul, Nat.one_mul]
          _ ≤ _ := Nat.mul_le_mul_right _ hu
      -- the words of the child
      have e1 : u * (v_opt c K B i * T) + d * T = (u * v_opt c K B i + d) * T := by rw [Nat.add_mul, Nat.mul_assoc]
      have e2 : u * (v_opt c K B i * T) + (d + 1) * T = (u * v_opt c K B i + d + 1) * T := by rw [Nat.add_mul (u * v_opt c K B i + d), ← e1, Nat.add_mul d, Nat.one_mul, Nat.add_assoc]
      have gn : v_gone c K B (i + 1) (u * v_opt c K B i + d) = if isCd (K i) then v_gone c K B i u ||| 1 <<< e else v_gone c K B i u := by
        show (if isCd (K i) then _ else _) = _
        have ev' := ev
        unfold v_evt at ev'
        by_cases q : isCd (K i)
        · rw [if_pos q] at ev'
          rw [if_pos q, if_pos q, ev', vu.1]
        · rw [if_neg q, if_neg q, vu.1]
      have yR2 : yW (ax_wr h1 Rw i (.int (nI e))) Rw (i + 1) (v_what c K B (i + 1) (u * v_opt c K B i + d)) := by
        refine ⟨yR1.wr _ _ _, fun a ha => ?_⟩
        show _ = nI (if a = i then v_evt c K B i (u * v_opt c K B i + d) else v_what c K B i ((u * v_opt c K B i + d) / v_opt c K B i) a)
        by_cases z : a = i
        · rw [if_pos z, z, wr_I, ev]
        · rw [if_neg z, wr_Ij z, vu.1]
          exact (D3 a (by omega)).trans (yR.2 a (by omega))
      obtain ⟨h2, x, f2, G1, G2, G3⟩ := ih (i + 1) (by omega) (u * v_opt c K B i + d) lt' (ax_wr h1 Rw i (.int (nI e))) (s1.y ((fy.rf (fun a => a = Rw) h1).wr (Or.inl rfl)) (fun a z => by have := yR.1.1; omega)) (yQ1.wr _ _ _) yR2
      rw [hT] at x f2 G1 G2
      have al1 : h.2.2.1 ≤ h1.2.2.1 := f.1
      refine ⟨h2, ⟨?_, fun w hw => ?_, fun w w1 w2 => ?_, fun a ha => ?_⟩, fun t R y => ?_⟩
      · have f3 := (f.trans (((fy.rf (fun a => a = Rw) h1).wr (a := Rw) (j := i) (v := .int (nI e)) (Or.inl rfl)).mono (Y := fun a => a = A ∨ a = Rw) (fun _ z => Or.inr z) (Nat.le_refl 0)) (fun _ z => Or.inl z)).trans f2 (fun _ z => Or.inl z)
        refine f3.mono (fun _ z => z) ?_
        rw [Nat.add_mul d, Nat.one_mul, Nat.add_mul]
        omega
      · rw [G1 w (by omega)]
        show (if A = Rw ∧ w = i then _ else h1.1 A w) = _
        rw [if_neg (fun z => ne z.1.symm)]
        exact D1 w hw
      · by_cases z : w < u * (v_opt c K B i * T) + d * T
        · obtain ⟨r, z1, z2, z3⟩ := D2 w w1 z
          have nA : r ≠ A := by omega
          have nR : r ≠ Rw := by omega
          refine ⟨r, ?_, z2, ?_⟩
          · show toR (h2.1 A w) = _
            rw [G1 w (by omega)]
            show hR (ax_wr h1 Rw i _) A w = _
            rw [wr_Ra (fun z => ne z.symm)]
            exact z1
          · have z4 : yW (ax_wr h1 Rw i (.int (nI e))) r j (v_what c K B j w) := ⟨z3.1.wr _ _ _, fun a ha => (wr_Ia nR).trans (z3.2 a ha)⟩
            exact z4.y f2 (fun z => z.elim nA nR)
        · obtain ⟨r, z1, z2, z3⟩ := G2 w (by omega) (by omega)
          exact ⟨r, z1, Nat.le_trans al1 z2, z3⟩
      · rw [G3 a (by omega), wr_Ij (by omega)]
        exact D3 a ha
      · refine wb_X12_goes_108 ?_
        rw [ix_nI (by omega)]
        refine ⟨6, yR1.d, ii, yR1.w _, ii, ?_⟩
        rw [e2] at y
        rw [e1]
        have K1 : hI (ax_wr h1 Rw i (.int (nI e))) 155 i = nI (K i) := (wr_Ia (by have := yR.1.1; omega)).trans (s1.KK (by omega))
        rw [K1]
        by_cases q : isCd (K i)
        · rw [if_pos q] at gn
          rw [gn] at x
          rw [if_pos (nI_lt (by omega) (by decide)), v_orb _ g32 _ he, nI_s]
          refine wb_X12_goes_141 ?_
          refine cl_X12_goes_145 rfl (by omega) (x) ?_
          refine wb_X12_goes_148 ?_
          exact y
        · rw [if_neg q] at gn
          rw [gn] at x
          rw [if_neg (nI_nlt (by omega) (by omega)), nI_s]
          refine wb_X12_goes_141 ?_
          refine cl_X12_goes_145 rfl (by omega) (x) ?_
          refine wb_X12_goes_148 ?_
          exact y
    have sl : isCd (K i) → ∀ d, d < v_opt c K B i → v_evt c K B i (u * v_opt c K B i + d) = v_sel (v_gone c K B i u) 10 0 d := fun q d hd => by
      unfold v_evt
      rw [if_pos q, (v_u s.ok (by omega) hd).1, (v_u s.ok (by omega) hd).2]
    have sm : ¬ isCd (K i) → ∀ d, d < v_opt c K B i → v_evt c K B i (u * v_opt c K B i + d) = d := fun q d hd => by
      unfold v_evt
      rw [if_neg q, (v_u s.ok (by omega) hd).2]
    have oc : isCd (K i) → v_opt c K B i = c - v_out K i := fun q => if_pos q
    have fe : (u + 1) * (v_opt c K B i * T) = u * (v_opt c K B i * T) + v_opt c K B i * T := by rw [Nat.add_mul, Nat.one_mul]
    have lp : ∀ to, to < 6 → (isCd (K i) → to = c) → (¬ isCd (K i) → to = v_opt c K B i) → ∀ m e d h1, e + m = to → (isCd (K i) → d = v_free (v_gone c K B i u) e) → (¬ isCd (K i) → d = e) → D d h1 → ∃ h', XX true (k+1+2) 79 78 [.ref 153, rf (A), rf (Rw), .int (nI i), .int (nI (v_gone c K B i u)), .int (nI j), ax_junk, .int (nI (u * (v_opt c K B i * T) + d * T)), .int (nI to), .int (nI e)] [] (h1) ((some (.int (nI ((u + 1) * (v_opt c K B i * T)))), h')) ∧ D (v_opt c K B i) h' := by
      intro to t6 tc tn m
      induction m with
      | zero =>
        intro e d h1 he dc dn hD
        obtain rfl : e = to := he
        have ed : d = v_opt c K B i := by
          by_cases q : isCd (K i)
          · rw [dc q, tc q, oc q, free_all c (by omega) _ go.1, go.2]
          · rw [dn q, tn q]
        refine ⟨h1, ?_, ed ▸ hD⟩
        refine wb_X12_goes_78 ?_
        rw [if_neg (nI_nlt (Nat.le_refl _) (by omega)), ed, fe]
      | succ m ihm =>
        intro e d h1 he dc dn hD
        have s1 : oS c n K P B h1 := s.y hD.1 (fun a z => by have := yQ.1; have := yR.1.1; rcases z with z | z <;> omega)
        have K1 : hI h1 155 i = nI (K i) := s1.KK (by omega)
        by_cases q : isCd (K i)
        · by_cases r : (v_gone c K B i u).testBit e = true
          · obtain ⟨h', x, y⟩ := ihm (e + 1) d h1 (by omega) (fun _ => by
              rw [dc q]
              show _ = v_free _ e + (if (v_gone c K B i u).testBit e = true then 0 else 1)
              rw [if_pos r]; rfl) (fun z => absurd q z) hD
            refine ⟨h', ?_, y⟩
            refine wb_X12_goes_78 ?_
            rw [if_pos (nI_lt (by omega) (by omega)), ix_nI (by omega), K1, if_pos (nI_lt (by omega) (by decide))]
            refine ⟨ii, ?_⟩
            refine cl_X12_goes_99 rfl (by omega) ((so_has5 g32 (p := e) (by omega) h1).mono (Nat.le_add_left 1 (k + 1))) ?_
            refine wb_X12_goes_102 ?_
            rw [b2i_t r, if_neg (by decide)]
            refine wb_X12_goes_150 ?_
            rw [nI_s]
            exact x
          · have rf' : (v_gone c K B i u).testBit e = false := by simpa using r
            have ec : e < c := by rw [← tc q]; omega
            have lt := free_lt c (by omega) _ go.1 e ec rf'
            rw [go.2, ← oc q, ← dc q] at lt
            obtain ⟨h2, y2, z2⟩ := one d e h1 lt (by omega) (by rw [sl q d lt, dc q]; exact free_sel _ g32 e (by omega) rf') hD
            obtain ⟨h', x, y⟩ := ihm (e + 1) (d + 1) h2 (by omega) (fun _ => by
              rw [dc q]
              show _ = v_free _ e + (if (v_gone c K B i u).testBit e = true then 0 else 1)
              rw [if_neg r]) (fun z => absurd q z) y2
            refine ⟨h', ?_, y⟩
            refine wb_X12_goes_78 ?_
            rw [if_pos (nI_lt (by omega) (by omega)), ix_nI (by omega), K1, if_pos (nI_lt (by omega) (by decide))]
            refine ⟨ii, ?_⟩
            refine cl_X12_goes_99 rfl (by omega) ((so_has5 g32 (p := e) (by omega) h1).mono (Nat.le_add_left 1 (k + 1))) ?_
            refine wb_X12_goes_102 ?_
            rw [b2i_f r, if_pos rfl]
            refine z2 _ _ ?_
            refine wb_X12_goes_150 ?_
            rw [nI_s]
            exact x
        · have lt : d < v_opt c K B i := by rw [dn q, ← tn q]; omega
          obtain ⟨h2, y2, z2⟩ := one d e h1 lt (by omega) (by rw [sm q d lt, dn q]) hD
          obtain ⟨h', x, y⟩ := ihm (e + 1) (d + 1) h2 (by omega) (fun z => absurd z q) (fun _ => by rw [dn q]) y2
          refine ⟨h', ?_, y⟩
          refine wb_X12_goes_78 ?_
          rw [if_pos (nI_lt (by omega) (by omega)), ix_nI (by omega), K1, if_neg (nI_nlt (by omega) (by omega))]
          refine ⟨ii, z2 _ _ ?_⟩
          refine wb_X12_goes_150 ?_
          rw [nI_s]
          exact x
    have D0 : D 0 h := ⟨(fy.rf _ h).mono (fun _ z => z) (Nat.zero_le _), fun _ _ => rfl, fun w h1 h2 => by omega, fun _ _ => rfl⟩
    have fin : ∀ to, to < 6 → (isCd (K i) → to = c) → (¬ isCd (K i) → to = v_opt c K B i) → ∃ h', XX true (k+1+2) 79 73 [.ref 153, rf (A), rf (Rw), .int (nI i), .int (nI (v_gone c K B i u)), .int (nI j), ax_junk, .int (nI (u * (v_opt c K B i * T))), ax_junk, ax_junk] [.int (nI to)] (h) ((some (.int (nI ((u + 1) * (v_opt c K B i * T)))), h')) ∧ D (v_opt c K B i) h' := by
      intro to t6 tc tn
      obtain ⟨h', x, y⟩ := lp to t6 tc tn to 0 0 h (by omega) (fun _ => rfl) (fun _ => rfl) D0
      refine ⟨h', ?_, y⟩
      refine wb_X12_goes_73 ?_
      rw [show u * (v_opt c K B i * T) + 0 * T = u * (v_opt c K B i * T) by omega] at x
      exact x
    have ij : ¬ nI i = nI j := fun y => by have := (nI_eq (by omega) (by omega)).mp y; omega
    rw [eT, fe]
    rw [fe] at fin
    by_cases q : isCd (K i)
    · obtain ⟨h', x, y⟩ := fin c (by omega) (fun _ => rfl) (fun z => absurd q z)
      refine ⟨h', ?_, y⟩
      refine wb_X12_goes_0 ?_
      rw [if_neg ij, ix_nI (by omega), s.KK (by omega), s.mm, if_pos (nI_lt (by omega) (by decide))]
      exact ⟨ii, x⟩
    · obtain ⟨h', x, y⟩ := fin (v_opt c K B i) (by omega) (fun z => absurd z q) (fun _ => rfl)
      refine ⟨h', ?_, y⟩
      refine wb_X12_goes_0 ?_
      rw [if_neg ij, ix_nI (by omega), s.KK (by omega), s.BB (by omega), if_neg (nI_nlt (by omega) (by omega))]
      refine ⟨ii, ii, ?_⟩
      by_cases q4 : K i = 4
      · rw [if_pos (by rw [q4])]
        refine wb_X12_goes_63 ?_
        rw [show v_opt c K B i = 1 by unfold v_opt; rw [if_neg q, if_neg (by omega)]] at x ⊢
        exact x
      · rw [if_neg (fun y => q4 ((nI_eq (by omega) (by omega)).mp y))]
        refine ⟨ii, ?_⟩
        by_cases q5 : K i = 5
        · rw [if_pos (by rw [q5])]
          refine wb_X12_goes_63 ?_
          rw [show v_opt c K B i = 1 by unfold v_opt; rw [if_neg q, if_neg (by omega)]] at x ⊢
          exact x
        · rw [if_neg (fun y => q5 ((nI_eq (by omega) (by omega)).mp y))]
          rw [show v_opt c K B i = B i by unfold v_opt; rw [if_neg q, if_pos (by omega)]] at x ⊢
          exact ⟨ii, x⟩
/-- all ways behind j stages, in their order -/
def yWs (c : Nat) (K B : Nat → Nat) (h0 h : AH) (r j : Nat) : Prop := yM h r (v_ways c K B j) ∧ h0.2.2.1 ≤ r ∧ ∀ w, w < v_ways c K B j → ∃ a, hR h r w = rf a ∧ h0.2.2.1 ≤ a ∧ yW h a j (v_what c K B j w)
theorem so_ways (s : oS c n K P B h) {j : Nat} (hj : j ≤ n) : ∃ h' r, XX true 15 78 0 [.ref 153, .int (nI j), ax_junk, ax_junk, ax_junk, ax_junk] [] (h) (some (rf (r)), h') ∧ fy (1629 + 8 * v_ways c K B j) (fun _ => False) h h' ∧ yWs c K B h h' r j := by
  have n6 := s.n6
  have al := s.al
  have wj := v_ways_le s.ok hj
  have wt := v_tail_ways c K B j 0
  rw [show v_ways c K B 0 = 1 from rfl, Nat.one_mul, Nat.zero_add] at wt
  -- two arrays
  have f1 : fy 1621 (fun _ => False) h (mkR h 1620) := (fy.rf _ h).mk.mono (fun _ z => z) (by decide)
  have f2 : fy 1628 (fun _ => False) h (mkI (mkR h 1620) 6) := f1.mk
  have a1 : yM (mkR h 1620) h.2.2.1 1620 := yM.new al _
  have al1 : 168 ≤ (mkR h 1620).2.2.1 := Nat.le_succ_of_le al
  have a2 : yM (mkI (mkR h 1620) 6) h.2.2.1 1620 := a1.y (((fy.rf (fun _ => False) (mkR h 1620)).mk (c := ax_dcd 20 6) (len := 6) (g := fun _ => .int 0)))
  have r2 : yA (mkI (mkR h 1620) 6) (mkR h 1620).2.2.1 6 := yA.new al1 _
  obtain ⟨h2, x2, f3, G1, G2, G3⟩ := so_goes hj j 0 (Nat.zero_add _) 0 (by show 0 < 1; decide) (mkI (mkR h 1620) 6) (s.y f2 (fun _ z => z.elim)) a2 ⟨r2, fun a ha => absurd ha (Nat.not_lt_zero _)⟩
  rw [wt, Nat.zero_mul, Nat.zero_add, Nat.one_mul] at x2
  rw [wt] at f3
  rw [wt, Nat.zero_mul, Nat.zero_add, Nat.one_mul] at G2
  have eR : (mkR h 1620).2.2.1 = h.2.2.1 + 1 := rfl
  have eM : (mkI (mkR h 1620) 6).2.2.1 = h.2.2.1 + 2 := rfl
  have f4 := f2.trans f3 (fun a z => by rcases z with z | z <;> (right; rw [z]; omega))
  have g1 := f3.1
  have f5 : fy (1628 + v_ways c K B j * 7 + (v_ways c K B j + 1)) (fun _ => False) h (mkR h2 (v_ways c K B j)) := f4.mk
  have al2 : 168 ≤ h2.2.2.1 := by omega
  have m5 : yM (mkR h2 (v_ways c K B j)) h2.2.2.1 (v_ways c K B j) := yM.new al2 _
  have fm : fy (0 + (v_ways c K B j + 1)) (fun _ => False) h2 (mkR h2 (v_ways c K B j)) := (fy.rf _ h2).mk
  have a5 : yM (mkR h2 (v_ways c K B j)) h.2.2.1 1620 := (a2.y f3).y fm
  have lp : ∀ m w, w + m = v_ways c K B j → ∀ h1, fy 0 (fun a => a = h2.2.2.1) (mkR h2 (v_ways c K B j)) h1 → (∀ v, v < w → hR h1 h2.2.2.1 v = hR h2 h.2.2.1 v) → ∃ h', XX true 15 78 30 [ax_junk, ax_junk, rf (h.2.2.1), ax_junk, rf (h2.2.2.1), .int (nI w)] [] (h1) ((some (rf h2.2.2.1), h')) ∧ fy 0 (fun a => a = h2.2.2.1) (mkR h2 (v_ways c K B j)) h' ∧ ∀ v, v < v_ways c K B j → hR h' h2.2.2.1 v = hR h2 h.2.2.1 v := by
    intro m
    induction m with
    | zero =>
      intro w hw h1 f o
      obtain rfl : w = v_ways c K B j := hw
      refine ⟨h1, ?_, f, o⟩
      refine wb_X12_ways_30 ?_
      refine ⟨_, (m5.y f).d, ?_⟩
      rw [if_neg (nI_nlt (Nat.le_refl _) (by omega))]
    | succ m ih =>
      intro w hw h1 f o
      obtain ⟨r, z1, z2, z3⟩ := G2 w (Nat.zero_le _) (by omega)
      have ne : h.2.2.1 ≠ h2.2.2.1 := by omega
      have e : hR h1 h.2.2.1 w = rf r := by
        rw [f.R (a5.2.1) ne, fm.R (by omega) (fun z => z)]
        exact z1
      obtain ⟨h', x, y⟩ := ih (w + 1) (by omega) (ax_wr h1 h2.2.2.1 w (rf r)) (f.wr (Or.inl rfl)) (fun v hv => by
        by_cases z : v = w
        · rw [z, wr_R, toR_rf, z1]
        · rw [wr_Rj z]; exact o v (by omega))
      refine ⟨h', ?_, y⟩
      refine wb_X12_ways_30 ?_
      refine ⟨_, (m5.y f).d, ?_⟩
      rw [if_pos (nI_lt (by omega) (by omega)), ix_nI (by omega), (a5.y f).g, e]
      refine ⟨_, (a5.y f).d, in_nI (by omega) (by decide), r, rfl, _, (m5.y f).d, in_nI (by omega) (by omega), (m5.y f).w _, ((z3.1.y fm).y f).c, ?_⟩
      rw [nI_s]
      exact x
  obtain ⟨h', x, f6, o⟩ := lp (v_ways c K B j) 0 (by omega) _ (fy.rf _ _) (fun v hv => absurd hv (Nat.not_lt_zero _))
  refine ⟨h', h2.2.2.1, ?_, (f5.trans f6 (fun a z => by right; rw [z]; omega)).mono (fun _ z => z) (by omega), m5.y f6, by omega, fun w hw => ?_⟩
  · refine wb_X12_ways_0 ?_
    rw [show ix (nI 1620) = 1620 from ix_nI (by decide), show ix (nI 6) = 6 from ix_nI (by decide)]
    refine ⟨⟨al, by decide, by decide⟩, ⟨al1, by decide, by decide⟩, ?_⟩
    refine cl_X12_ways_19 rfl (by omega) (x2) ?_
    refine wb_X12_ways_22 ?_
    rw [ix_nI (by omega)]
    exact ⟨⟨al2, nI_le (Nat.zero_le _) (by omega), by omega⟩, x⟩
  · obtain ⟨r, z1, z2, z3⟩ := G2 w (Nat.zero_le _) hw
    have rl := z3.1.2.1
    exact ⟨r, (o w hw).trans z1, by omega, (z3.y fm (fun z => z)).y f6 (by omega)⟩
end S85
