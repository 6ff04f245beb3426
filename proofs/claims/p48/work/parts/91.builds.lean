/-! THE LAW: what a call that builds does to all that an object holds -/
section S91
variable {c n np nr : Nat} {K P B T C : Nat → Nat} {U : Nat → Nat → Nat} {V W : Nat → Int} {h h' : AH}
theorem tS.y {S : Nat → Nat} {k : Nat} {X : Nat → Prop} (t : tS 0 c n K P B S h) (f : fy k X h h') (q1 : ∀ a, (a = 66 ∨ (68 ≤ a ∧ a < 86)) → ¬ X a) (q2 : ∀ a, 168 ≤ a → ¬ X a) : tS 0 c n K P B S h' := by
  have al := t.al
  have n6 := t.n6
  have I : ∀ {a j}, (a = 66 ∨ (68 ≤ a ∧ a < 86)) → hI h' a j = hI h a j := fun {a j} ha => f.I (by omega) (q1 a ha)
  have R : ∀ {a j}, (a = 66 ∨ (68 ≤ a ∧ a < 86)) → hR h' a j = hR h a j := fun {a j} ha => f.R (by omega) (q1 a ha)
  have sO' : ∀ {a k p b}, sO h a k p b → sO h' a k p b := fun {a k p b} z => by
    obtain ⟨z1, z2, z3, z4, z5, z6⟩ := z
    have nX := q2 a z1
    exact ⟨z1, Nat.lt_of_lt_of_le z2 f.1, (f.2.2.2.2.1 a z2).trans z3, (f.R z2 nX).trans z4, (f.I z2 nX).trans z5, (f.I z2 nX).trans z6⟩
  exact ⟨t.ok, Nat.le_trans al f.1, (I (by omega)).trans t.cc, (I (by omega)).trans t.nn, fun i hi => ⟨(R (by omega)).trans (t.st i hi).1, sO' (t.st i hi).2⟩, fun i hi => (I (by omega)).trans (t.fan i hi), fun i hi => (I (by omega)).trans (t.beh i hi), fun i hi w hw => (I (by omega)).trans (t.bef i hi w hw), fun j hj i hi => (I (by omega)).trans (t.see j hj i hi)⟩
theorem fx.no {k : Nat} {L : List (Nat × Option Nat)} {lo hi : Nat} (q : outS lo hi L = true) (a : Nat) (h1 : lo ≤ a) (h2 : a < hi) : ¬ ∃ j, inS L a j = true := fun ⟨j, e⟩ => by rw [outS_in q h1 h2 j] at e; cases e
theorem fx.hi {L : List (Nat × Option Nat)} (q : (L.all fun p => decide (p.1 < 153)) = true) (a : Nat) (h1 : 168 ≤ a) : ¬ ∃ j, inS L a j = true := fun ⟨j, e⟩ => by have := inS_lt q e; omega
theorem cP.x {k : Nat} {L : List (Nat × Option Nat)} (p : cP 0 np T C h) (f : fx k L h h') (al : 168 ≤ h.2.2.1) (q : outS 87 90 L = true) : cP 0 np T C h' := ⟨p.1, (f.I (by omega) (outS_in q (by omega) (by omega) _)).trans p.2.1, fun k hk => ⟨(p.2.2 k hk).1, (p.2.2 k hk).2.1, (f.I (by omega) (outS_in q (by omega) (by omega) _)).trans (p.2.2 k hk).2.2.1, (f.I (by omega) (outS_in q (by omega) (by omega) _)).trans (p.2.2 k hk).2.2.2⟩⟩
theorem cPl.x {k A : Nat} {L : List (Nat × Option Nat)} (p : cPl A h) (f : fx k L h h') (al : 168 ≤ h.2.2.1) (q : inS L 129 0 = false) (q1 : inS L 129 1 = false) : cPl A h' := ⟨p.1, (f.R (by omega) q).trans p.2.1, (f.R (by omega) q1).trans p.2.2⟩
theorem cK.x {k : Nat} {L : List (Nat × Option Nat)} (p : cK 0 1 h) (f : fx k L h h') (al : 168 ≤ h.2.2.1) (q : inS L 65 7 = false) : cK 0 1 h' := ⟨(f.L (by omega) q).trans p.1, p.2⟩
theorem lg_pack (s : lG c n K P B np T C nr U V W h) {m : Nat} (h1 : 1 ≤ m) (h5 : m ≤ 5) : ∃ h', XX true 3 86 0 [.ref 64, .int (nI m), ax_junk] [] (h) (some (.int (nI c)), h') ∧ fy 0 Xc h h' ∧ lG m 0 K P B 0 T C 0 U V (fun _ => 0) h' := by
  obtain ⟨S, TA, AA, A, t, p, r, ww, kk, pl⟩ := s
  obtain ⟨h', x, f, t', w', p', r', k'⟩ := (co_pack t (nI m)).1 ⟨nI_le h1 (by omega), nI_le h5 (by decide)⟩
  rw [ix_nI (by omega)] at t'
  unfold a_pack at x
  rw [if_pos ⟨nI_le h1 (by omega), nI_le h5 (by decide)⟩] at x
  exact ⟨h', x, f.c rfl, S, TA, AA, A, t', ⟨by decide, p', fun k hk => absurd hk (Nat.not_lt_zero _)⟩, ⟨r', ⟨⟨by decide, fun i hi => absurd hi (Nat.not_lt_zero _)⟩, fun i hi => absurd hi (Nat.not_lt_zero _)⟩, fun i hi => absurd hi (Nat.not_lt_zero _), fun i hi => absurd hi (Nat.not_lt_zero _)⟩, w', ⟨k', by decide, by decide⟩, cPl_fr pl f rfl rfl⟩
theorem lg_worth (s : lG c n K P B np T C nr U V W h) {i : Nat} (hi : i < c) {v : Int32} (v1 : -nI 9 ≤ v) (v2 : v ≤ nI 9) : ∃ h', XX true 1 89 0 [.ref 64, .int (nI i), .int (v), ax_junk] [] (h) (some (.int (iI (W i))), h') ∧ fy 0 Xc h h' ∧ lG c n K P B np T C nr U V (updZ W i v.toInt) h' := by
  obtain ⟨S, TA, AA, A, t, p, r, ww, kk, pl⟩ := s
  have c5 := t.c5.2
  have q : isLt c (nI i) ∧ -nI 9 ≤ v ∧ v ≤ nI 9 := ⟨(isLt_nI (by omega) (by omega)).mpr hi, v1, v2⟩
  obtain ⟨h', x, f, w'⟩ := (co_worth t ww (nI i) v).1 q
  rw [ix_nI (by omega)] at w'
  unfold a_worth at x
  rw [if_pos q, ix_nI (by omega)] at x
  refine ⟨h', x, f.c rfl, S, TA, AA, A, t.y f.y ?_ (fx.hi rfl), cP_fr p f rfl, cR_fx r f.fx t.al (by decide) rfl rfl rfl, w', kk.x f.fx t.al rfl, cPl_fr pl f rfl rfl⟩
  intro a ha
  rcases ha with z | z
  · exact fx.no (k := 0) (lo := 66) (hi := 67) rfl a (by omega) (by omega)
  · exact fx.no (k := 0) (lo := 68) (hi := 86) rfl a z.1 z.2
theorem lg_stage (s : lG c n K P B np T C nr U V W h) (k p b : Int32) (q : puts c n K k p b) : ∃ h', XX true 6 91 0 [.ref 64, .int (k), .int (p), .int (b)] [] (h) (some (.int (a_stage c n K k p b)), h') ∧ fy 3 Xc h h' ∧ lG c (n + 1) (updN K n (ix k)) (updN P n (ix p)) (updN B n (ix b)) np T C nr U V W h' := by
  obtain ⟨S, TA, AA, A, t, p', r, ww, kk, pl⟩ := s
  obtain ⟨h', x, f, t'⟩ := (co_stage t k p b).1 q
  exact ⟨h', x, f.c rfl, _, TA, AA, A, t', p'.x f t.al rfl, cR_fx r f t.al (by decide) rfl rfl rfl, cW_fx ww f t.al (by decide) (fun _ => rfl), kk.x f t.al rfl, pl.x f t.al rfl rfl⟩
theorem lg_stage_no (s : lG c n K P B np T C nr U V W h) (k p b : Int32) (q : ¬ puts c n K k p b) : XX true 6 91 0 [.ref 64, .int (k), .int (p), .int (b)] [] (h) (some (.int (a_stage c n K k p b)), h) := by
  obtain ⟨S, TA, AA, A, t, _⟩ := s
  exact (co_stage t k p b).2 q
theorem lg_rule (s : lG c n K P B np T C nr U V W h) (t x y a b m v : Int32) (q : isRule nr t x y a b m v) : ∃ h', XX true 2 103 0 [.ref 64, .int (t), .int (x), .int (y), .int (a), .int (b), .int (m), .int (v)] [] (h) (some (.int (nI nr)), h') ∧ fy 9 Xc h h' ∧ lG c n K P B np T C (nr + 1) (updN U nr (v_ru (ix t) (ix x) (ix y) (ix a) (ix b) (ix m))) (updZ V nr v.toInt) W h' := by
  obtain ⟨S, TA, AA, A, tt, p', r, ww, kk, pl⟩ := s
  obtain ⟨h', TA', AA', r1, f, r'⟩ := (co_rule r tt.al t x y a b m v).1 q
  unfold a_rule at r1
  rw [if_pos q.1, if_neg q.2] at r1
  refine ⟨h', r1, f.c rfl, S, TA', AA', A, tt.y f.y ?_ (fx.hi rfl), p'.x f tt.al rfl, r', cW_fx ww f tt.al (by decide) (fun _ => rfl), kk.x f tt.al rfl, pl.x f tt.al rfl rfl⟩
  intro a ha
  exact fx.no (k := 9) (lo := 66) (hi := 86) rfl a (by omega) (by omega)
/-! numbers as the law draws them -/
theorem nI_rem {v k : Nat} (hv : v < 2 ^ 31) (hk : k < 2 ^ 31) : nI v - nI v / nI k * nI k = nI (v % k) := by rw [nI_divI hv hk, nI_mulI, nI_remI]
theorem nI_nz {k : Nat} (h0 : 0 < k) (hk : k < 2 ^ 31) : (!decide (nI k = nI 0)) = true := by
  simp only [Bool.not_eq_true', decide_eq_false_iff_not]
  exact nI_ne0 h0 hk
theorem nI_w9 : ∀ d, d < 19 → -nI 9 ≤ nI d - nI 9 ∧ nI d - nI 9 ≤ nI 9 := by decide
theorem nI_v99 : ∀ d, d < 199 → -nI 99 ≤ nI d - nI 99 ∧ nI d - nI 99 ≤ nI 99 := by decide +kernel
theorem nI_and3 {v : Nat} (hv : v < 2 ^ 31) : ∃ d, d < 4 ∧ nI v &&& nI 3 = nI d := by
  refine ⟨v % 4, by omega, ?_⟩
  apply Int32.toBitVec_inj.mp
  apply BitVec.eq_of_toNat_eq
  show (BitVec.ofNat 32 v &&& 3#32).toNat = (BitVec.ofNat 32 (v % 4)).toNat
  rw [BitVec.toNat_and, BitVec.toNat_ofNat, BitVec.toNat_ofNat]
  show v % 4294967296 &&& 3 = v % 4 % 4294967296
  rw [show (3 : Nat) = 2 ^ 2 - 1 from rfl, Nat.and_two_pow_sub_one_eq_mod]
  omega
theorem nI_and1 {v : Nat} (hv : v < 2 ^ 31) : ∃ d, d < 2 ∧ nI v &&& nI 1 = nI d := by
  refine ⟨v % 2, by omega, ?_⟩
  apply Int32.toBitVec_inj.mp
  apply BitVec.eq_of_toNat_eq
  show (BitVec.ofNat 32 v &&& 1#32).toNat = (BitVec.ofNat 32 (v % 2)).toNat
  rw [BitVec.toNat_and, BitVec.toNat_ofNat, BitVec.toNat_ofNat]
  show v % 4294967296 &&& 1 = v % 2 % 4294967296
  rw [show (1 : Nat) = 2 ^ 1 - 1 from rfl, Nat.and_two_pow_sub_one_eq_mod]
  omega
end S91
