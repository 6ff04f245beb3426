/-! WHAT HOLDS BETWEEN TWO CALLS -/
theorem fx2 {k : Nat} {L M : List (Nat × Option Nat)} {h h1 h2 : AH} (f : fx k L h h1) (g : fr M h1 h2) (a : subS L (L ++ M) = true) (b : subS M (L ++ M) = true) : fx k (L ++ M) h h2 := (f.mono a (Nat.le_refl _)).trans ((g.mono b).fx (L := L ++ M))
/-- one step of the law leaves the script, and makes few objects -/
def stp (h h' : AH) : Prop := h'.2.2.1 ≤ h.2.2.1 + 21 ∧ h'.2.2.2.1 ≤ h.2.2.2.1 + 21 ∧ h'.2.2.2.2 = h.2.2.2.2 ∧ h.2.2.1 ≤ h'.2.2.1 ∧ ∀ j, h'.1 48 j = h.1 48 j
theorem fx.stp {k : Nat} {M : List (Nat × Option Nat)} {h h' : AH} (f : fx k M h h') (al : 181 ≤ h.2.2.1) (hk : k ≤ 21) (q : ∀ j, inS M 48 j = false) : stp h h' := ⟨Nat.le_trans f.2.1 (by omega), Nat.le_trans f.2.2.1 (by omega), f.2.2.2.1, f.1, fun j => f.2.2.2.2.2 48 j (by omega) (q j)⟩
section S84
variable {k c n np nr sk : Nat} {K P B T C : Nat → Nat} {U : Nat → Nat → Nat} {V W : Nat → Int} {h h' : AH} {M : List (Nat × Option Nat)}
def gS (c n : Nat) (K P B : Nat → Nat) (h : AH) : Prop := mS c n K P B h ∧ ∃ S, tS 0 c n K P B S h
def gW (W : Nat → Int) (h : AH) : Prop := mW W h ∧ cW 0 W h
def gP (np : Nat) (T C : Nat → Nat) (h : AH) : Prop := mP np T C h ∧ cP 0 np T C h
def gQ (nr : Nat) (U : Nat → Nat → Nat) (V : Nat → Int) (h : AH) : Prop := mR nr U V h ∧ (∃ TA AA, cR 0 nr U V TA AA h) ∧ cJ 0 h
def gK' (sk : Nat) (h : AH) : Prop := mK sk h ∧ cK 0 sk h
def tap (h : AH) : Prop := ∃ tn tb, mTp tn tb h ∧ cTp tn tb h
def rks (h : AH) : Prop := ∃ rl rF rK rP rB RS, mRk rl rF rK rP rB h ∧ cRk rl rF rK rP rB RS h
def shs (h : AH) : Prop := ∃ sS sZ sN, mSh sS sZ sN h ∧ cSh sS sZ sN h
def hds (h : AH) : Prop := ∃ hs hk hU hW hv HS HA, mHd hs hk hU hW hv h ∧ cHd hs hk hU hW hv HS HA h
def kep (h : AH) : Prop := (hI h 153 40 = nI 0 ∧ hI h 64 2 = nI 0 ∧ ∃ c n K P B S, tS 29 c n K P B S h) ∨ (hI h 153 40 = nI 1 ∧ hI h 64 2 = nI 1 ∧ ∃ g c n K P B W np T C nr U V sk, (mS c n K P B g ∧ mW W g ∧ mP np T C g ∧ mR nr U V g ∧ mK sk g) ∧ mIm g h ∧ (∃ S, tS 29 c n K P B S h) ∧ cW 29 W h ∧ cP 29 np T C h ∧ (∃ TA AA, cR 29 nr U V TA AA h) ∧ cK 29 sk h ∧ cJ 29 h)
def plx (h : AH) : Prop := ∃ A, cPl A h
theorem mS_fx (s : mS c n K P B h) (f : fx k M h h') (al : 181 ≤ h.2.2.1) (q0 : inS M 153 0 = false) (q2 : inS M 153 2 = false) (q : ∀ j, inS M 155 j = false ∧ inS M 156 j = false ∧ inS M 157 j = false) : mS c n K P B h' := ⟨s.1, (f.I (by omega) q0).trans s.cc, (f.I (by omega) q2).trans s.nn, fun i hi => ⟨(f.I (by omega) (q i).1).trans (s.KK hi), (f.I (by omega) (q i).2.1).trans (s.PP hi), (f.I (by omega) (q i).2.2).trans (s.BB hi)⟩⟩
theorem mW_fx (s : mW W h) (f : fx k M h h') (al : 181 ≤ h.2.2.1) (q : ∀ j, inS M 154 j = false) : mW W h' := fun i hi => ⟨(f.I (by omega) (q _)).trans (s i hi).1, (s i hi).2⟩
theorem mP_fx (s : mP np T C h) (f : fx k M h h') (al : 181 ≤ h.2.2.1) (q0 : inS M 153 6 = false) (q : ∀ j, inS M 158 j = false) : mP np T C h' := ⟨s.1, (f.I (by omega) q0).trans s.2.1, fun i hi => ⟨(s.2.2 i hi).1, (s.2.2 i hi).2.1, (f.I (by omega) (q _)).trans (s.2.2 i hi).2.2.1, (f.I (by omega) (q _)).trans (s.2.2 i hi).2.2.2.1, (f.I (by omega) (q _)).trans (s.2.2 i hi).2.2.2.2.1, (f.I (by omega) (q _)).trans (s.2.2 i hi).2.2.2.2.2⟩⟩
theorem rwR_fx {a fm : Nat} (s : rwR a fm nr U V h) (f : fx k M h h') (al : a < h.2.2.1) (q : ∀ j, inS M a j = false) : rwR a fm nr U V h' := ⟨s.1, fun i hi => ⟨fun g hg => (f.I al (q _)).trans ((s.2 i hi).1 g hg), (f.I al (q _)).trans (s.2 i hi).2⟩⟩
theorem mR_fx (s : mR nr U V h) (f : fx k M h h') (al : 181 ≤ h.2.2.1) (q0 : inS M 153 8 = false) (q : ∀ j, inS M 159 j = false) : mR nr U V h' := ⟨(f.I (by omega) q0).trans s.1, rwR_fx s.2 f (by omega) q⟩
theorem mK_fx (s : mK sk h) (f : fx k M h h') (al : 181 ≤ h.2.2.1) (q0 : inS M 153 10 = false) : mK sk h' := ⟨(f.L (by omega) q0).trans s.1, s.2⟩
theorem mTp_fx {tn : Nat} {tb : Nat → Int32} (s : mTp tn tb h) (f : fx k M h h') (al : 181 ≤ h.2.2.1) (q0 : inS M 153 25 = false) (q : ∀ j, inS M 169 j = false) : mTp tn tb h' := ⟨s.1, (f.I (by omega) q0).trans s.2.1, fun i hi => (f.I (by omega) (q _)).trans (s.2.2 i hi)⟩
theorem mRk_fx {rl : Nat → Nat} {rF rK rP rB : Nat → Nat → Nat} (s : mRk rl rF rK rP rB h) (f : fx k M h h') (al : 181 ≤ h.2.2.1) (q : ∀ j, inS M 171 j = false ∧ inS M 172 j = false) : mRk rl rF rK rP rB h' := fun r hr => ⟨(s r hr).1, (f.I (by omega) (q _).1).trans (s r hr).2.1, fun i hi => ⟨(f.I (by omega) (q _).2).trans ((s r hr).2.2 i hi).1, ((s r hr).2.2 i hi).2.1, fun y => ⟨(((s r hr).2.2 i hi).2.2 y).1, (f.I (by omega) (q _).2).trans (((s r hr).2.2 i hi).2.2 y).2.1, (f.I (by omega) (q _).2).trans (((s r hr).2.2 i hi).2.2 y).2.2.1, (f.I (by omega) (q _).2).trans (((s r hr).2.2 i hi).2.2 y).2.2.2⟩⟩⟩
theorem mSh_fx {sS sZ : Nat → Nat} {sN : Nat → Nat → Int32} (x : mSh sS sZ sN h) (f : fx k M h h') (al : 181 ≤ h.2.2.1) (q : ∀ j, inS M 173 j = false ∧ inS M 174 j = false ∧ inS M 175 j = false) : mSh sS sZ sN h' := fun s hs => ⟨(x s hs).1, (x s hs).2.1, (f.I (by omega) (q _).1).trans (x s hs).2.2.1, (f.I (by omega) (q _).2.1).trans (x s hs).2.2.2.1, fun i hi => (f.I (by omega) (q _).2.2).trans ((x s hs).2.2.2.2 i hi)⟩
theorem mHd_fx {hs hk : Nat → Nat} {hU : Nat → Nat → Nat → Nat} {hW : Nat → Nat → Int} {hv : Nat → Int64} (s : mHd hs hk hU hW hv h) (f : fx k M h h') (al : 181 ≤ h.2.2.1) (q : ∀ j, inS M 176 j = false ∧ inS M 177 j = false ∧ inS M 178 j = false ∧ inS M 179 j = false) : mHd hs hk hU hW hv h' := fun x hx => ⟨(f.I (by omega) (q _).1).trans (s x hx).1, (s x hx).2.1, fun z => ⟨(f.I (by omega) (q _).2.1).trans ((s x hx).2.2.1 z).1, ((s x hx).2.2.1 z).2⟩, fun z => ⟨(f.I (by omega) (q _).2.1).trans ((s x hx).2.2.2.1 z).1, rwR_fx ((s x hx).2.2.2.1 z).2 f (by omega) (fun j => (q j).2.2.2)⟩, fun z => (f.L (by omega) (q _).2.2.1).trans ((s x hx).2.2.2.2 z)⟩
theorem cK_fx {o : Nat} (s : cK o sk h) (f : fx k M h h') (al : 181 ≤ h.2.2.1) (ho : o < 30) (q : inS M (65 + o) 7 = false) : cK o sk h' := ⟨(f.L (by omega) q).trans s.1, s.2⟩
theorem tS_fx' {o : Nat} {S : Nat → Nat} (s : tS o c n K P B S h) (f : fx k M h h') (ho : o < 30) (q0 : inS M (66 + o) 0 = false) (q3 : inS M (66 + o) 3 = false) (q1 : outS (68 + o) (86 + o) M = true) (q2 : loS M = true) : tS o c n K P B S h' := by
  have h6 := s.n6
  have al := s.al
  exact ⟨s.ok, Nat.le_trans al f.1, (f.I (by omega) q0).trans s.cc, (f.I (by omega) q3).trans s.nn, fun i hi => ⟨(f.R (by omega) (outS_in q1 (by omega) (by omega) _)).trans (s.st i hi).1, sO_fx (s.st i hi).2 f q2⟩, fun i hi => (f.I (by omega) (outS_in q1 (by omega) (by omega) _)).trans (s.fan i hi), fun i hi => (f.I (by omega) (outS_in q1 (by omega) (by omega) _)).trans (s.beh i hi), fun i hi w hw => (f.I (by omega) (outS_in q1 (by omega) (by omega) _)).trans (s.bef i hi w hw), fun j hj i hi => (f.I (by omega) (outS_in q1 (by omega) (by omega) _)).trans (s.see j hj i hi)⟩
theorem gS_fx (s : gS c n K P B h) (f : fx k M h h') (q0 : inS M 153 0 = false) (q2 : inS M 153 2 = false) (q : ∀ j, inS M 155 j = false ∧ inS M 156 j = false ∧ inS M 157 j = false) (q3 : outS 66 86 M = true) (q4 : loS M = true) : gS c n K P B h' := by
  obtain ⟨m, S, t⟩ := s
  exact ⟨mS_fx m f t.al q0 q2 q, S, tS_fx t f (by decide) q3 q4⟩
theorem gW_fx (s : gW W h) (f : fx k M h h') (al : 181 ≤ h.2.2.1) (q : ∀ j, inS M 154 j = false ∧ inS M 67 j = false) : gW W h' := ⟨mW_fx s.1 f al (fun j => (q j).1), cW_fx s.2 f al (by decide) (fun j => (q j).2)⟩
theorem gP_fx (s : gP np T C h) (f : fx k M h h') (al : 181 ≤ h.2.2.1) (q0 : inS M 153 6 = false) (q : ∀ j, inS M 158 j = false) (q1 : outS 87 90 M = true) : gP np T C h' := ⟨mP_fx s.1 f al q0 q, cP_fx s.2 f al (by decide) q1⟩
theorem gQ_fx (s : gQ nr U V h) (f : fx k M h h') (al : 181 ≤ h.2.2.1) (q0 : inS M 153 8 = false) (q : ∀ j, inS M 159 j = false) (q1 : outS 90 94 M = true) (q2 : loS M = true) (q3 : inS M 65 6 = false) (q4 : outS 90 92 M = true) : gQ nr U V h' := by
  obtain ⟨m, ⟨TA, AA, r⟩, j⟩ := s
  exact ⟨mR_fx m f al q0 q, ⟨TA, AA, cR_fx r f al (by decide) q1 q2 q3⟩, cJ_fx j f al (by decide) q4⟩
theorem gK_fx (s : gK' sk h) (f : fx k M h h') (al : 181 ≤ h.2.2.1) (q0 : inS M 153 10 = false) (q1 : inS M 65 7 = false) : gK' sk h' := ⟨mK_fx s.1 f al q0, cK_fx s.2 f al (by decide) q1⟩
theorem tap_fx (s : tap h) (f : fx k M h h') (al : 181 ≤ h.2.2.1) (q0 : inS M 153 25 = false) (q1 : inS M 136 1 = false) (q : ∀ j, inS M 169 j = false ∧ inS M 137 j = false) : tap h' := by
  obtain ⟨tn, tb, m, t⟩ := s
  exact ⟨tn, tb, mTp_fx m f al q0 (fun j => (q j).1), cTp_fx t f al (fun j => (q j).2) q1⟩
theorem rks_fx (s : rks h) (f : fx k M h h') (al : 181 ≤ h.2.2.1) (q : ∀ j, inS M 171 j = false ∧ inS M 172 j = false) (q1 : ∀ j, inS M 138 j = false) (q2 : ∀ j, inS M 139 j = false) (q3 : loS M = true) : rks h' := by
  obtain ⟨rl, rF, rK, rP, rB, RS, m, t⟩ := s
  exact ⟨rl, rF, rK, rP, rB, RS, mRk_fx m f al q, cRk_fx t f al q1 q2 q3⟩
theorem shs_fx (s : shs h) (f : fx k M h h') (al : 181 ≤ h.2.2.1) (q : ∀ j, inS M 173 j = false ∧ inS M 174 j = false ∧ inS M 175 j = false) (q1 : outS 141 149 M = true) : shs h' := by
  obtain ⟨sS, sZ, sN, m, t⟩ := s
  exact ⟨sS, sZ, sN, mSh_fx m f al q, cSh_fx t f al q1⟩
theorem hds_fx (s : hds h) (f : fx k M h h') (al : 181 ≤ h.2.2.1) (q : ∀ j, inS M 176 j = false ∧ inS M 177 j = false ∧ inS M 178 j = false ∧ inS M 179 j = false) (q1 : outS 149 153 M = true) (q2 : loS M = true) : hds h' := by
  obtain ⟨hs, hk, hU, hW, hv, HS, HA, m, t⟩ := s
  exact ⟨hs, hk, hU, hW, hv, HS, HA, mHd_fx m f al q, cHd_fx t f al q1 q2⟩
theorem kep_fx (s : kep h) (f : fx k M h h') (al : 181 ≤ h.2.2.1) (q0 : inS M 153 40 = false) (q1 : inS M 64 2 = false) (q2 : inS M 153 42 = false) (q : ∀ j, inS M 180 j = false) (q3 : outS 94 123 M = true) (q4 : loS M = true) : kep h' := by
  have o : ∀ a j, 94 ≤ a → a < 123 → inS M a j = false := fun a j h1 h2 => outS_in q3 h1 h2 j
  have os : ∀ lo hi, 94 ≤ lo → hi ≤ 123 → outS lo hi M = true := by
    intro lo hi h1 h2
    unfold outS at q3 ⊢
    rw [List.all_eq_true] at q3 ⊢
    intro p hp
    have := q3 p hp
    simp only [Bool.or_eq_true, decide_eq_true_eq] at this ⊢
    omega
  rcases s with ⟨z, x, c, n, K, P, B, S, t⟩ | ⟨z, x, g, c, n, K, P, B, W, np, T, C, nr, U, V, sk, m, im, ⟨S, t⟩, w, p, ⟨TA, AA, r⟩, kk, j⟩
  · exact Or.inl ⟨(f.I (by omega) q0).trans z, (f.I (by omega) q1).trans x, c, n, K, P, B, S, tS_fx t f (by decide) (os _ _ (by decide) (by decide)) q4⟩
  · exact Or.inr ⟨(f.I (by omega) q0).trans z, (f.I (by omega) q1).trans x, g, c, n, K, P, B, W, np, T, C, nr, U, V, sk, m, ⟨fun a ha => (f.I (by omega) (q _)).trans (im.1 a ha), (f.L (by omega) q2).trans im.2⟩, ⟨S, tS_fx t f (by decide) (os _ _ (by decide) (by decide)) q4⟩, cW_fx w f al (by decide) (fun i => o _ _ (by decide) (by decide)), cP_fx p f al (by decide) (os _ _ (by decide) (by decide)), ⟨TA, AA, cR_fx r f al (by decide) (os _ _ (by decide) (by decide)) q4 (o _ _ (by decide) (by decide))⟩, cK_fx kk f al (by decide) (o _ _ (by decide) (by decide)), cJ_fx j f al (by decide) (os _ _ (by decide) (by decide))⟩
theorem plx_fx (s : plx h) (f : fx k M h h') (al : 181 ≤ h.2.2.1) (q0 : inS M 129 0 = false) (q1 : inS M 129 1 = false) : plx h' := by
  obtain ⟨A, s⟩ := s
  exact ⟨A, s.1, (f.R (by omega) q0).trans s.2.1, (f.R (by omega) q1).trans s.2.2⟩
/-- what holds between two calls -/
def sg (h : AH) : Prop := ∃ c n K P B W np T C nr U V sk, gS c n K P B h ∧ gW W h ∧ gP np T C h ∧ gQ nr U V h ∧ gK' sk h ∧ tap h ∧ rks h ∧ shs h ∧ hds h ∧ kep h ∧ plx h
theorem gS.al (s : gS c n K P B h) : 181 ≤ h.2.2.1 := s.2.elim fun _ t => t.al
end S84
