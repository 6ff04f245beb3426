/-! THE LAW'S START: the steps before its loop -/
section S98g
variable {base : Nat} {av : Nat → Value} {D : va_G} {cA : Nat → ClassId} {Hs : Heap} {Ls : Nat} {xs : Nat → Int32}
theorem ax_sndStep {ph : Bool} {d m pc : Nat} {ls st : List Value} {h : AH} {r : Option Value} {h9 : AH} {i : Instr} {len pc1 : Nat} {ls1 st1 : List Value} {h1 : AH} (hv : ax_vok av) (hnn : ax_vnn av) (hdc : decode (ax_code m) pc = .ok (i, len)) (hs : ax_step ph m i pc ls st h = some (pc1, ls1, st1, h1)) (hlen : len = ax_len i ∨ ax_tsw i = true) (S : ax_Sound base av D cA Hs Ls xs ph d m pc1 ls1 st1 h1 r h9) : ax_Sound base av D cA Hs Ls xs ph d m pc ls st h r h9 := by
  obtain ⟨n2, z2, S2⟩ := S
  have hln := ax_step_len hs
  have grow : h.2.2.1 ≤ h1.2.2.1 ∧ h.2.2.2.1 ≤ h1.2.2.2.1 := ax_step_grow hs
  refine ⟨Nat.le_trans grow.1 n2, Nat.le_trans grow.2 z2, ?_⟩
  intro p l e R s mth args below meth c H locs cells slots mF sF Q cls CX hL hl hR hlo hfr hlc hmF hsF hce hsl hret
  obtain ⟨g1, g2⟩ := grow
  refine ax_stepS hv hnn hs hdc hlen CX hl hR hlo (by omega) (by omega) (by omega) (by omega) (by omega) (by omega) fun _ _ cls1 H1 locs1 hl1 hR1 hlo1 => ?_
  exact S2 p l e R s mth args below meth c H1 locs1 _ _ mF sF Q cls1 CX (hln.trans hL) hl1 hR1 hlo1 hfr hlc (by omega) (by omega) hce hsl hret
/-- when all is made, the final references are constants -/
theorem ax_phS {d m pc : Nat} {ls st : List Value} {h : AH} {r : Option Value} {h9 : AH} (S : ax_Sound base av D cA Hs Ls xs true d m pc ls st h r h9) (c1 : 168 ≤ h.2.2.1) (c2 : ∀ a j q, 64 ≤ a → (ax_cfL.getD (a - 64) []).getD j none = some q → h.1 a j = .ref q) : ax_Sound base av D cA Hs Ls xs false d m pc ls st h r h9 := by
  obtain ⟨n2, z2, S2⟩ := S
  refine ⟨n2, z2, ?_⟩
  intro p l e R s mth args below meth c H locs cells slots mF sF Q cls CX hL hl hR hlo hfr hlc hmF hsF hce hsl hret
  obtain ⟨a1, a2, a3, a4, a5, a6, a7, a8, a9, a10⟩ := hR
  refine S2 p l e R s mth args below meth c H locs cells slots mF sF Q cls CX hL hl ⟨a1, a2, a3, a4, a5, a6, a7, a8, fun _ => c1, fun _ => c2⟩ hlo hfr hlc hmF hsF hce hsl ?_
  intro pc' cls' H' locs' st' i hd hrv hR' hlo'
  obtain ⟨b1, b2, b3, b4, b5, b6, b7, b8, b9, b10⟩ := hR'
  exact hret pc' cls' H' locs' st' i hd hrv ⟨b1, b2, b3, b4, b5, b6, b7, b8, fun z => absurd z (by decide), fun z => absurd z (by decide)⟩ hlo'
theorem dq_0 : decode (ax_code 112) 0 = .ok (.new 32, 3) := by decide +kernel
theorem dq_3 : decode (ax_code 112) 3 = .ok (.dup, 1) := by decide +kernel
theorem dq_4 : decode (ax_code 112) 4 = .ok (.invokespecial 107, 3) := by decide +kernel
theorem dq_7 : decode (ax_code 112) 7 = .ok (.astore_n 1, 1) := by decide +kernel
theorem dq_8 : decode (ax_code 112) 8 = .ok (.aload_n 1, 1) := by decide +kernel
theorem dq_9 : decode (ax_code 112) 9 = .ok (.aload_n 0, 1) := by decide +kernel
theorem dq_10 : decode (ax_code 112) 10 = .ok (.iconst 5, 1) := by decide +kernel
theorem dq_11 : decode (ax_code 112) 11 = .ok (.invokestatic 108, 3) := by decide +kernel
theorem dq_14 : decode (ax_code 112) 14 = .ok (.astore_n 2, 1) := by decide +kernel
theorem dr_0 : decode (ax_code 84) 0 = .ok (.new 20, 3) := by decide +kernel
theorem dr_3 : decode (ax_code 84) 3 = .ok (.dup, 1) := by decide +kernel
theorem dr_4 : decode (ax_code 84) 4 = .ok (.invokespecial 22, 3) := by decide +kernel
theorem dr_7 : decode (ax_code 84) 7 = .ok (.astore_n 3, 1) := by decide +kernel
abbrev ls15 (a b : Value) : List Value := [.ref 48, a, b, ax_junk, ax_junk, ax_junk, ax_junk, ax_junk, ax_junk, ax_junk, ax_junk, ax_junk, ax_junk, ax_junk, ax_junk]
abbrev ls11 (a : Value) : List Value := [.ref 64, .ref 48, .int (nI 5), a, ax_junk, ax_junk, ax_junk, ax_junk, ax_junk, ax_junk, ax_junk]
/-- a game is made: its own part begins before all is constant -/
theorem made_S (hv : ax_vok av) (hnn : ax_vnn av) {h2 h3 h4 h5 : AH} {d f2 f3 : Nat}
    (n2 : ax_step false 84 (.new 20) 0 (ls11 ax_junk) [] h2 = some (3, ls11 ax_junk, [.ref 153], h3))
    (i2 : ax_ex false f2 d 85 0 (ax_ent [.ref 153] (ax_L 85)) [] h3 = some (none, h4))
    (c1 : 168 ≤ h4.2.2.1) (c2 : ∀ a j q, 64 ≤ a → (ax_cfL.getD (a - 64) []).getD j none = some q → h4.1 a j = .ref q)
    (r : ax_ex true f3 (d + 1) 84 8 (ls11 (.ref 153)) [] h4 = some (some (.ref 153), h5)) : ax_Sound base av D cA Hs Ls xs false (d + 1) 84 0 (ls11 ax_junk) [] h2 (some (.ref 153)) h5 := by
  refine ax_sndStep hv hnn dr_0 n2 (Or.inl rfl) ?_
  refine ax_sndStep hv hnn dr_3 (show _ = some (4, ls11 ax_junk, [.ref 153, .ref 153], h3) from rfl) (Or.inl rfl) ?_
  refine ax_callS hv dr_4 (show _ = some (some 85, [.ref 153], [.ref 153]) from rfl) (by decide +kernel) (ax_sound hv hnn _ _ _ _ _ _ _ _ _ i2) ?_
  refine ax_sndStep hv hnn dr_7 (show _ = some (8, ls11 (.ref 153), [], h4) from rfl) (Or.inl rfl) ?_
  exact ax_phS (ax_sound hv hnn _ _ _ _ _ _ _ _ _ r) c1 c2
theorem law_S (hv : ax_vok av) (hnn : ax_vnn av) {h0 h1 h2 h5 h9 : AH} {d f1 f4 : Nat}
    (n1 : ax_step false 112 (.new 32) 0 (ls15 ax_junk ax_junk) [] h0 = some (3, ls15 ax_junk ax_junk, [.ref 64], h1))
    (i1 : ax_ex false f1 (d + 1) 0 0 (ax_ent [.ref 64] (ax_L 0)) [] h1 = some (none, h2))
    (S2 : ax_Sound base av D cA Hs Ls xs false (d + 1) 84 0 (ls11 ax_junk) [] h2 (some (.ref 153)) h5)
    (c1 : 168 ≤ h5.2.2.1) (c2 : ∀ a j q, 64 ≤ a → (ax_cfL.getD (a - 64) []).getD j none = some q → h5.1 a j = .ref q)
    (r : ax_ex true f4 (d + 2) 112 15 (ls15 (.ref 64) (.ref 153)) [] h5 = some (some (.int (nI 1)), h9)) : ax_Sound base av D cA Hs Ls xs false (d + 2) 112 0 (ls15 ax_junk ax_junk) [] h0 (some (.int (nI 1))) h9 := by
  refine ax_sndStep hv hnn dq_0 n1 (Or.inl rfl) ?_
  refine ax_sndStep hv hnn dq_3 (show _ = some (4, ls15 ax_junk ax_junk, [.ref 64, .ref 64], h1) from rfl) (Or.inl rfl) ?_
  refine ax_callS hv dq_4 (show _ = some (some 0, [.ref 64], [.ref 64]) from rfl) (by decide +kernel) (ax_sound hv hnn _ _ _ _ _ _ _ _ _ i1) ?_
  refine ax_sndStep hv hnn dq_7 (show _ = some (8, ls15 (.ref 64) ax_junk, [], h2) from rfl) (Or.inl rfl) ?_
  refine ax_sndStep hv hnn dq_8 (show _ = some (9, ls15 (.ref 64) ax_junk, [.ref 64], h2) from rfl) (Or.inl rfl) ?_
  refine ax_sndStep hv hnn dq_9 (show _ = some (10, ls15 (.ref 64) ax_junk, [.ref 48, .ref 64], h2) from rfl) (Or.inl rfl) ?_
  refine ax_sndStep hv hnn dq_10 (show _ = some (11, ls15 (.ref 64) ax_junk, [.int (nI 5), .ref 48, .ref 64], h2) from rfl) (Or.inl rfl) ?_
  refine ax_callS hv dq_11 (show _ = some (some 84, [.ref 64, .ref 48, .int (nI 5)], []) from rfl) (by decide +kernel) (r1 := some (.ref 153)) (h1 := h5) ?_ ?_
  · exact S2
  refine ax_sndStep hv hnn dq_14 (show _ = some (15, ls15 (.ref 64) (.ref 153), [], h5) from rfl) (Or.inl rfl) ?_
  exact ax_phS (ax_sound hv hnn _ _ _ _ _ _ _ _ _ r) c1 c2
end S98g
