/-! EACH CALL KEEPS WHAT HOLDS BETWEEN TWO CALLS, AND ANSWERS THE SAME -/
section S85
variable {h : AH}
theorem st_stageOf (s : sg h) (i : Int32) (w : Int32) : ∃ h1 h2 res, XX true 2 29 0 [.ref 64, .int (i), .int (w), ax_junk] [] (h) (some (.int (res)), h1) ∧ XX true 3 166 0 [.ref 153, .int (i), .int (w)] [] (h1) (some (.int (res)), h2) ∧ stp h h1 ∧ stp h h2 ∧ sg h2 := by
  obtain ⟨c, n, K, P, B, W, np, T, C, nr, U, V, sk, gs, gw, gp, gr, gk, tp, rk, sh, hd, kp, pl⟩ := s
  have al := gs.al
  obtain ⟨ms, S, ts⟩ := id gs
  obtain ⟨mw, cw⟩ := id gw
  obtain ⟨mp, cp⟩ := id gp
  obtain ⟨mr, ⟨TA, AA, cr⟩, cj⟩ := id gr
  obtain ⟨mk, ck⟩ := id gk
  exact ⟨h, h, _, co_stageOf ts i w, mo_stageOf ms i w, (fr.rfl' (L := [])).fx.stp al (by decide) (fun _ => rfl), (fr.rfl' (L := [])).fx.stp al (by decide) (fun _ => rfl), c, n, K, P, B, W, np, T, C, nr, U, V, sk, gs, gw, gp, gr, gk, tp, rk, sh, hd, kp, pl⟩
theorem st_seen (s : sg h) (i : Int32) (j : Int32) : ∃ h1 h2 res, XX true 3 30 0 [.ref 64, .int (i), .int (j)] [] (h) (some (.int (res)), h1) ∧ XX true 3 169 0 [.ref 153, .int (i), .int (j)] [] (h1) (some (.int (res)), h2) ∧ stp h h1 ∧ stp h h2 ∧ sg h2 := by
  obtain ⟨c, n, K, P, B, W, np, T, C, nr, U, V, sk, gs, gw, gp, gr, gk, tp, rk, sh, hd, kp, pl⟩ := s
  have al := gs.al
  obtain ⟨ms, S, ts⟩ := id gs
  obtain ⟨mw, cw⟩ := id gw
  obtain ⟨mp, cp⟩ := id gp
  obtain ⟨mr, ⟨TA, AA, cr⟩, cj⟩ := id gr
  obtain ⟨mk, ck⟩ := id gk
  exact ⟨h, h, _, co_seen ts i j, mo_seen ms i j, (fr.rfl' (L := [])).fx.stp al (by decide) (fun _ => rfl), (fr.rfl' (L := [])).fx.stp al (by decide) (fun _ => rfl), c, n, K, P, B, W, np, T, C, nr, U, V, sk, gs, gw, gp, gr, gk, tp, rk, sh, hd, kp, pl⟩
theorem st_ways (s : sg h) (j : Int32) : ∃ h1 h2 res, XX true 2 34 0 [.ref 64, .int (j)] [] (h) (some (.int (res)), h1) ∧ XX true 5 172 0 [.ref 153, .int (j)] [] (h1) (some (.int (res)), h2) ∧ stp h h1 ∧ stp h h2 ∧ sg h2 := by
  obtain ⟨c, n, K, P, B, W, np, T, C, nr, U, V, sk, gs, gw, gp, gr, gk, tp, rk, sh, hd, kp, pl⟩ := s
  have al := gs.al
  obtain ⟨ms, S, ts⟩ := id gs
  obtain ⟨mw, cw⟩ := id gw
  obtain ⟨mp, cp⟩ := id gp
  obtain ⟨mr, ⟨TA, AA, cr⟩, cj⟩ := id gr
  obtain ⟨mk, ck⟩ := id gk
  exact ⟨h, h, _, co_ways ts j, mo_ways ms j, (fr.rfl' (L := [])).fx.stp al (by decide) (fun _ => rfl), (fr.rfl' (L := [])).fx.stp al (by decide) (fun _ => rfl), c, n, K, P, B, W, np, T, C, nr, U, V, sk, gs, gw, gp, gr, gk, tp, rk, sh, hd, kp, pl⟩
theorem st_chance (s : sg h) (w : Int32) (q : Int32) : ∃ h1 h2 res, XX true 5 37 0 [.ref 64, .int (w), .int (q)] [] (h) (some (.long (res)), h1) ∧ XX true 6 178 0 [.ref 153, .int (w), .int (q)] [] (h1) (some (.long (res)), h2) ∧ stp h h1 ∧ stp h h2 ∧ sg h2 := by
  obtain ⟨c, n, K, P, B, W, np, T, C, nr, U, V, sk, gs, gw, gp, gr, gk, tp, rk, sh, hd, kp, pl⟩ := s
  have al := gs.al
  obtain ⟨ms, S, ts⟩ := id gs
  obtain ⟨mw, cw⟩ := id gw
  obtain ⟨mp, cp⟩ := id gp
  obtain ⟨mr, ⟨TA, AA, cr⟩, cj⟩ := id gr
  obtain ⟨mk, ck⟩ := id gk
  exact ⟨h, h, _, co_chance ts w q, mo_chance ms w q, (fr.rfl' (L := [])).fx.stp al (by decide) (fun _ => rfl), (fr.rfl' (L := [])).fx.stp al (by decide) (fun _ => rfl), c, n, K, P, B, W, np, T, C, nr, U, V, sk, gs, gw, gp, gr, gk, tp, rk, sh, hd, kp, pl⟩
theorem st_happened (s : sg h) (w : Int32) (i : Int32) : ∃ h1 h2 res, XX true 3 35 0 [.ref 64, .int (w), .int (i)] [] (h) (some (.int (res)), h1) ∧ XX true 6 175 0 [.ref 153, .int (w), .int (i)] [] (h1) (some (.int (res)), h2) ∧ stp h h1 ∧ stp h h2 ∧ sg h2 := by
  obtain ⟨c, n, K, P, B, W, np, T, C, nr, U, V, sk, gs, gw, gp, gr, gk, tp, rk, sh, hd, kp, pl⟩ := s
  have al := gs.al
  obtain ⟨ms, S, ts⟩ := id gs
  obtain ⟨mw, cw⟩ := id gw
  obtain ⟨mp, cp⟩ := id gp
  obtain ⟨mr, ⟨TA, AA, cr⟩, cj⟩ := id gr
  obtain ⟨mk, ck⟩ := id gk
  obtain ⟨h1, r1, f1⟩ := co_happened ts w i
  have f1x := f1.fx
  obtain ⟨h2, r2, f2⟩ := mo_happened (mS_fx ms f1x al rfl rfl (fun _ => ⟨rfl, rfl, rfl⟩)) w i
  have F := fx2 f1x f2 rfl rfl
  exact ⟨h1, h2, _, r1, r2, f1x.stp al (by decide) (fun _ => rfl), F.stp al (by decide) (fun _ => rfl), ⟨c, n, K, P, B, W, np, T, C, nr, U, V, sk, gS_fx gs F rfl rfl (fun _ => ⟨rfl, rfl, rfl⟩) rfl rfl, gW_fx gw F al (fun _ => ⟨rfl, rfl⟩), gP_fx gp F al rfl (fun _ => rfl) rfl, gQ_fx gr F al rfl (fun _ => rfl) rfl rfl rfl rfl, gK_fx gk F al rfl rfl, tap_fx tp F al rfl rfl (fun _ => ⟨rfl, rfl⟩), rks_fx rk F al (fun _ => ⟨rfl, rfl⟩) (fun _ => rfl) (fun _ => rfl) rfl, shs_fx sh F al (fun _ => ⟨rfl, rfl, rfl⟩) rfl, hds_fx hd F al (fun _ => ⟨rfl, rfl, rfl, rfl⟩) rfl rfl, kep_fx kp F al rfl rfl rfl (fun _ => rfl) rfl rfl, plx_fx pl F al rfl rfl⟩⟩
theorem st_view (s : sg h) (p : Int32) (w : Int32) (j : Int32) : ∃ h1 h2 res, XX true 2 42 0 [.ref 64, .int (p), .int (w), .int (j)] [] (h) (some (.int (res)), h1) ∧ XX true 6 183 0 [.ref 153, .int (p), .int (w), .int (j)] [] (h1) (some (.int (res)), h2) ∧ stp h h1 ∧ stp h h2 ∧ sg h2 := by
  obtain ⟨c, n, K, P, B, W, np, T, C, nr, U, V, sk, gs, gw, gp, gr, gk, tp, rk, sh, hd, kp, pl⟩ := s
  have al := gs.al
  obtain ⟨ms, S, ts⟩ := id gs
  obtain ⟨mw, cw⟩ := id gw
  obtain ⟨mp, cp⟩ := id gp
  obtain ⟨mr, ⟨TA, AA, cr⟩, cj⟩ := id gr
  obtain ⟨mk, ck⟩ := id gk
  obtain ⟨h1, r1, f1⟩ := co_view ts p w j
  have f1x := f1.fx
  obtain ⟨h2, r2, f2⟩ := mo_view (mS_fx ms f1x al rfl rfl (fun _ => ⟨rfl, rfl, rfl⟩)) p w j
  have F := fx2 f1x f2 rfl rfl
  exact ⟨h1, h2, _, r1, r2, f1x.stp al (by decide) (fun _ => rfl), F.stp al (by decide) (fun _ => rfl), ⟨c, n, K, P, B, W, np, T, C, nr, U, V, sk, gS_fx gs F rfl rfl (fun _ => ⟨rfl, rfl, rfl⟩) rfl rfl, gW_fx gw F al (fun _ => ⟨rfl, rfl⟩), gP_fx gp F al rfl (fun _ => rfl) rfl, gQ_fx gr F al rfl (fun _ => rfl) rfl rfl rfl rfl, gK_fx gk F al rfl rfl, tap_fx tp F al rfl rfl (fun _ => ⟨rfl, rfl⟩), rks_fx rk F al (fun _ => ⟨rfl, rfl⟩) (fun _ => rfl) (fun _ => rfl) rfl, shs_fx sh F al (fun _ => ⟨rfl, rfl, rfl⟩) rfl, hds_fx hd F al (fun _ => ⟨rfl, rfl, rfl, rfl⟩) rfl rfl, kep_fx kp F al rfl rfl rfl (fun _ => rfl) rfl rfl, plx_fx pl F al rfl rfl⟩⟩
theorem st_worlds (s : sg h) (p : Int32) (j : Int32) (v : Int32) : ∃ h1 h2 res, XX true 4 44 0 [.ref 64, .int (p), .int (j), .int (v)] [] (h) (some (.int (res)), h1) ∧ XX true 6 185 0 [.ref 153, .int (p), .int (j), .int (v)] [] (h1) (some (.int (res)), h2) ∧ stp h h1 ∧ stp h h2 ∧ sg h2 := by
  obtain ⟨c, n, K, P, B, W, np, T, C, nr, U, V, sk, gs, gw, gp, gr, gk, tp, rk, sh, hd, kp, pl⟩ := s
  have al := gs.al
  obtain ⟨ms, S, ts⟩ := id gs
  obtain ⟨mw, cw⟩ := id gw
  obtain ⟨mp, cp⟩ := id gp
  obtain ⟨mr, ⟨TA, AA, cr⟩, cj⟩ := id gr
  obtain ⟨mk, ck⟩ := id gk
  obtain ⟨h1, r1, f1⟩ := co_worlds ts p j v
  have f1x := f1.fx
  obtain ⟨h2, r2, f2⟩ := mo_worlds (mS_fx ms f1x al rfl rfl (fun _ => ⟨rfl, rfl, rfl⟩)) p j v
  have F := fx2 f1x f2 rfl rfl
  exact ⟨h1, h2, _, r1, r2, f1x.stp al (by decide) (fun _ => rfl), F.stp al (by decide) (fun _ => rfl), ⟨c, n, K, P, B, W, np, T, C, nr, U, V, sk, gS_fx gs F rfl rfl (fun _ => ⟨rfl, rfl, rfl⟩) rfl rfl, gW_fx gw F al (fun _ => ⟨rfl, rfl⟩), gP_fx gp F al rfl (fun _ => rfl) rfl, gQ_fx gr F al rfl (fun _ => rfl) rfl rfl rfl rfl, gK_fx gk F al rfl rfl, tap_fx tp F al rfl rfl (fun _ => ⟨rfl, rfl⟩), rks_fx rk F al (fun _ => ⟨rfl, rfl⟩) (fun _ => rfl) (fun _ => rfl) rfl, shs_fx sh F al (fun _ => ⟨rfl, rfl, rfl⟩) rfl, hds_fx hd F al (fun _ => ⟨rfl, rfl, rfl, rfl⟩) rfl rfl, kep_fx kp F al rfl rfl rfl (fun _ => rfl) rfl rfl, plx_fx pl F al rfl rfl⟩⟩
theorem st_world (s : sg h) (p : Int32) (j : Int32) (v : Int32) (k : Int32) : ∃ h1 h2 res, XX true 4 47 0 [.ref 64, .int (p), .int (j), .int (v), .int (k), ax_junk] [] (h) (some (.int (res)), h1) ∧ XX true 5 187 0 [.ref 153, .int (p), .int (j), .int (v), .int (k), ax_junk, ax_junk, ax_junk] [] (h1) (some (.int (res)), h2) ∧ stp h h1 ∧ stp h h2 ∧ sg h2 := by
  obtain ⟨c, n, K, P, B, W, np, T, C, nr, U, V, sk, gs, gw, gp, gr, gk, tp, rk, sh, hd, kp, pl⟩ := s
  have al := gs.al
  obtain ⟨ms, S, ts⟩ := id gs
  obtain ⟨mw, cw⟩ := id gw
  obtain ⟨mp, cp⟩ := id gp
  obtain ⟨mr, ⟨TA, AA, cr⟩, cj⟩ := id gr
  obtain ⟨mk, ck⟩ := id gk
  obtain ⟨h1, r1, f1⟩ := co_world ts p j v k
  have f1x := f1.fx
  obtain ⟨h2, r2, f2⟩ := mo_world (mS_fx ms f1x al rfl rfl (fun _ => ⟨rfl, rfl, rfl⟩)) p j v k
  have F := fx2 f1x f2 rfl rfl
  exact ⟨h1, h2, _, r1, r2, f1x.stp al (by decide) (fun _ => rfl), F.stp al (by decide) (fun _ => rfl), ⟨c, n, K, P, B, W, np, T, C, nr, U, V, sk, gS_fx gs F rfl rfl (fun _ => ⟨rfl, rfl, rfl⟩) rfl rfl, gW_fx gw F al (fun _ => ⟨rfl, rfl⟩), gP_fx gp F al rfl (fun _ => rfl) rfl, gQ_fx gr F al rfl (fun _ => rfl) rfl rfl rfl rfl, gK_fx gk F al rfl rfl, tap_fx tp F al rfl rfl (fun _ => ⟨rfl, rfl⟩), rks_fx rk F al (fun _ => ⟨rfl, rfl⟩) (fun _ => rfl) (fun _ => rfl) rfl, shs_fx sh F al (fun _ => ⟨rfl, rfl, rfl⟩) rfl, hds_fx hd F al (fun _ => ⟨rfl, rfl, rfl, rfl⟩) rfl rfl, kep_fx kp F al rfl rfl rfl (fun _ => rfl) rfl rfl, plx_fx pl F al rfl rfl⟩⟩
theorem st_sets (s : sg h) (p : Int32) : ∃ h1 h2 res, XX true 5 62 0 [.ref 64, .int (p)] [] (h) (some (.int (res)), h1) ∧ XX true 7 193 0 [.ref 153, .int (p)] [] (h1) (some (.int (res)), h2) ∧ stp h h1 ∧ stp h h2 ∧ sg h2 := by
  obtain ⟨c, n, K, P, B, W, np, T, C, nr, U, V, sk, gs, gw, gp, gr, gk, tp, rk, sh, hd, kp, pl⟩ := s
  have al := gs.al
  obtain ⟨ms, S, ts⟩ := id gs
  obtain ⟨mw, cw⟩ := id gw
  obtain ⟨mp, cp⟩ := id gp
  obtain ⟨mr, ⟨TA, AA, cr⟩, cj⟩ := id gr
  obtain ⟨mk, ck⟩ := id gk
  obtain ⟨h1, r1, f1⟩ := co_sets ts p
  have f1x := f1.fx
  obtain ⟨h2, r2, f2⟩ := mo_sets (mS_fx ms f1x al rfl rfl (fun _ => ⟨rfl, rfl, rfl⟩)) p
  have F := fx2 f1x f2 rfl rfl
  exact ⟨h1, h2, _, r1, r2, f1x.stp al (by decide) (fun _ => rfl), F.stp al (by decide) (fun _ => rfl), ⟨c, n, K, P, B, W, np, T, C, nr, U, V, sk, gS_fx gs F rfl rfl (fun _ => ⟨rfl, rfl, rfl⟩) rfl rfl, gW_fx gw F al (fun _ => ⟨rfl, rfl⟩), gP_fx gp F al rfl (fun _ => rfl) rfl, gQ_fx gr F al rfl (fun _ => rfl) rfl rfl rfl rfl, gK_fx gk F al rfl rfl, tap_fx tp F al rfl rfl (fun _ => ⟨rfl, rfl⟩), rks_fx rk F al (fun _ => ⟨rfl, rfl⟩) (fun _ => rfl) (fun _ => rfl) rfl, shs_fx sh F al (fun _ => ⟨rfl, rfl, rfl⟩) rfl, hds_fx hd F al (fun _ => ⟨rfl, rfl, rfl, rfl⟩) rfl rfl, kep_fx kp F al rfl rfl rfl (fun _ => rfl) rfl rfl, plx_fx pl F al rfl rfl⟩⟩
theorem st_setOf (s : sg h) (p : Int32) (t : Int32) (w : Int32) : ∃ h1 h2 res, XX true 5 67 0 [.ref 64, .int (p), .int (t), .int (w)] [] (h) (some (.int (res)), h1) ∧ XX true 7 196 0 [.ref 153, .int (p), .int (t), .int (w), ax_junk, ax_junk] [] (h1) (some (.int (res)), h2) ∧ stp h h1 ∧ stp h h2 ∧ sg h2 := by
  obtain ⟨c, n, K, P, B, W, np, T, C, nr, U, V, sk, gs, gw, gp, gr, gk, tp, rk, sh, hd, kp, pl⟩ := s
  have al := gs.al
  obtain ⟨ms, S, ts⟩ := id gs
  obtain ⟨mw, cw⟩ := id gw
  obtain ⟨mp, cp⟩ := id gp
  obtain ⟨mr, ⟨TA, AA, cr⟩, cj⟩ := id gr
  obtain ⟨mk, ck⟩ := id gk
  obtain ⟨h1, r1, f1⟩ := co_setOf ts cp p t w
  have f1x := f1.fx
  obtain ⟨h2, r2, f2⟩ := mo_setOf (mS_fx ms f1x al rfl rfl (fun _ => ⟨rfl, rfl, rfl⟩)) (mP_fx mp f1x al rfl (fun _ => rfl)) p t w
  have F := fx2 f1x f2 rfl rfl
  exact ⟨h1, h2, _, r1, r2, f1x.stp al (by decide) (fun _ => rfl), F.stp al (by decide) (fun _ => rfl), ⟨c, n, K, P, B, W, np, T, C, nr, U, V, sk, gS_fx gs F rfl rfl (fun _ => ⟨rfl, rfl, rfl⟩) rfl rfl, gW_fx gw F al (fun _ => ⟨rfl, rfl⟩), gP_fx gp F al rfl (fun _ => rfl) rfl, gQ_fx gr F al rfl (fun _ => rfl) rfl rfl rfl rfl, gK_fx gk F al rfl rfl, tap_fx tp F al rfl rfl (fun _ => ⟨rfl, rfl⟩), rks_fx rk F al (fun _ => ⟨rfl, rfl⟩) (fun _ => rfl) (fun _ => rfl) rfl, shs_fx sh F al (fun _ => ⟨rfl, rfl, rfl⟩) rfl, hds_fx hd F al (fun _ => ⟨rfl, rfl, rfl, rfl⟩) rfl rfl, kep_fx kp F al rfl rfl rfl (fun _ => rfl) rfl rfl, plx_fx pl F al rfl rfl⟩⟩
theorem st_odds (s : sg h) (p : Int32) (j : Int32) (v : Int32) (i : Int32) (e : Int32) (part : Int32) : ∃ h1 h2 res, XX true 6 49 0 [.ref 64, .int (p), .int (j), .int (v), .int (i), .int (e), .int (part), ax_junk] [] (h) (some (.long (res)), h1) ∧ XX true 5 188 0 [.ref 153, .int (p), .int (j), .int (v), .int (i), .int (e), .int (part), ax_junk, ax_junk, ax_junk, ax_junk, ax_junk, ax_junk] [] (h1) (some (.long (res)), h2) ∧ stp h h1 ∧ stp h h2 ∧ sg h2 := by
  obtain ⟨c, n, K, P, B, W, np, T, C, nr, U, V, sk, gs, gw, gp, gr, gk, tp, rk, sh, hd, kp, pl⟩ := s
  have al := gs.al
  obtain ⟨ms, S, ts⟩ := id gs
  obtain ⟨mw, cw⟩ := id gw
  obtain ⟨mp, cp⟩ := id gp
  obtain ⟨mr, ⟨TA, AA, cr⟩, cj⟩ := id gr
  obtain ⟨mk, ck⟩ := id gk
  obtain ⟨A, pl0⟩ := id pl
  obtain ⟨h1, A1, r1, f1, pl1⟩ := co_odds ts cp pl0 p j v i e part
  have f1x := f1.fx
  obtain ⟨h2, r2, f2⟩ := mo_odds (mS_fx ms f1x al rfl rfl (fun _ => ⟨rfl, rfl, rfl⟩)) (mP_fx mp f1x al rfl (fun _ => rfl)) p j v i e part
  have F := fx2 f1x f2 rfl rfl
  exact ⟨h1, h2, _, r1, r2, f1x.stp al (by decide) (fun _ => rfl), F.stp al (by decide) (fun _ => rfl), ⟨c, n, K, P, B, W, np, T, C, nr, U, V, sk, gS_fx gs F rfl rfl (fun _ => ⟨rfl, rfl, rfl⟩) rfl rfl, gW_fx gw F al (fun _ => ⟨rfl, rfl⟩), gP_fx gp F al rfl (fun _ => rfl) rfl, gQ_fx gr F al rfl (fun _ => rfl) rfl rfl rfl rfl, gK_fx gk F al rfl rfl, tap_fx tp F al rfl rfl (fun _ => ⟨rfl, rfl⟩), rks_fx rk F al (fun _ => ⟨rfl, rfl⟩) (fun _ => rfl) (fun _ => rfl) rfl, shs_fx sh F al (fun _ => ⟨rfl, rfl, rfl⟩) rfl, hds_fx hd F al (fun _ => ⟨rfl, rfl, rfl, rfl⟩) rfl rfl, kep_fx kp F al rfl rfl rfl (fun _ => rfl) rfl rfl, ⟨A1, cPl_fr pl1 f2 rfl rfl⟩⟩⟩
theorem st_ruleOf (s : sg h) (i : Int32) (k : Int32) : ∃ h1 h2 res, XX true 4 81 0 [.ref 64, .int (i), .int (k)] [] (h) (some (.int (res)), h1) ∧ XX true 16 205 0 [.ref 153, .int (i), .int (k)] [] (h1) (some (.int (res)), h2) ∧ stp h h1 ∧ stp h h2 ∧ sg h2 := by
  obtain ⟨c, n, K, P, B, W, np, T, C, nr, U, V, sk, gs, gw, gp, gr, gk, tp, rk, sh, hd, kp, pl⟩ := s
  have al := gs.al
  obtain ⟨ms, S, ts⟩ := id gs
  obtain ⟨mw, cw⟩ := id gw
  obtain ⟨mp, cp⟩ := id gp
  obtain ⟨mr, ⟨TA, AA, cr⟩, cj⟩ := id gr
  obtain ⟨mk, ck⟩ := id gk
  obtain ⟨h1, r1, f1⟩ := co_ruleOf ts cr cw i k
  have f1x := f1.fx
  obtain ⟨h2, r2, f2⟩ := mo_ruleOf (mS_fx ms f1x al rfl rfl (fun _ => ⟨rfl, rfl, rfl⟩)) (mR_fx mr f1x al rfl (fun _ => rfl)) (mW_fx mw f1x al (fun _ => rfl)) i k
  have F := fx2 f1x f2 rfl rfl
  exact ⟨h1, h2, _, r1, r2, f1x.stp al (by decide) (fun _ => rfl), F.stp al (by decide) (fun _ => rfl), ⟨c, n, K, P, B, W, np, T, C, nr, U, V, sk, gS_fx gs F rfl rfl (fun _ => ⟨rfl, rfl, rfl⟩) rfl rfl, gW_fx gw F al (fun _ => ⟨rfl, rfl⟩), gP_fx gp F al rfl (fun _ => rfl) rfl, gQ_fx gr F al rfl (fun _ => rfl) rfl rfl rfl rfl, gK_fx gk F al rfl rfl, tap_fx tp F al rfl rfl (fun _ => ⟨rfl, rfl⟩), rks_fx rk F al (fun _ => ⟨rfl, rfl⟩) (fun _ => rfl) (fun _ => rfl) rfl, shs_fx sh F al (fun _ => ⟨rfl, rfl, rfl⟩) rfl, hds_fx hd F al (fun _ => ⟨rfl, rfl, rfl, rfl⟩) rfl rfl, kep_fx kp F al rfl rfl rfl (fun _ => rfl) rfl rfl, plx_fx pl F al rfl rfl⟩⟩
theorem st_pay (s : sg h) (p : Int32) (i : Int32) : ∃ h1 h2 res, XX true 5 88 0 [.ref 64, .int (p), .int (i), ax_junk, ax_junk] [] (h) (some (.long (res)), h1) ∧ XX true 17 209 0 [.ref 153, .int (p), .int (i), ax_junk, ax_junk] [] (h1) (some (.long (res)), h2) ∧ stp h h1 ∧ stp h h2 ∧ sg h2 := by
  obtain ⟨c, n, K, P, B, W, np, T, C, nr, U, V, sk, gs, gw, gp, gr, gk, tp, rk, sh, hd, kp, pl⟩ := s
  have al := gs.al
  obtain ⟨ms, S, ts⟩ := id gs
  obtain ⟨mw, cw⟩ := id gw
  obtain ⟨mp, cp⟩ := id gp
  obtain ⟨mr, ⟨TA, AA, cr⟩, cj⟩ := id gr
  obtain ⟨mk, ck⟩ := id gk
  obtain ⟨h1, r1, f1⟩ := co_pay ts cr cw ck p i
  have f1x := f1.fx
  obtain ⟨h2, r2, f2⟩ := mo_pay (mS_fx ms f1x al rfl rfl (fun _ => ⟨rfl, rfl, rfl⟩)) (mR_fx mr f1x al rfl (fun _ => rfl)) (mW_fx mw f1x al (fun _ => rfl)) (mK_fx mk f1x al rfl) p i
  have F := fx2 f1x f2 rfl rfl
  exact ⟨h1, h2, _, r1, r2, f1x.stp al (by decide) (fun _ => rfl), F.stp al (by decide) (fun _ => rfl), ⟨c, n, K, P, B, W, np, T, C, nr, U, V, sk, gS_fx gs F rfl rfl (fun _ => ⟨rfl, rfl, rfl⟩) rfl rfl, gW_fx gw F al (fun _ => ⟨rfl, rfl⟩), gP_fx gp F al rfl (fun _ => rfl) rfl, gQ_fx gr F al rfl (fun _ => rfl) rfl rfl rfl rfl, gK_fx gk F al rfl rfl, tap_fx tp F al rfl rfl (fun _ => ⟨rfl, rfl⟩), rks_fx rk F al (fun _ => ⟨rfl, rfl⟩) (fun _ => rfl) (fun _ => rfl) rfl, shs_fx sh F al (fun _ => ⟨rfl, rfl, rfl⟩) rfl, hds_fx hd F al (fun _ => ⟨rfl, rfl, rfl, rfl⟩) rfl rfl, kep_fx kp F al rfl rfl rfl (fun _ => rfl) rfl rfl, plx_fx pl F al rfl rfl⟩⟩
theorem st_mean (s : sg h) (p : Int32) (part : Int32) : ∃ h1 h2 res, XX true 7 91 0 [.ref 64, .int (p), .int (part), ax_junk, ax_junk, ax_junk, ax_junk, ax_junk, ax_junk, ax_junk, ax_junk, ax_junk, ax_junk] [] (h) (some (.long (res)), h1) ∧ XX true 18 212 0 [.ref 153, .int (p), .int (part), ax_junk, ax_junk, ax_junk, ax_junk, ax_junk, ax_junk] [] (h1) (some (.long (res)), h2) ∧ stp h h1 ∧ stp h h2 ∧ sg h2 := by
  obtain ⟨c, n, K, P, B, W, np, T, C, nr, U, V, sk, gs, gw, gp, gr, gk, tp, rk, sh, hd, kp, pl⟩ := s
  have al := gs.al
  obtain ⟨ms, S, ts⟩ := id gs
  obtain ⟨mw, cw⟩ := id gw
  obtain ⟨mp, cp⟩ := id gp
  obtain ⟨mr, ⟨TA, AA, cr⟩, cj⟩ := id gr
  obtain ⟨mk, ck⟩ := id gk
  obtain ⟨A, pl0⟩ := id pl
  obtain ⟨h1, A1, r1, f1, pl1⟩ := co_mean ts cp cr cw ck pl0 p part
  have f1x := f1.fx
  obtain ⟨h2, r2, f2⟩ := mo_mean (mS_fx ms f1x al rfl rfl (fun _ => ⟨rfl, rfl, rfl⟩)) (mP_fx mp f1x al rfl (fun _ => rfl)) (mR_fx mr f1x al rfl (fun _ => rfl)) (mW_fx mw f1x al (fun _ => rfl)) (mK_fx mk f1x al rfl) p part
  have F := fx2 f1x f2 rfl rfl
  exact ⟨h1, h2, _, r1, r2, f1x.stp al (by decide) (fun _ => rfl), F.stp al (by decide) (fun _ => rfl), ⟨c, n, K, P, B, W, np, T, C, nr, U, V, sk, gS_fx gs F rfl rfl (fun _ => ⟨rfl, rfl, rfl⟩) rfl rfl, gW_fx gw F al (fun _ => ⟨rfl, rfl⟩), gP_fx gp F al rfl (fun _ => rfl) rfl, gQ_fx gr F al rfl (fun _ => rfl) rfl rfl rfl rfl, gK_fx gk F al rfl rfl, tap_fx tp F al rfl rfl (fun _ => ⟨rfl, rfl⟩), rks_fx rk F al (fun _ => ⟨rfl, rfl⟩) (fun _ => rfl) (fun _ => rfl) rfl, shs_fx sh F al (fun _ => ⟨rfl, rfl, rfl⟩) rfl, hds_fx hd F al (fun _ => ⟨rfl, rfl, rfl, rfl⟩) rfl rfl, kep_fx kp F al rfl rfl rfl (fun _ => rfl) rfl rfl, ⟨A1, cPl_fr pl1 f2 rfl rfl⟩⟩⟩
theorem st_reply (s : sg h) (p : Int32) (part : Int32) : ∃ h1 h2 res, XX true 7 93 0 [.ref 64, .int (p), .int (part)] [] (h) (some (.long (res)), h1) ∧ XX true 19 214 0 [.ref 153, .int (p), .int (part)] [] (h1) (some (.long (res)), h2) ∧ stp h h1 ∧ stp h h2 ∧ sg h2 := by
  obtain ⟨c, n, K, P, B, W, np, T, C, nr, U, V, sk, gs, gw, gp, gr, gk, tp, rk, sh, hd, kp, pl⟩ := s
  have al := gs.al
  obtain ⟨ms, S, ts⟩ := id gs
  obtain ⟨mw, cw⟩ := id gw
  obtain ⟨mp, cp⟩ := id gp
  obtain ⟨mr, ⟨TA, AA, cr⟩, cj⟩ := id gr
  obtain ⟨mk, ck⟩ := id gk
  obtain ⟨A, pl0⟩ := id pl
  obtain ⟨h1, A1, r1, f1, pl1⟩ := co_reply ts cp cr cw pl0 p part
  have f1x := f1.fx
  obtain ⟨h2, r2, f2⟩ := mo_reply (mS_fx ms f1x al rfl rfl (fun _ => ⟨rfl, rfl, rfl⟩)) (mP_fx mp f1x al rfl (fun _ => rfl)) (mR_fx mr f1x al rfl (fun _ => rfl)) (mW_fx mw f1x al (fun _ => rfl)) p part
  have F := fx2 f1x f2 rfl rfl
  exact ⟨h1, h2, _, r1, r2, f1x.stp al (by decide) (fun _ => rfl), F.stp al (by decide) (fun _ => rfl), ⟨c, n, K, P, B, W, np, T, C, nr, U, V, sk, gS_fx gs F rfl rfl (fun _ => ⟨rfl, rfl, rfl⟩) rfl rfl, gW_fx gw F al (fun _ => ⟨rfl, rfl⟩), gP_fx gp F al rfl (fun _ => rfl) rfl, gQ_fx gr F al rfl (fun _ => rfl) rfl rfl rfl rfl, gK_fx gk F al rfl rfl, tap_fx tp F al rfl rfl (fun _ => ⟨rfl, rfl⟩), rks_fx rk F al (fun _ => ⟨rfl, rfl⟩) (fun _ => rfl) (fun _ => rfl) rfl, shs_fx sh F al (fun _ => ⟨rfl, rfl, rfl⟩) rfl, hds_fx hd F al (fun _ => ⟨rfl, rfl, rfl, rfl⟩) rfl rfl, kep_fx kp F al rfl rfl rfl (fun _ => rfl) rfl rfl, ⟨A1, cPl_fr pl1 f2 rfl rfl⟩⟩⟩
theorem st_recalls (s : sg h) (p : Int32) : ∃ h1 h2 res, XX true 6 68 0 [.ref 64, .int (p)] [] (h) (some (.int (res)), h1) ∧ XX true 7 197 0 [.ref 153, .int (p), ax_junk] [] (h1) (some (.int (res)), h2) ∧ stp h h1 ∧ stp h h2 ∧ sg h2 := by
  obtain ⟨c, n, K, P, B, W, np, T, C, nr, U, V, sk, gs, gw, gp, gr, gk, tp, rk, sh, hd, kp, pl⟩ := s
  have al := gs.al
  obtain ⟨ms, S, ts⟩ := id gs
  obtain ⟨mw, cw⟩ := id gw
  obtain ⟨mp, cp⟩ := id gp
  obtain ⟨mr, ⟨TA, AA, cr⟩, cj⟩ := id gr
  obtain ⟨mk, ck⟩ := id gk
  obtain ⟨h1, x1, r1, f1, d1⟩ := co_recalls ts p
  have f1x := f1.fx
  obtain ⟨h2, x2, r2, f2, d2⟩ := mo_recalls (mS_fx ms f1x al rfl rfl (fun _ => ⟨rfl, rfl, rfl⟩)) p
  have F := fx2 f1x f2 rfl rfl
  have e : x2 = x1 := by
    rcases d1 with ⟨a1, b1⟩ | ⟨a1, a2, b1⟩ | ⟨a1, a2, b1⟩ <;> rcases d2 with ⟨y1, z1⟩ | ⟨y1, y2, z1⟩ | ⟨y1, y2, z1⟩ <;> first | exact z1.trans b1.symm | exact absurd y1 a1 | exact absurd a1 y1 | exact absurd y2 a2 | exact absurd a2 y2
  rw [e] at r2
  exact ⟨h1, h2, _, r1, r2, f1x.stp al (by decide) (fun _ => rfl), F.stp al (by decide) (fun _ => rfl), ⟨c, n, K, P, B, W, np, T, C, nr, U, V, sk, gS_fx gs F rfl rfl (fun _ => ⟨rfl, rfl, rfl⟩) rfl rfl, gW_fx gw F al (fun _ => ⟨rfl, rfl⟩), gP_fx gp F al rfl (fun _ => rfl) rfl, gQ_fx gr F al rfl (fun _ => rfl) rfl rfl rfl rfl, gK_fx gk F al rfl rfl, tap_fx tp F al rfl rfl (fun _ => ⟨rfl, rfl⟩), rks_fx rk F al (fun _ => ⟨rfl, rfl⟩) (fun _ => rfl) (fun _ => rfl) rfl, shs_fx sh F al (fun _ => ⟨rfl, rfl, rfl⟩) rfl, hds_fx hd F al (fun _ => ⟨rfl, rfl, rfl, rfl⟩) rfl rfl, kep_fx kp F al rfl rfl rfl (fun _ => rfl) rfl rfl, plx_fx pl F al rfl rfl⟩⟩
theorem st_settled (s : sg h) : ∃ h1 h2 res, XX true 7 105 0 [.ref 64, ax_junk] [] (h) (some (.int (res)), h1) ∧ XX true 19 222 0 [.ref 153, ax_junk] [] (h1) (some (.int (res)), h2) ∧ stp h h1 ∧ stp h h2 ∧ sg h2 := by
  obtain ⟨c, n, K, P, B, W, np, T, C, nr, U, V, sk, gs, gw, gp, gr, gk, tp, rk, sh, hd, kp, pl⟩ := s
  have al := gs.al
  obtain ⟨ms, S, ts⟩ := id gs
  obtain ⟨mw, cw⟩ := id gw
  obtain ⟨mp, cp⟩ := id gp
  obtain ⟨mr, ⟨TA, AA, cr⟩, cj⟩ := id gr
  obtain ⟨mk, ck⟩ := id gk
  obtain ⟨A, pl0⟩ := id pl
  obtain ⟨h1, A1, x1, r1, f1, pl1, d1⟩ := co_settled ts cp cr cw pl0
  have f1x := f1.fx
  obtain ⟨h2, x2, r2, f2, d2⟩ := mo_settled (mS_fx ms f1x al rfl rfl (fun _ => ⟨rfl, rfl, rfl⟩)) (mP_fx mp f1x al rfl (fun _ => rfl)) (mR_fx mr f1x al rfl (fun _ => rfl)) (mW_fx mw f1x al (fun _ => rfl))
  have F := fx2 f1x f2 rfl rfl
  have e : x2 = x1 := by
    rcases d1 with ⟨⟨y, y1, y2⟩, b1⟩ | ⟨a1, a2, b1⟩ | ⟨a1, ⟨y, y1, y2⟩, b1⟩ <;> rcases d2 with ⟨⟨z, z1, z2⟩, b2⟩ | ⟨w1, w2, b2⟩ | ⟨w1, ⟨z, z1, z2⟩, b2⟩ <;> first | exact b2.trans b1.symm | exact absurd y2 (w1 y y1) | exact absurd z2 (a1 z z1) | exact absurd (w2 y y1) y2 | exact absurd (a2 z z1) z2
  rw [e] at r2
  exact ⟨h1, h2, _, r1, r2, f1x.stp al (by decide) (fun _ => rfl), F.stp al (by decide) (fun _ => rfl), ⟨c, n, K, P, B, W, np, T, C, nr, U, V, sk, gS_fx gs F rfl rfl (fun _ => ⟨rfl, rfl, rfl⟩) rfl rfl, gW_fx gw F al (fun _ => ⟨rfl, rfl⟩), gP_fx gp F al rfl (fun _ => rfl) rfl, gQ_fx gr F al rfl (fun _ => rfl) rfl rfl rfl rfl, gK_fx gk F al rfl rfl, tap_fx tp F al rfl rfl (fun _ => ⟨rfl, rfl⟩), rks_fx rk F al (fun _ => ⟨rfl, rfl⟩) (fun _ => rfl) (fun _ => rfl) rfl, shs_fx sh F al (fun _ => ⟨rfl, rfl, rfl⟩) rfl, hds_fx hd F al (fun _ => ⟨rfl, rfl, rfl, rfl⟩) rfl rfl, kep_fx kp F al rfl rfl rfl (fun _ => rfl) rfl rfl, ⟨A1, cPl_fr pl1 f2 rfl rfl⟩⟩⟩
theorem st_stage (s : sg h) (k : Int32) (p : Int32) (b : Int32) : ∃ h1 h2 res, XX true 6 12 0 [.ref 64, .int (k), .int (p), .int (b)] [] (h) (some (.int (res)), h1) ∧ XX true 4 157 0 [.ref 153, .int (k), .int (p), .int (b)] [] (h1) (some (.int (res)), h2) ∧ stp h h1 ∧ stp h h2 ∧ sg h2 := by
  obtain ⟨c, n, K, P, B, W, np, T, C, nr, U, V, sk, gs, gw, gp, gr, gk, tp, rk, sh, hd, kp, pl⟩ := s
  have al := gs.al
  obtain ⟨ms, S, ts⟩ := id gs
  obtain ⟨mw, cw⟩ := id gw
  obtain ⟨mp, cp⟩ := id gp
  obtain ⟨mr, ⟨TA, AA, cr⟩, cj⟩ := id gr
  obtain ⟨mk, ck⟩ := id gk
  by_cases q : puts c n K k p b
  · obtain ⟨h1, r1, f1, c1⟩ := (co_stage ts k p b).1 q
    have f1x := f1
    have al1 := Nat.le_trans al f1x.1
    obtain ⟨h2, r2, f2, m2⟩ := (mo_stage (mS_fx ms f1x al rfl rfl (fun _ => ⟨rfl, rfl, rfl⟩)) k p b).1 q
    have F := fx2 f1x f2 rfl rfl
    exact ⟨h1, h2, _, r1, r2, f1x.stp al (by decide) (fun _ => rfl), F.stp al (by decide) (fun _ => rfl), ⟨c, n + 1, updN K n (ix k), updN P n (ix p), updN B n (ix b), W, np, T, C, nr, U, V, sk, ⟨m2, _, tS_fx c1 f2.fx (by decide) rfl rfl⟩, gW_fx gw F al (fun _ => ⟨rfl, rfl⟩), gP_fx gp F al rfl (fun _ => rfl) rfl, gQ_fx gr F al rfl (fun _ => rfl) rfl rfl rfl rfl, gK_fx gk F al rfl rfl, tap_fx tp F al rfl rfl (fun _ => ⟨rfl, rfl⟩), rks_fx rk F al (fun _ => ⟨rfl, rfl⟩) (fun _ => rfl) (fun _ => rfl) rfl, shs_fx sh F al (fun _ => ⟨rfl, rfl, rfl⟩) rfl, hds_fx hd F al (fun _ => ⟨rfl, rfl, rfl, rfl⟩) rfl rfl, kep_fx kp F al rfl rfl rfl (fun _ => rfl) rfl rfl, plx_fx pl F al rfl rfl⟩⟩
  · exact ⟨h, h, _, (co_stage ts k p b).2 q, (mo_stage ms k p b).2 q, (fr.rfl' (L := [])).fx.stp al (by decide) (fun _ => rfl), (fr.rfl' (L := [])).fx.stp al (by decide) (fun _ => rfl), c, n, K, P, B, W, np, T, C, nr, U, V, sk, gs, gw, gp, gr, gk, tp, rk, sh, hd, kp, pl⟩
theorem st_drop (s : sg h) : ∃ h1 h2 res, XX true 1 33 0 [.ref 64] [] (h) (some (.int (res)), h1) ∧ XX true 1 171 0 [.ref 153] [] (h1) (some (.int (res)), h2) ∧ stp h h1 ∧ stp h h2 ∧ sg h2 := by
  obtain ⟨c, n, K, P, B, W, np, T, C, nr, U, V, sk, gs, gw, gp, gr, gk, tp, rk, sh, hd, kp, pl⟩ := s
  have al := gs.al
  obtain ⟨ms, S, ts⟩ := id gs
  obtain ⟨mw, cw⟩ := id gw
  obtain ⟨mp, cp⟩ := id gp
  obtain ⟨mr, ⟨TA, AA, cr⟩, cj⟩ := id gr
  obtain ⟨mk, ck⟩ := id gk
  obtain ⟨h1, r1, f1, c1⟩ := co_drop ts
  have f1x := f1.fx
  obtain ⟨h2, r2, f2, m2⟩ := mo_drop (mS_fx ms f1x al rfl rfl (fun _ => ⟨rfl, rfl, rfl⟩))
  have F := fx2 f1x f2 rfl rfl
  exact ⟨h1, h2, _, r1, r2, f1x.stp al (by decide) (fun _ => rfl), F.stp al (by decide) (fun _ => rfl), ⟨c, n - 1, K, P, B, W, np, T, C, nr, U, V, sk, ⟨m2, S, tS_fx c1 f2.fx (by decide) rfl rfl⟩, gW_fx gw F al (fun _ => ⟨rfl, rfl⟩), gP_fx gp F al rfl (fun _ => rfl) rfl, gQ_fx gr F al rfl (fun _ => rfl) rfl rfl rfl rfl, gK_fx gk F al rfl rfl, tap_fx tp F al rfl rfl (fun _ => ⟨rfl, rfl⟩), rks_fx rk F al (fun _ => ⟨rfl, rfl⟩) (fun _ => rfl) (fun _ => rfl) rfl, shs_fx sh F al (fun _ => ⟨rfl, rfl, rfl⟩) rfl, hds_fx hd F al (fun _ => ⟨rfl, rfl, rfl, rfl⟩) rfl rfl, kep_fx kp F al rfl rfl rfl (fun _ => rfl) rfl rfl, plx_fx pl F al rfl rfl⟩⟩
theorem st_worth (s : sg h) (i : Int32) (v : Int32) : ∃ h1 h2 res, XX true 1 11 0 [.ref 64, .int (i), .int (v), ax_junk] [] (h) (some (.int (res)), h1) ∧ XX true 2 156 0 [.ref 153, .int (i), .int (v), ax_junk] [] (h1) (some (.int (res)), h2) ∧ stp h h1 ∧ stp h h2 ∧ sg h2 := by
  obtain ⟨c, n, K, P, B, W, np, T, C, nr, U, V, sk, gs, gw, gp, gr, gk, tp, rk, sh, hd, kp, pl⟩ := s
  have al := gs.al
  obtain ⟨ms, S, ts⟩ := id gs
  obtain ⟨mw, cw⟩ := id gw
  obtain ⟨mp, cp⟩ := id gp
  obtain ⟨mr, ⟨TA, AA, cr⟩, cj⟩ := id gr
  obtain ⟨mk, ck⟩ := id gk
  by_cases q : isLt c i ∧ -nI 9 ≤ v ∧ v ≤ nI 9
  · obtain ⟨h1, r1, f1, c1⟩ := (co_worth ts cw i v).1 q
    have f1x := f1.fx
    have al1 := Nat.le_trans al f1x.1
    obtain ⟨h2, r2, f2, m2⟩ := (mo_worth (mS_fx ms f1x al rfl rfl (fun _ => ⟨rfl, rfl, rfl⟩)) (mW_fx mw f1x al (fun _ => rfl)) i v).1 q
    have F := fx2 f1x f2 rfl rfl
    exact ⟨h1, h2, _, r1, r2, f1x.stp al (by decide) (fun _ => rfl), F.stp al (by decide) (fun _ => rfl), ⟨c, n, K, P, B, updZ W (ix i) v.toInt, np, T, C, nr, U, V, sk, ⟨mS_fx ms F al rfl rfl (fun _ => ⟨rfl, rfl, rfl⟩), S, tS_fx' ts F (by decide) rfl rfl rfl rfl⟩, ⟨m2, cW_fx c1 f2.fx al1 (by decide) (fun _ => rfl)⟩, gP_fx gp F al rfl (fun _ => rfl) rfl, gQ_fx gr F al rfl (fun _ => rfl) rfl rfl rfl rfl, gK_fx gk F al rfl rfl, tap_fx tp F al rfl rfl (fun _ => ⟨rfl, rfl⟩), rks_fx rk F al (fun _ => ⟨rfl, rfl⟩) (fun _ => rfl) (fun _ => rfl) rfl, shs_fx sh F al (fun _ => ⟨rfl, rfl, rfl⟩) rfl, hds_fx hd F al (fun _ => ⟨rfl, rfl, rfl, rfl⟩) rfl rfl, kep_fx kp F al rfl rfl rfl (fun _ => rfl) rfl rfl, plx_fx pl F al rfl rfl⟩⟩
  · exact ⟨h, h, _, (co_worth ts cw i v).2 q, (mo_worth ms mw i v).2 q, (fr.rfl' (L := [])).fx.stp al (by decide) (fun _ => rfl), (fr.rfl' (L := [])).fx.stp al (by decide) (fun _ => rfl), c, n, K, P, B, W, np, T, C, nr, U, V, sk, gs, gw, gp, gr, gk, tp, rk, sh, hd, kp, pl⟩
theorem st_plan (s : sg h) (p : Int32) (j : Int32) (v : Int32) (x : Int32) : ∃ h1 h2 res, XX true 4 72 0 [.ref 64, .int (p), .int (j), .int (v), .int (x), ax_junk] [] (h) (some (.int (res)), h1) ∧ XX true 6 199 0 [.ref 153, .int (p), .int (j), .int (v), .int (x), ax_junk] [] (h1) (some (.int (res)), h2) ∧ stp h h1 ∧ stp h h2 ∧ sg h2 := by
  obtain ⟨c, n, K, P, B, W, np, T, C, nr, U, V, sk, gs, gw, gp, gr, gk, tp, rk, sh, hd, kp, pl⟩ := s
  have al := gs.al
  obtain ⟨ms, S, ts⟩ := id gs
  obtain ⟨mw, cw⟩ := id gw
  obtain ⟨mp, cp⟩ := id gp
  obtain ⟨mr, ⟨TA, AA, cr⟩, cj⟩ := id gr
  obtain ⟨mk, ck⟩ := id gk
  by_cases q : plans' c n K P B np T p j v x
  · obtain ⟨h1, r1, f1, c1⟩ := (co_plan ts cp p j v x).1 q
    have f1x := f1.fx
    have al1 := Nat.le_trans al f1x.1
    obtain ⟨h2, r2, f2, m2⟩ := (mo_plan (mS_fx ms f1x al rfl rfl (fun _ => ⟨rfl, rfl, rfl⟩)) (mP_fx mp f1x al rfl (fun _ => rfl)) p j v x).1 q
    have F := fx2 f1x f2 rfl rfl
    exact ⟨h1, h2, _, r1, r2, f1x.stp al (by decide) (fun _ => rfl), F.stp al (by decide) (fun _ => rfl), ⟨c, n, K, P, B, W, v_tn np T (ix p) (ix j) (ix v), updN T (v_pat np T (ix p) (ix j) (ix v)) (v_key (ix p) (ix j) (ix v)), updN C (v_pat np T (ix p) (ix j) (ix v)) (ix x), nr, U, V, sk, gS_fx gs F rfl rfl (fun _ => ⟨rfl, rfl, rfl⟩) rfl rfl, gW_fx gw F al (fun _ => ⟨rfl, rfl⟩), ⟨m2, cP_fx c1 f2.fx al1 (by decide) rfl⟩, gQ_fx gr F al rfl (fun _ => rfl) rfl rfl rfl rfl, gK_fx gk F al rfl rfl, tap_fx tp F al rfl rfl (fun _ => ⟨rfl, rfl⟩), rks_fx rk F al (fun _ => ⟨rfl, rfl⟩) (fun _ => rfl) (fun _ => rfl) rfl, shs_fx sh F al (fun _ => ⟨rfl, rfl, rfl⟩) rfl, hds_fx hd F al (fun _ => ⟨rfl, rfl, rfl, rfl⟩) rfl rfl, kep_fx kp F al rfl rfl rfl (fun _ => rfl) rfl rfl, plx_fx pl F al rfl rfl⟩⟩
  · obtain ⟨h1, r1, f1⟩ := (co_plan ts cp p j v x).2 q
    have f1x := f1.fx
    obtain ⟨h2, r2, f2⟩ := (mo_plan (mS_fx ms f1x al rfl rfl (fun _ => ⟨rfl, rfl, rfl⟩)) (mP_fx mp f1x al rfl (fun _ => rfl)) p j v x).2 q
    have F := fx2 f1x f2 rfl rfl
    exact ⟨h1, h2, _, r1, r2, f1x.stp al (by decide) (fun _ => rfl), F.stp al (by decide) (fun _ => rfl), ⟨c, n, K, P, B, W, np, T, C, nr, U, V, sk, gS_fx gs F rfl rfl (fun _ => ⟨rfl, rfl, rfl⟩) rfl rfl, gW_fx gw F al (fun _ => ⟨rfl, rfl⟩), gP_fx gp F al rfl (fun _ => rfl) rfl, gQ_fx gr F al rfl (fun _ => rfl) rfl rfl rfl rfl, gK_fx gk F al rfl rfl, tap_fx tp F al rfl rfl (fun _ => ⟨rfl, rfl⟩), rks_fx rk F al (fun _ => ⟨rfl, rfl⟩) (fun _ => rfl) (fun _ => rfl) rfl, shs_fx sh F al (fun _ => ⟨rfl, rfl, rfl⟩) rfl, hds_fx hd F al (fun _ => ⟨rfl, rfl, rfl, rfl⟩) rfl rfl, kep_fx kp F al rfl rfl rfl (fun _ => rfl) rfl rfl, plx_fx pl F al rfl rfl⟩⟩
theorem st_lot (s : sg h) (z : Int32) : ∃ h1 h2 res, XX true 5 74 0 [.ref 64, .int (z), ax_junk, ax_junk, ax_junk, ax_junk, ax_junk] [] (h) (some (.int (res)), h1) ∧ XX true 7 201 0 [.ref 153, .int (z), ax_junk, ax_junk, ax_junk] [] (h1) (some (.int (res)), h2) ∧ stp h h1 ∧ stp h h2 ∧ sg h2 := by
  obtain ⟨c, n, K, P, B, W, np, T, C, nr, U, V, sk, gs, gw, gp, gr, gk, tp, rk, sh, hd, kp, pl⟩ := s
  have al := gs.al
  obtain ⟨ms, S, ts⟩ := id gs
  obtain ⟨mw, cw⟩ := id gw
  obtain ⟨mp, cp⟩ := id gp
  obtain ⟨mr, ⟨TA, AA, cr⟩, cj⟩ := id gr
  obtain ⟨mk, ck⟩ := id gk
  obtain ⟨h1, r1, f1, c1⟩ := co_lot ts cp z
  have f1x := f1.fx
  have al1 := Nat.le_trans al f1x.1
  obtain ⟨h2, r2, f2, m2⟩ := mo_lot (mS_fx ms f1x al rfl rfl (fun _ => ⟨rfl, rfl, rfl⟩)) (mP_fx mp f1x al rfl (fun _ => rfl)) z
  have F := fx2 f1x f2 rfl rfl
  exact ⟨h1, h2, _, r1, r2, f1x.stp al (by decide) (fun _ => rfl), F.stp al (by decide) (fun _ => rfl), ⟨c, n, K, P, B, W, _, _, _, nr, U, V, sk, gS_fx gs F rfl rfl (fun _ => ⟨rfl, rfl, rfl⟩) rfl rfl, gW_fx gw F al (fun _ => ⟨rfl, rfl⟩), ⟨m2.1, cP_fx c1 f2.fx al1 (by decide) rfl⟩, gQ_fx gr F al rfl (fun _ => rfl) rfl rfl rfl rfl, gK_fx gk F al rfl rfl, tap_fx tp F al rfl rfl (fun _ => ⟨rfl, rfl⟩), rks_fx rk F al (fun _ => ⟨rfl, rfl⟩) (fun _ => rfl) (fun _ => rfl) rfl, shs_fx sh F al (fun _ => ⟨rfl, rfl, rfl⟩) rfl, hds_fx hd F al (fun _ => ⟨rfl, rfl, rfl, rfl⟩) rfl rfl, kep_fx kp F al rfl rfl rfl (fun _ => rfl) rfl rfl, plx_fx pl F al rfl rfl⟩⟩
theorem st_unplan (s : sg h) : ∃ h1 h2 res, XX true 1 75 0 [.ref 64, ax_junk] [] (h) (some (.int (res)), h1) ∧ XX true 1 203 0 [.ref 153, ax_junk] [] (h1) (some (.int (res)), h2) ∧ stp h h1 ∧ stp h h2 ∧ sg h2 := by
  obtain ⟨c, n, K, P, B, W, np, T, C, nr, U, V, sk, gs, gw, gp, gr, gk, tp, rk, sh, hd, kp, pl⟩ := s
  have al := gs.al
  obtain ⟨ms, S, ts⟩ := id gs
  obtain ⟨mw, cw⟩ := id gw
  obtain ⟨mp, cp⟩ := id gp
  obtain ⟨mr, ⟨TA, AA, cr⟩, cj⟩ := id gr
  obtain ⟨mk, ck⟩ := id gk
  obtain ⟨h1, r1, f1, c1⟩ := co_unplan cp
  have f1x := f1.fx
  have al1 := Nat.le_trans al f1x.1
  obtain ⟨h2, r2, f2, m2⟩ := mo_unplan (mP_fx mp f1x al rfl (fun _ => rfl))
  have F := fx2 f1x f2 rfl rfl
  exact ⟨h1, h2, _, r1, r2, f1x.stp al (by decide) (fun _ => rfl), F.stp al (by decide) (fun _ => rfl), ⟨c, n, K, P, B, W, 0, T, C, nr, U, V, sk, gS_fx gs F rfl rfl (fun _ => ⟨rfl, rfl, rfl⟩) rfl rfl, gW_fx gw F al (fun _ => ⟨rfl, rfl⟩), ⟨m2, cP_fx c1 f2.fx al1 (by decide) rfl⟩, gQ_fx gr F al rfl (fun _ => rfl) rfl rfl rfl rfl, gK_fx gk F al rfl rfl, tap_fx tp F al rfl rfl (fun _ => ⟨rfl, rfl⟩), rks_fx rk F al (fun _ => ⟨rfl, rfl⟩) (fun _ => rfl) (fun _ => rfl) rfl, shs_fx sh F al (fun _ => ⟨rfl, rfl, rfl⟩) rfl, hds_fx hd F al (fun _ => ⟨rfl, rfl, rfl, rfl⟩) rfl rfl, kep_fx kp F al rfl rfl rfl (fun _ => rfl) rfl rfl, plx_fx pl F al rfl rfl⟩⟩
theorem st_unrule (s : sg h) : ∃ h1 h2 res, XX true 1 87 0 [.ref 64] [] (h) (some (.int (res)), h1) ∧ XX true 1 208 0 [.ref 153] [] (h1) (some (.int (res)), h2) ∧ stp h h1 ∧ stp h h2 ∧ sg h2 := by
  obtain ⟨c, n, K, P, B, W, np, T, C, nr, U, V, sk, gs, gw, gp, gr, gk, tp, rk, sh, hd, kp, pl⟩ := s
  have al := gs.al
  obtain ⟨ms, S, ts⟩ := id gs
  obtain ⟨mw, cw⟩ := id gw
  obtain ⟨mp, cp⟩ := id gp
  obtain ⟨mr, ⟨TA, AA, cr⟩, cj⟩ := id gr
  obtain ⟨mk, ck⟩ := id gk
  obtain ⟨h1, r1, f1, c1⟩ := co_unrule cr al
  have f1x := f1.fx
  have al1 := Nat.le_trans al f1x.1
  obtain ⟨h2, r2, f2, m2⟩ := mo_unrule (mR_fx mr f1x al rfl (fun _ => rfl))
  have F := fx2 f1x f2 rfl rfl
  exact ⟨h1, h2, _, r1, r2, f1x.stp al (by decide) (fun _ => rfl), F.stp al (by decide) (fun _ => rfl), ⟨c, n, K, P, B, W, np, T, C, nr - 1, U, V, sk, gS_fx gs F rfl rfl (fun _ => ⟨rfl, rfl, rfl⟩) rfl rfl, gW_fx gw F al (fun _ => ⟨rfl, rfl⟩), gP_fx gp F al rfl (fun _ => rfl) rfl, ⟨m2, ⟨TA, AA, cR_fx c1 f2.fx al1 (by decide) rfl rfl rfl⟩, cJ_fx cj F al (by decide) rfl⟩, gK_fx gk F al rfl rfl, tap_fx tp F al rfl rfl (fun _ => ⟨rfl, rfl⟩), rks_fx rk F al (fun _ => ⟨rfl, rfl⟩) (fun _ => rfl) (fun _ => rfl) rfl, shs_fx sh F al (fun _ => ⟨rfl, rfl, rfl⟩) rfl, hds_fx hd F al (fun _ => ⟨rfl, rfl, rfl, rfl⟩) rfl rfl, kep_fx kp F al rfl rfl rfl (fun _ => rfl) rfl rfl, plx_fx pl F al rfl rfl⟩⟩
theorem st_rule (s : sg h) (t : Int32) (x : Int32) (y : Int32) (a : Int32) (b : Int32) (m : Int32) (v : Int32) : ∃ h1 h2 res, XX true 2 76 0 [.ref 64, .int (t), .int (x), .int (y), .int (a), .int (b), .int (m), .int (v)] [] (h) (some (.int (res)), h1) ∧ XX true 3 204 0 [.ref 153, .int (t), .int (x), .int (y), .int (a), .int (b), .int (m), .int (v), ax_junk] [] (h1) (some (.int (res)), h2) ∧ stp h h1 ∧ stp h h2 ∧ sg h2 := by
  obtain ⟨c, n, K, P, B, W, np, T, C, nr, U, V, sk, gs, gw, gp, gr, gk, tp, rk, sh, hd, kp, pl⟩ := s
  have al := gs.al
  obtain ⟨ms, S, ts⟩ := id gs
  obtain ⟨mw, cw⟩ := id gw
  obtain ⟨mp, cp⟩ := id gp
  obtain ⟨mr, ⟨TA, AA, cr⟩, cj⟩ := id gr
  obtain ⟨mk, ck⟩ := id gk
  by_cases q : isRule nr t x y a b m v
  · obtain ⟨h1, TA1, AA1, r1, f1, c1⟩ := (co_rule cr al t x y a b m v).1 q
    have f1x := f1
    have al1 := Nat.le_trans al f1x.1
    obtain ⟨h2, r2, f2, m2⟩ := (mo_rule (mR_fx mr f1x al rfl (fun _ => rfl)) t x y a b m v).1 q
    have F := fx2 f1x f2 (by simp [subS]) (by simp [subS])
    exact ⟨h1, h2, _, r1, r2, f1x.stp al (by decide) (fun _ => rfl), F.stp al (by decide) (fun _ => rfl), ⟨c, n, K, P, B, W, np, T, C, nr + 1, updN U nr (v_ru (ix t) (ix x) (ix y) (ix a) (ix b) (ix m)), updZ V nr v.toInt, sk, gS_fx gs F rfl rfl (fun _ => ⟨rfl, rfl, rfl⟩) rfl rfl, gW_fx gw F al (fun _ => ⟨rfl, rfl⟩), gP_fx gp F al rfl (fun _ => rfl) rfl, ⟨m2, ⟨TA1, AA1, cR_fx c1 f2.fx al1 (by decide) rfl rfl rfl⟩, cJ_fx (cJ_rule cj al f1x c1) f2.fx al1 (by decide) rfl⟩, gK_fx gk F al rfl rfl, tap_fx tp F al rfl rfl (fun _ => ⟨rfl, rfl⟩), rks_fx rk F al (fun _ => ⟨rfl, rfl⟩) (fun _ => rfl) (fun _ => rfl) rfl, shs_fx sh F al (fun _ => ⟨rfl, rfl, rfl⟩) rfl, hds_fx hd F al (fun _ => ⟨rfl, rfl, rfl, rfl⟩) rfl rfl, kep_fx kp F al rfl rfl rfl (fun _ => rfl) rfl rfl, plx_fx pl F al rfl rfl⟩⟩
  · exact ⟨h, h, _, (co_rule cr al t x y a b m v).2 q, (mo_rule mr t x y a b m v).2 q, (fr.rfl' (L := [])).fx.stp al (by decide) (fun _ => rfl), (fr.rfl' (L := [])).fx.stp al (by decide) (fun _ => rfl), c, n, K, P, B, W, np, T, C, nr, U, V, sk, gs, gw, gp, gr, gk, tp, rk, sh, hd, kp, pl⟩
theorem st_raise (s : sg h) (b : Int64) : ∃ h1 h2 res, XX true 2 106 0 [.ref 64, .long (b), ax_junk] [] (h) (some (.int (res)), h1) ∧ XX true 2 223 0 [.ref 153, .long (b), ax_junk] [] (h1) (some (.int (res)), h2) ∧ stp h h1 ∧ stp h h2 ∧ sg h2 := by
  obtain ⟨c, n, K, P, B, W, np, T, C, nr, U, V, sk, gs, gw, gp, gr, gk, tp, rk, sh, hd, kp, pl⟩ := s
  have al := gs.al
  obtain ⟨ms, S, ts⟩ := id gs
  obtain ⟨mw, cw⟩ := id gw
  obtain ⟨mp, cp⟩ := id gp
  obtain ⟨mr, ⟨TA, AA, cr⟩, cj⟩ := id gr
  obtain ⟨mk, ck⟩ := id gk
  by_cases q : isRaise sk b
  · obtain ⟨h1, r1, f1, c1⟩ := (co_raise ck b).1 q
    have f1x := f1.fx
    have al1 := Nat.le_trans al f1x.1
    obtain ⟨h2, r2, f2, m2⟩ := (mo_raise (mK_fx mk f1x al rfl) b).1 q
    have F := fx2 f1x f2 rfl rfl
    exact ⟨h1, h2, _, r1, r2, f1x.stp al (by decide) (fun _ => rfl), F.stp al (by decide) (fun _ => rfl), ⟨c, n, K, P, B, W, np, T, C, nr, U, V, sk * b.toInt.toNat, gS_fx gs F rfl rfl (fun _ => ⟨rfl, rfl, rfl⟩) rfl rfl, gW_fx gw F al (fun _ => ⟨rfl, rfl⟩), gP_fx gp F al rfl (fun _ => rfl) rfl, gQ_fx gr F al rfl (fun _ => rfl) rfl rfl rfl rfl, ⟨m2, cK_fx c1 f2.fx al1 (by decide) rfl⟩, tap_fx tp F al rfl rfl (fun _ => ⟨rfl, rfl⟩), rks_fx rk F al (fun _ => ⟨rfl, rfl⟩) (fun _ => rfl) (fun _ => rfl) rfl, shs_fx sh F al (fun _ => ⟨rfl, rfl, rfl⟩) rfl, hds_fx hd F al (fun _ => ⟨rfl, rfl, rfl, rfl⟩) rfl rfl, kep_fx kp F al rfl rfl rfl (fun _ => rfl) rfl rfl, plx_fx pl F al rfl rfl⟩⟩
  · exact ⟨h, h, _, (co_raise ck b).2 q, (mo_raise mk b).2 q, (fr.rfl' (L := [])).fx.stp al (by decide) (fun _ => rfl), (fr.rfl' (L := [])).fx.stp al (by decide) (fun _ => rfl), c, n, K, P, B, W, np, T, C, nr, U, V, sk, gs, gw, gp, gr, gk, tp, rk, sh, hd, kp, pl⟩
theorem st_better (s : sg h) (p : Int32) : ∃ h1 h2 res, XX true 7 102 0 [.ref 64, .int (p), ax_junk, ax_junk, ax_junk] [] (h) (some (.int (res)), h1) ∧ XX true 19 221 0 [.ref 153, .int (p), ax_junk, ax_junk, ax_junk] [] (h1) (some (.int (res)), h2) ∧ stp h h1 ∧ stp h h2 ∧ sg h2 := by
  obtain ⟨c, n, K, P, B, W, np, T, C, nr, U, V, sk, gs, gw, gp, gr, gk, tp, rk, sh, hd, kp, pl⟩ := s
  have al := gs.al
  obtain ⟨ms, S, ts⟩ := id gs
  obtain ⟨mw, cw⟩ := id gw
  obtain ⟨mp, cp⟩ := id gp
  obtain ⟨mr, ⟨TA, AA, cr⟩, cj⟩ := id gr
  obtain ⟨mk, ck⟩ := id gk
  obtain ⟨A, pl0⟩ := id pl
  by_cases q : isBetter c n K P B np T p
  · obtain ⟨h1, A1, r1, f1, pl1, c1⟩ := (co_better ts cp cr cw pl0 p).1 q
    have f1x := f1.fx
    have al1 := Nat.le_trans al f1x.1
    obtain ⟨h2, r2, f2, m2⟩ := (mo_better (mS_fx ms f1x al rfl rfl (fun _ => ⟨rfl, rfl, rfl⟩)) (mP_fx mp f1x al rfl (fun _ => rfl)) (mR_fx mr f1x al rfl (fun _ => rfl)) (mW_fx mw f1x al (fun _ => rfl)) p).1 q
    have F := fx2 f1x f2 rfl rfl
    exact ⟨h1, h2, _, r1, r2, f1x.stp al (by decide) (fun _ => rfl), F.stp al (by decide) (fun _ => rfl), ⟨c, n, K, P, B, W, _, _, _, nr, U, V, sk, gS_fx gs F rfl rfl (fun _ => ⟨rfl, rfl, rfl⟩) rfl rfl, gW_fx gw F al (fun _ => ⟨rfl, rfl⟩), ⟨m2, cP_fx c1 f2.fx al1 (by decide) rfl⟩, gQ_fx gr F al rfl (fun _ => rfl) rfl rfl rfl rfl, gK_fx gk F al rfl rfl, tap_fx tp F al rfl rfl (fun _ => ⟨rfl, rfl⟩), rks_fx rk F al (fun _ => ⟨rfl, rfl⟩) (fun _ => rfl) (fun _ => rfl) rfl, shs_fx sh F al (fun _ => ⟨rfl, rfl, rfl⟩) rfl, hds_fx hd F al (fun _ => ⟨rfl, rfl, rfl, rfl⟩) rfl rfl, kep_fx kp F al rfl rfl rfl (fun _ => rfl) rfl rfl, ⟨A1, cPl_fr pl1 f2 rfl rfl⟩⟩⟩
  · obtain ⟨h1, A1, r1, f1, pl1⟩ := (co_better ts cp cr cw pl0 p).2 q
    have f1x := f1.fx
    obtain ⟨h2, r2, f2⟩ := (mo_better (mS_fx ms f1x al rfl rfl (fun _ => ⟨rfl, rfl, rfl⟩)) (mP_fx mp f1x al rfl (fun _ => rfl)) (mR_fx mr f1x al rfl (fun _ => rfl)) (mW_fx mw f1x al (fun _ => rfl)) p).2 q
    have F := fx2 f1x f2 rfl rfl
    exact ⟨h1, h2, _, r1, r2, f1x.stp al (by decide) (fun _ => rfl), F.stp al (by decide) (fun _ => rfl), ⟨c, n, K, P, B, W, np, T, C, nr, U, V, sk, gS_fx gs F rfl rfl (fun _ => ⟨rfl, rfl, rfl⟩) rfl rfl, gW_fx gw F al (fun _ => ⟨rfl, rfl⟩), gP_fx gp F al rfl (fun _ => rfl) rfl, gQ_fx gr F al rfl (fun _ => rfl) rfl rfl rfl rfl, gK_fx gk F al rfl rfl, tap_fx tp F al rfl rfl (fun _ => ⟨rfl, rfl⟩), rks_fx rk F al (fun _ => ⟨rfl, rfl⟩) (fun _ => rfl) (fun _ => rfl) rfl, shs_fx sh F al (fun _ => ⟨rfl, rfl, rfl⟩) rfl, hds_fx hd F al (fun _ => ⟨rfl, rfl, rfl, rfl⟩) rfl rfl, kep_fx kp F al rfl rfl rfl (fun _ => rfl) rfl rfl, ⟨A1, cPl_fr pl1 f2 rfl rfl⟩⟩⟩
theorem st_pack (s : sg h) (m : Int32) : ∃ h1 h2 res, XX true 3 8 0 [.ref 64, .int (m), ax_junk] [] (h) (some (.int (res)), h1) ∧ XX true 2 154 0 [.ref 153, .int (m), ax_junk, ax_junk] [] (h1) (some (.int (res)), h2) ∧ stp h h1 ∧ stp h h2 ∧ sg h2 := by
  obtain ⟨c, n, K, P, B, W, np, T, C, nr, U, V, sk, gs, gw, gp, gr, gk, tp, rk, sh, hd, kp, pl⟩ := s
  have al := gs.al
  obtain ⟨ms, S, ts⟩ := id gs
  obtain ⟨mw, cw⟩ := id gw
  obtain ⟨mp, cp⟩ := id gp
  obtain ⟨mr, ⟨TA, AA, cr⟩, cj⟩ := id gr
  obtain ⟨mk, ck⟩ := id gk
  by_cases q : nI 1 ≤ m ∧ m ≤ nI 5
  · obtain ⟨h1, r1, f1, c1, c2, c3, c4, c5⟩ := (co_pack ts m).1 q
    have f1x := f1.fx
    have al1 := Nat.le_trans al f1x.1
    obtain ⟨h2, r2, f2, m1, m2, m3, m4, m5⟩ := (mo_pack (mS_fx ms f1x al rfl rfl (fun _ => ⟨rfl, rfl, rfl⟩)) m).1 q
    have F := fx2 f1x f2 rfl rfl
    have no : ∀ {p : Nat → Prop}, ∀ i, i < 0 → p i := fun i hi => absurd hi (Nat.not_lt_zero _)
    exact ⟨h1, h2, _, r1, r2, f1x.stp al (by decide) (fun _ => rfl), F.stp al (by decide) (fun _ => rfl), ⟨ix m, 0, K, P, B, fun _ => 0, 0, T, C, 0, U, V, 1, ⟨m1, S, tS_fx c1 f2.fx (by decide) rfl rfl⟩, ⟨m2, cW_fx c2 f2.fx al1 (by decide) (fun _ => rfl)⟩, ⟨⟨Nat.zero_le _, m3, no⟩, Nat.zero_le _, (f2.fx.I (by omega) rfl).trans c3, no⟩, ⟨⟨m4, ⟨Nat.zero_le _, no⟩, no⟩, ⟨TA, AA, (f2.fx.I (by omega) rfl).trans c4, ⟨⟨Nat.zero_le _, no⟩, no⟩, no, no⟩, cJ_fx cj F al (by decide) rfl⟩, ⟨⟨m5, by decide, by decide⟩, (f2.fx.L (by omega) rfl).trans c5, by decide, by decide⟩, tap_fx tp F al rfl rfl (fun _ => ⟨rfl, rfl⟩), rks_fx rk F al (fun _ => ⟨rfl, rfl⟩) (fun _ => rfl) (fun _ => rfl) rfl, shs_fx sh F al (fun _ => ⟨rfl, rfl, rfl⟩) rfl, hds_fx hd F al (fun _ => ⟨rfl, rfl, rfl, rfl⟩) rfl rfl, kep_fx kp F al rfl rfl rfl (fun _ => rfl) rfl rfl, plx_fx pl F al rfl rfl⟩⟩
  · exact ⟨h, h, _, (co_pack ts m).2 q, (mo_pack ms m).2 q, (fr.rfl' (L := [])).fx.stp al (by decide) (fun _ => rfl), (fr.rfl' (L := [])).fx.stp al (by decide) (fun _ => rfl), c, n, K, P, B, W, np, T, C, nr, U, V, sk, gs, gw, gp, gr, gk, tp, rk, sh, hd, kp, pl⟩
theorem st_feed (s : sg h) (m : Int32) (x : Int32) : ∃ h1 h2 res, XX true 2 107 0 [.ref 64, .int (m), .int (x)] [] (h) (some (.int (res)), h1) ∧ XX true 2 224 0 [.ref 153, .int (m), .int (x), ax_junk] [] (h1) (some (.int (res)), h2) ∧ stp h h1 ∧ stp h h2 ∧ sg h2 := by
  obtain ⟨c, n, K, P, B, W, np, T, C, nr, U, V, sk, gs, gw, gp, gr, gk, tp, rk, sh, hd, kp, pl⟩ := s
  have al := gs.al
  obtain ⟨ms, S, ts⟩ := id gs
  obtain ⟨mw, cw⟩ := id gw
  obtain ⟨mp, cp⟩ := id gp
  obtain ⟨mr, ⟨TA, AA, cr⟩, cj⟩ := id gr
  obtain ⟨mk, ck⟩ := id gk
  obtain ⟨tn, tb, mt, ct⟩ := id tp
  by_cases q : feedOk tn m
  · obtain ⟨h1, r1, f1, c1⟩ := (co_feed ct m x).1 q
    have f1x := f1.fx
    have al1 := Nat.le_trans al f1x.1
    obtain ⟨h2, r2, f2, m2⟩ := (mo_feed (mTp_fx mt f1x al rfl (fun _ => rfl)) m x).1 q
    have F := fx2 f1x f2 rfl rfl
    exact ⟨h1, h2, _, r1, r2, f1x.stp al (by decide) (fun _ => rfl), F.stp al (by decide) (fun _ => rfl), ⟨c, n, K, P, B, W, np, T, C, nr, U, V, sk, gS_fx gs F rfl rfl (fun _ => ⟨rfl, rfl, rfl⟩) rfl rfl, gW_fx gw F al (fun _ => ⟨rfl, rfl⟩), gP_fx gp F al rfl (fun _ => rfl) rfl, gQ_fx gr F al rfl (fun _ => rfl) rfl rfl rfl rfl, gK_fx gk F al rfl rfl, ⟨_, _, m2, cTp_fx c1 f2.fx al1 (fun _ => rfl) rfl⟩, rks_fx rk F al (fun _ => ⟨rfl, rfl⟩) (fun _ => rfl) (fun _ => rfl) rfl, shs_fx sh F al (fun _ => ⟨rfl, rfl, rfl⟩) rfl, hds_fx hd F al (fun _ => ⟨rfl, rfl, rfl, rfl⟩) rfl rfl, kep_fx kp F al rfl rfl rfl (fun _ => rfl) rfl rfl, plx_fx pl F al rfl rfl⟩⟩
  · exact ⟨h, h, _, (co_feed ct m x).2 q, (mo_feed mt m x).2 q, (fr.rfl' (L := [])).fx.stp al (by decide) (fun _ => rfl), (fr.rfl' (L := [])).fx.stp al (by decide) (fun _ => rfl), c, n, K, P, B, W, np, T, C, nr, U, V, sk, gs, gw, gp, gr, gk, tp, rk, sh, hd, kp, pl⟩
theorem st_text (s : sg h) : ∃ h1 h2 res, XX true 10 109 0 [.ref 64, ax_junk, ax_junk] [] (h) (some (.int (res)), h1) ∧ XX true 8 225 0 [.ref 153, ax_junk, ax_junk, ax_junk, ax_junk] [] (h1) (some (.int (res)), h2) ∧ stp h h1 ∧ stp h h2 ∧ sg h2 := by
  obtain ⟨c, n, K, P, B, W, np, T, C, nr, U, V, sk, gs, gw, gp, gr, gk, tp, rk, sh, hd, kp, pl⟩ := s
  have al := gs.al
  obtain ⟨ms, S, ts⟩ := id gs
  obtain ⟨mw, cw⟩ := id gw
  obtain ⟨mp, cp⟩ := id gp
  obtain ⟨mr, ⟨TA, AA, cr⟩, cj⟩ := id gr
  obtain ⟨mk, ck⟩ := id gk
  obtain ⟨tn, tb, mt, ct⟩ := id tp
  obtain ⟨h1, S1, r1, f1, c1, c2, c3⟩ := co_text ts ct
  have f1x := f1
  have al1 := Nat.le_trans al f1x.1
  obtain ⟨h2, r2, f2, m1, m2, m3⟩ := mo_text (mS_fx ms f1x al rfl rfl (fun _ => ⟨rfl, rfl, rfl⟩)) (mTp_fx mt f1x al rfl (fun _ => rfl))
  have F := fx2 f1x f2 rfl rfl
  by_cases q : (v_txt tb tn c (7 - n) 0 n K P B).1 = 1
  · exact ⟨h1, h2, _, r1, r2, f1x.stp al (by decide) (fun _ => rfl), F.stp al (by decide) (fun _ => rfl), ⟨c, _, _, _, _, W, np, T, C, nr, U, V, sk, ⟨m2 q, _, tS_fx (c2 q) f2.fx (by decide) rfl rfl⟩, gW_fx gw F al (fun _ => ⟨rfl, rfl⟩), gP_fx gp F al rfl (fun _ => rfl) rfl, gQ_fx gr F al rfl (fun _ => rfl) rfl rfl rfl rfl, gK_fx gk F al rfl rfl, ⟨0, tb, m1, cTp_fx c1 f2.fx al1 (fun _ => rfl) rfl⟩, rks_fx rk F al (fun _ => ⟨rfl, rfl⟩) (fun _ => rfl) (fun _ => rfl) rfl, shs_fx sh F al (fun _ => ⟨rfl, rfl, rfl⟩) rfl, hds_fx hd F al (fun _ => ⟨rfl, rfl, rfl, rfl⟩) rfl rfl, kep_fx kp F al rfl rfl rfl (fun _ => rfl) rfl rfl, plx_fx pl F al rfl rfl⟩⟩
  · exact ⟨h1, h2, _, r1, r2, f1x.stp al (by decide) (fun _ => rfl), F.stp al (by decide) (fun _ => rfl), ⟨c, n, K, P, B, W, np, T, C, nr, U, V, sk, ⟨m3 q, _, tS_fx (c3 q) f2.fx (by decide) rfl rfl⟩, gW_fx gw F al (fun _ => ⟨rfl, rfl⟩), gP_fx gp F al rfl (fun _ => rfl) rfl, gQ_fx gr F al rfl (fun _ => rfl) rfl rfl rfl rfl, gK_fx gk F al rfl rfl, ⟨0, tb, m1, cTp_fx c1 f2.fx al1 (fun _ => rfl) rfl⟩, rks_fx rk F al (fun _ => ⟨rfl, rfl⟩) (fun _ => rfl) (fun _ => rfl) rfl, shs_fx sh F al (fun _ => ⟨rfl, rfl, rfl⟩) rfl, hds_fx hd F al (fun _ => ⟨rfl, rfl, rfl, rfl⟩) rfl rfl, kep_fx kp F al rfl rfl rfl (fun _ => rfl) rfl rfl, plx_fx pl F al rfl rfl⟩⟩
theorem st_rack (s : sg h) (r : Int32) (m : Int32) : ∃ h1 h2 res, XX true 2 128 0 [.ref 64, .int (r), .int (m), ax_junk] [] (h) (some (.int (res)), h1) ∧ XX true 3 232 0 [.ref 153, .int (r), .int (m), ax_junk] [] (h1) (some (.int (res)), h2) ∧ stp h h1 ∧ stp h h2 ∧ sg h2 := by
  obtain ⟨c, n, K, P, B, W, np, T, C, nr, U, V, sk, gs, gw, gp, gr, gk, tp, rk, sh, hd, kp, pl⟩ := s
  have al := gs.al
  obtain ⟨ms, S, ts⟩ := id gs
  obtain ⟨mw, cw⟩ := id gw
  obtain ⟨mp, cp⟩ := id gp
  obtain ⟨mr, ⟨TA, AA, cr⟩, cj⟩ := id gr
  obtain ⟨mk, ck⟩ := id gk
  obtain ⟨rl, rF, rK, rP, rB, RS, mg, cg⟩ := id rk
  by_cases q : rackOk r m
  · obtain ⟨h1, r1, f1, c1⟩ := (co_rack cg r m).1 q
    have f1x := f1.fx
    have al1 := Nat.le_trans al f1x.1
    obtain ⟨h2, r2, f2, m2⟩ := (mo_rack (mRk_fx mg f1x al (fun _ => ⟨rfl, rfl⟩)) r m).1 q
    have F := fx2 f1x f2 rfl rfl
    exact ⟨h1, h2, _, r1, r2, f1x.stp al (by decide) (fun _ => rfl), F.stp al (by decide) (fun _ => rfl), ⟨c, n, K, P, B, W, np, T, C, nr, U, V, sk, gS_fx gs F rfl rfl (fun _ => ⟨rfl, rfl, rfl⟩) rfl rfl, gW_fx gw F al (fun _ => ⟨rfl, rfl⟩), gP_fx gp F al rfl (fun _ => rfl) rfl, gQ_fx gr F al rfl (fun _ => rfl) rfl rfl rfl rfl, gK_fx gk F al rfl rfl, tap_fx tp F al rfl rfl (fun _ => ⟨rfl, rfl⟩), ⟨_, _, _, _, _, _, m2, cRk_fx c1 f2.fx al1 (fun _ => rfl) (fun _ => rfl) rfl⟩, shs_fx sh F al (fun _ => ⟨rfl, rfl, rfl⟩) rfl, hds_fx hd F al (fun _ => ⟨rfl, rfl, rfl, rfl⟩) rfl rfl, kep_fx kp F al rfl rfl rfl (fun _ => rfl) rfl rfl, plx_fx pl F al rfl rfl⟩⟩
  · exact ⟨h, h, _, (co_rack cg r m).2 q, (mo_rack mg r m).2 q, (fr.rfl' (L := [])).fx.stp al (by decide) (fun _ => rfl), (fr.rfl' (L := [])).fx.stp al (by decide) (fun _ => rfl), c, n, K, P, B, W, np, T, C, nr, U, V, sk, gs, gw, gp, gr, gk, tp, rk, sh, hd, kp, pl⟩
theorem st_lay (s : sg h) (r : Int32) (i : Int32) (t : Int32) : ∃ h1 h2 res, XX true 2 130 0 [.ref 64, .int (r), .int (i), .int (t), ax_junk] [] (h) (some (.int (res)), h1) ∧ XX true 3 234 0 [.ref 153, .int (r), .int (i), .int (t), ax_junk] [] (h1) (some (.int (res)), h2) ∧ stp h h1 ∧ stp h h2 ∧ sg h2 := by
  obtain ⟨c, n, K, P, B, W, np, T, C, nr, U, V, sk, gs, gw, gp, gr, gk, tp, rk, sh, hd, kp, pl⟩ := s
  have al := gs.al
  obtain ⟨ms, S, ts⟩ := id gs
  obtain ⟨mw, cw⟩ := id gw
  obtain ⟨mp, cp⟩ := id gp
  obtain ⟨mr, ⟨TA, AA, cr⟩, cj⟩ := id gr
  obtain ⟨mk, ck⟩ := id gk
  obtain ⟨rl, rF, rK, rP, rB, RS, mg, cg⟩ := id rk
  by_cases q : layOk rl n r i t
  · obtain ⟨h1, r1, f1, c1⟩ := (co_lay ts cg r i t).1 q
    have f1x := f1.fx
    have al1 := Nat.le_trans al f1x.1
    obtain ⟨h2, r2, f2, m2⟩ := (mo_lay (mS_fx ms f1x al rfl rfl (fun _ => ⟨rfl, rfl, rfl⟩)) (mRk_fx mg f1x al (fun _ => ⟨rfl, rfl⟩)) r i t).1 q
    have F := fx2 f1x f2 rfl rfl
    exact ⟨h1, h2, _, r1, r2, f1x.stp al (by decide) (fun _ => rfl), F.stp al (by decide) (fun _ => rfl), ⟨c, n, K, P, B, W, np, T, C, nr, U, V, sk, gS_fx gs F rfl rfl (fun _ => ⟨rfl, rfl, rfl⟩) rfl rfl, gW_fx gw F al (fun _ => ⟨rfl, rfl⟩), gP_fx gp F al rfl (fun _ => rfl) rfl, gQ_fx gr F al rfl (fun _ => rfl) rfl rfl rfl rfl, gK_fx gk F al rfl rfl, tap_fx tp F al rfl rfl (fun _ => ⟨rfl, rfl⟩), ⟨_, _, _, _, _, _, m2, cRk_fx c1 f2.fx al1 (fun _ => rfl) (fun _ => rfl) rfl⟩, shs_fx sh F al (fun _ => ⟨rfl, rfl, rfl⟩) rfl, hds_fx hd F al (fun _ => ⟨rfl, rfl, rfl, rfl⟩) rfl rfl, kep_fx kp F al rfl rfl rfl (fun _ => rfl) rfl rfl, plx_fx pl F al rfl rfl⟩⟩
  · exact ⟨h, h, _, (co_lay ts cg r i t).2 q, (mo_lay ms mg r i t).2 q, (fr.rfl' (L := [])).fx.stp al (by decide) (fun _ => rfl), (fr.rfl' (L := [])).fx.stp al (by decide) (fun _ => rfl), c, n, K, P, B, W, np, T, C, nr, U, V, sk, gs, gw, gp, gr, gk, tp, rk, sh, hd, kp, pl⟩
theorem st_build (s : sg h) (r : Int32) : ∃ h1 h2 res, XX true 6 131 0 [.ref 64, .int (r), ax_junk, ax_junk] [] (h) (some (.int (res)), h1) ∧ XX true 4 235 0 [.ref 153, .int (r), ax_junk, ax_junk] [] (h1) (some (.int (res)), h2) ∧ stp h h1 ∧ stp h h2 ∧ sg h2 := by
  obtain ⟨c, n, K, P, B, W, np, T, C, nr, U, V, sk, gs, gw, gp, gr, gk, tp, rk, sh, hd, kp, pl⟩ := s
  have al := gs.al
  obtain ⟨ms, S, ts⟩ := id gs
  obtain ⟨mw, cw⟩ := id gw
  obtain ⟨mp, cp⟩ := id gp
  obtain ⟨mr, ⟨TA, AA, cr⟩, cj⟩ := id gr
  obtain ⟨mk, ck⟩ := id gk
  obtain ⟨rl, rF, rK, rP, rB, RS, mg, cg⟩ := id rk
  by_cases q : buildOk rl r
  · obtain ⟨h1, r1, f1, c1⟩ := (co_build ts cg r).1 q
    have f1x := f1.fx
    have al1 := Nat.le_trans al f1x.1
    obtain ⟨h2, r2, f2, m2⟩ := (mo_build (mS_fx ms f1x al rfl rfl (fun _ => ⟨rfl, rfl, rfl⟩)) (mRk_fx mg f1x al (fun _ => ⟨rfl, rfl⟩)) r).1 q
    have F := fx2 f1x f2 rfl rfl
    exact ⟨h1, h2, _, r1, r2, f1x.stp al (by decide) (fun _ => rfl), F.stp al (by decide) (fun _ => rfl), ⟨c, _, _, _, _, W, np, T, C, nr, U, V, sk, ⟨m2, _, tS_fx c1 f2.fx (by decide) rfl rfl⟩, gW_fx gw F al (fun _ => ⟨rfl, rfl⟩), gP_fx gp F al rfl (fun _ => rfl) rfl, gQ_fx gr F al rfl (fun _ => rfl) rfl rfl rfl rfl, gK_fx gk F al rfl rfl, tap_fx tp F al rfl rfl (fun _ => ⟨rfl, rfl⟩), rks_fx rk F al (fun _ => ⟨rfl, rfl⟩) (fun _ => rfl) (fun _ => rfl) rfl, shs_fx sh F al (fun _ => ⟨rfl, rfl, rfl⟩) rfl, hds_fx hd F al (fun _ => ⟨rfl, rfl, rfl, rfl⟩) rfl rfl, kep_fx kp F al rfl rfl rfl (fun _ => rfl) rfl rfl, plx_fx pl F al rfl rfl⟩⟩
  · exact ⟨h, h, _, (co_build ts cg r).2 q, (mo_build ms mg r).2 q, (fr.rfl' (L := [])).fx.stp al (by decide) (fun _ => rfl), (fr.rfl' (L := [])).fx.stp al (by decide) (fun _ => rfl), c, n, K, P, B, W, np, T, C, nr, U, V, sk, gs, gw, gp, gr, gk, tp, rk, sh, hd, kp, pl⟩
theorem st_maybe (s : sg h) (s2 : Int32) (p : Int32) (j : Int32) (v : Int32) (i : Int32) : ∃ h1 h2 res, XX true 3 132 0 [.ref 64, .int (s2), .int (p), .int (j), .int (v), .int (i), ax_junk, ax_junk] [] (h) (some (.int (res)), h1) ∧ XX true 5 236 0 [.ref 153, .int (s2), .int (p), .int (j), .int (v), .int (i), ax_junk, ax_junk, ax_junk] [] (h1) (some (.int (res)), h2) ∧ stp h h1 ∧ stp h h2 ∧ sg h2 := by
  obtain ⟨c, n, K, P, B, W, np, T, C, nr, U, V, sk, gs, gw, gp, gr, gk, tp, rk, sh, hd, kp, pl⟩ := s
  have al := gs.al
  obtain ⟨ms, S, ts⟩ := id gs
  obtain ⟨mw, cw⟩ := id gw
  obtain ⟨mp, cp⟩ := id gp
  obtain ⟨mr, ⟨TA, AA, cr⟩, cj⟩ := id gr
  obtain ⟨mk, ck⟩ := id gk
  obtain ⟨sS, sZ, sN, mh, ch⟩ := id sh
  by_cases q : maybeOk n s2 p j i
  · obtain ⟨h1, r1, f1, c1⟩ := (co_maybe ts ch s2 p j v i).1 q
    have f1x := f1.fx
    have al1 := Nat.le_trans al f1x.1
    obtain ⟨h2, r2, f2, m2⟩ := (mo_maybe (mS_fx ms f1x al rfl rfl (fun _ => ⟨rfl, rfl, rfl⟩)) (mSh_fx mh f1x al (fun _ => ⟨rfl, rfl, rfl⟩)) s2 p j v i).1 q
    have F := fx2 f1x f2 rfl rfl
    exact ⟨h1, h2, _, r1, r2, f1x.stp al (by decide) (fun _ => rfl), F.stp al (by decide) (fun _ => rfl), ⟨c, n, K, P, B, W, np, T, C, nr, U, V, sk, gS_fx gs F rfl rfl (fun _ => ⟨rfl, rfl, rfl⟩) rfl rfl, gW_fx gw F al (fun _ => ⟨rfl, rfl⟩), gP_fx gp F al rfl (fun _ => rfl) rfl, gQ_fx gr F al rfl (fun _ => rfl) rfl rfl rfl rfl, gK_fx gk F al rfl rfl, tap_fx tp F al rfl rfl (fun _ => ⟨rfl, rfl⟩), rks_fx rk F al (fun _ => ⟨rfl, rfl⟩) (fun _ => rfl) (fun _ => rfl) rfl, ⟨_, _, _, m2, cSh_fx c1 f2.fx al1 rfl⟩, hds_fx hd F al (fun _ => ⟨rfl, rfl, rfl, rfl⟩) rfl rfl, kep_fx kp F al rfl rfl rfl (fun _ => rfl) rfl rfl, plx_fx pl F al rfl rfl⟩⟩
  · exact ⟨h, h, _, (co_maybe ts ch s2 p j v i).2 q, (mo_maybe ms mh s2 p j v i).2 q, (fr.rfl' (L := [])).fx.stp al (by decide) (fun _ => rfl), (fr.rfl' (L := [])).fx.stp al (by decide) (fun _ => rfl), c, n, K, P, B, W, np, T, C, nr, U, V, sk, gs, gw, gp, gr, gk, tp, rk, sh, hd, kp, pl⟩
theorem st_sheet (s : sg h) (s2 : Int32) (x : Int32) (k : Int32) : ∃ h1 h2 res, XX true 2 137 0 [.ref 64, .int (s2), .int (x), .int (k)] [] (h) (some (.int (res)), h1) ∧ XX true 3 239 0 [.ref 153, .int (s2), .int (x), .int (k)] [] (h1) (some (.int (res)), h2) ∧ stp h h1 ∧ stp h h2 ∧ sg h2 := by
  obtain ⟨c, n, K, P, B, W, np, T, C, nr, U, V, sk, gs, gw, gp, gr, gk, tp, rk, sh, hd, kp, pl⟩ := s
  have al := gs.al
  obtain ⟨ms, S, ts⟩ := id gs
  obtain ⟨mw, cw⟩ := id gw
  obtain ⟨mp, cp⟩ := id gp
  obtain ⟨mr, ⟨TA, AA, cr⟩, cj⟩ := id gr
  obtain ⟨mk, ck⟩ := id gk
  obtain ⟨sS, sZ, sN, mh, ch⟩ := id sh
  by_cases q : isSheet' s2 x k
  · obtain ⟨h1, r1, f1, c1⟩ := (co_sheet ch s2 x k).1 q
    have f1x := f1.fx
    have al1 := Nat.le_trans al f1x.1
    obtain ⟨h2, r2, f2, m2⟩ := (mo_sheet (mSh_fx mh f1x al (fun _ => ⟨rfl, rfl, rfl⟩)) s2 x k).1 q
    have F := fx2 f1x f2 rfl rfl
    exact ⟨h1, h2, _, r1, r2, f1x.stp al (by decide) (fun _ => rfl), F.stp al (by decide) (fun _ => rfl), ⟨c, n, K, P, B, W, np, T, C, nr, U, V, sk, gS_fx gs F rfl rfl (fun _ => ⟨rfl, rfl, rfl⟩) rfl rfl, gW_fx gw F al (fun _ => ⟨rfl, rfl⟩), gP_fx gp F al rfl (fun _ => rfl) rfl, gQ_fx gr F al rfl (fun _ => rfl) rfl rfl rfl rfl, gK_fx gk F al rfl rfl, tap_fx tp F al rfl rfl (fun _ => ⟨rfl, rfl⟩), rks_fx rk F al (fun _ => ⟨rfl, rfl⟩) (fun _ => rfl) (fun _ => rfl) rfl, ⟨_, _, _, m2, cSh_fx c1 f2.fx al1 rfl⟩, hds_fx hd F al (fun _ => ⟨rfl, rfl, rfl, rfl⟩) rfl rfl, kep_fx kp F al rfl rfl rfl (fun _ => rfl) rfl rfl, plx_fx pl F al rfl rfl⟩⟩
  · exact ⟨h, h, _, (co_sheet ch s2 x k).2 q, (mo_sheet mh s2 x k).2 q, (fr.rfl' (L := [])).fx.stp al (by decide) (fun _ => rfl), (fr.rfl' (L := [])).fx.stp al (by decide) (fun _ => rfl), c, n, K, P, B, W, np, T, C, nr, U, V, sk, gs, gw, gp, gr, gk, tp, rk, sh, hd, kp, pl⟩
theorem st_cell (s : sg h) (s2 : Int32) (i : Int32) (v : Int32) : ∃ h1 h2 res, XX true 3 138 0 [.ref 64, .int (s2), .int (i), .int (v), ax_junk] [] (h) (some (.int (res)), h1) ∧ XX true 4 240 0 [.ref 153, .int (s2), .int (i), .int (v), ax_junk] [] (h1) (some (.int (res)), h2) ∧ stp h h1 ∧ stp h h2 ∧ sg h2 := by
  obtain ⟨c, n, K, P, B, W, np, T, C, nr, U, V, sk, gs, gw, gp, gr, gk, tp, rk, sh, hd, kp, pl⟩ := s
  have al := gs.al
  obtain ⟨ms, S, ts⟩ := id gs
  obtain ⟨mw, cw⟩ := id gw
  obtain ⟨mp, cp⟩ := id gp
  obtain ⟨mr, ⟨TA, AA, cr⟩, cj⟩ := id gr
  obtain ⟨mk, ck⟩ := id gk
  obtain ⟨sS, sZ, sN, mh, ch⟩ := id sh
  by_cases q : a_wrong sS sZ s2 i = nI 0
  · obtain ⟨h1, r1, f1, c1⟩ := (co_cell ch s2 i v).1 q
    have f1x := f1.fx
    have al1 := Nat.le_trans al f1x.1
    obtain ⟨h2, r2, f2, m2⟩ := (mo_cell (mSh_fx mh f1x al (fun _ => ⟨rfl, rfl, rfl⟩)) s2 i v).1 q
    have F := fx2 f1x f2 rfl rfl
    exact ⟨h1, h2, _, r1, r2, f1x.stp al (by decide) (fun _ => rfl), F.stp al (by decide) (fun _ => rfl), ⟨c, n, K, P, B, W, np, T, C, nr, U, V, sk, gS_fx gs F rfl rfl (fun _ => ⟨rfl, rfl, rfl⟩) rfl rfl, gW_fx gw F al (fun _ => ⟨rfl, rfl⟩), gP_fx gp F al rfl (fun _ => rfl) rfl, gQ_fx gr F al rfl (fun _ => rfl) rfl rfl rfl rfl, gK_fx gk F al rfl rfl, tap_fx tp F al rfl rfl (fun _ => ⟨rfl, rfl⟩), rks_fx rk F al (fun _ => ⟨rfl, rfl⟩) (fun _ => rfl) (fun _ => rfl) rfl, ⟨_, _, _, m2, cSh_fx c1 f2.fx al1 rfl⟩, hds_fx hd F al (fun _ => ⟨rfl, rfl, rfl, rfl⟩) rfl rfl, kep_fx kp F al rfl rfl rfl (fun _ => rfl) rfl rfl, plx_fx pl F al rfl rfl⟩⟩
  · exact ⟨h, h, _, (co_cell ch s2 i v).2 q, (mo_cell mh s2 i v).2 q, (fr.rfl' (L := [])).fx.stp al (by decide) (fun _ => rfl), (fr.rfl' (L := [])).fx.stp al (by decide) (fun _ => rfl), c, n, K, P, B, W, np, T, C, nr, U, V, sk, gs, gw, gp, gr, gk, tp, rk, sh, hd, kp, pl⟩
theorem st_read (s : sg h) (s2 : Int32) (i : Int32) : ∃ h1 h2 res, XX true 3 140 0 [.ref 64, .int (s2), .int (i), ax_junk] [] (h) (some (.int (res)), h1) ∧ XX true 4 242 0 [.ref 153, .int (s2), .int (i), ax_junk] [] (h1) (some (.int (res)), h2) ∧ stp h h1 ∧ stp h h2 ∧ sg h2 := by
  obtain ⟨c, n, K, P, B, W, np, T, C, nr, U, V, sk, gs, gw, gp, gr, gk, tp, rk, sh, hd, kp, pl⟩ := s
  have al := gs.al
  obtain ⟨ms, S, ts⟩ := id gs
  obtain ⟨mw, cw⟩ := id gw
  obtain ⟨mp, cp⟩ := id gp
  obtain ⟨mr, ⟨TA, AA, cr⟩, cj⟩ := id gr
  obtain ⟨mk, ck⟩ := id gk
  obtain ⟨sS, sZ, sN, mh, ch⟩ := id sh
  exact ⟨h, h, _, co_read ch s2 i, mo_read mh s2 i, (fr.rfl' (L := [])).fx.stp al (by decide) (fun _ => rfl), (fr.rfl' (L := [])).fx.stp al (by decide) (fun _ => rfl), c, n, K, P, B, W, np, T, C, nr, U, V, sk, gs, gw, gp, gr, gk, tp, rk, sh, hd, kp, pl⟩
theorem st_loadPlans (s : sg h) (s2 : Int32) (p : Int32) : ∃ h1 h2 res, XX true 5 141 0 [.ref 64, .int (s2), .int (p), ax_junk, ax_junk] [] (h) (some (.int (res)), h1) ∧ XX true 7 243 0 [.ref 153, .int (s2), .int (p), ax_junk] [] (h1) (some (.int (res)), h2) ∧ stp h h1 ∧ stp h h2 ∧ sg h2 := by
  obtain ⟨c, n, K, P, B, W, np, T, C, nr, U, V, sk, gs, gw, gp, gr, gk, tp, rk, sh, hd, kp, pl⟩ := s
  have al := gs.al
  obtain ⟨ms, S, ts⟩ := id gs
  obtain ⟨mw, cw⟩ := id gw
  obtain ⟨mp, cp⟩ := id gp
  obtain ⟨mr, ⟨TA, AA, cr⟩, cj⟩ := id gr
  obtain ⟨mk, ck⟩ := id gk
  obtain ⟨sS, sZ, sN, mh, ch⟩ := id sh
  by_cases q : loadOk sS s2 p
  · obtain ⟨h1, r1, f1, c1⟩ := (co_loadPlans ts cp ch s2 p).1 q
    have f1x := f1.fx
    have al1 := Nat.le_trans al f1x.1
    obtain ⟨h2, r2, f2, m2⟩ := (mo_load (mS_fx ms f1x al rfl rfl (fun _ => ⟨rfl, rfl, rfl⟩)) (mP_fx mp f1x al rfl (fun _ => rfl)) (mSh_fx mh f1x al (fun _ => ⟨rfl, rfl, rfl⟩)) s2 p).1 q
    have F := fx2 f1x f2 rfl rfl
    exact ⟨h1, h2, _, r1, r2, f1x.stp al (by decide) (fun _ => rfl), F.stp al (by decide) (fun _ => rfl), ⟨c, n, K, P, B, W, _, _, _, nr, U, V, sk, gS_fx gs F rfl rfl (fun _ => ⟨rfl, rfl, rfl⟩) rfl rfl, gW_fx gw F al (fun _ => ⟨rfl, rfl⟩), ⟨m2, cP_fx c1 f2.fx al1 (by decide) rfl⟩, gQ_fx gr F al rfl (fun _ => rfl) rfl rfl rfl rfl, gK_fx gk F al rfl rfl, tap_fx tp F al rfl rfl (fun _ => ⟨rfl, rfl⟩), rks_fx rk F al (fun _ => ⟨rfl, rfl⟩) (fun _ => rfl) (fun _ => rfl) rfl, shs_fx sh F al (fun _ => ⟨rfl, rfl, rfl⟩) rfl, hds_fx hd F al (fun _ => ⟨rfl, rfl, rfl, rfl⟩) rfl rfl, kep_fx kp F al rfl rfl rfl (fun _ => rfl) rfl rfl, plx_fx pl F al rfl rfl⟩⟩
  · exact ⟨h, h, _, (co_loadPlans ts cp ch s2 p).2 q, (mo_load ms mp mh s2 p).2 q, (fr.rfl' (L := [])).fx.stp al (by decide) (fun _ => rfl), (fr.rfl' (L := [])).fx.stp al (by decide) (fun _ => rfl), c, n, K, P, B, W, np, T, C, nr, U, V, sk, gs, gw, gp, gr, gk, tp, rk, sh, hd, kp, pl⟩
theorem st_hold (s : sg h) (q2 : Int32) (t : Int32) (v : Int64) : ∃ h1 h2 res, XX true 2 142 0 [.ref 64, .int (q2), .int (t), .long (v), ax_junk, ax_junk] [] (h) (some (.int (res)), h1) ∧ XX true 3 244 0 [.ref 153, .int (q2), .int (t), .long (v), ax_junk, ax_junk, ax_junk] [] (h1) (some (.int (res)), h2) ∧ stp h h1 ∧ stp h h2 ∧ sg h2 := by
  obtain ⟨c, n, K, P, B, W, np, T, C, nr, U, V, sk, gs, gw, gp, gr, gk, tp, rk, sh, hd, kp, pl⟩ := s
  have al := gs.al
  obtain ⟨ms, S, ts⟩ := id gs
  obtain ⟨mw, cw⟩ := id gw
  obtain ⟨mp, cp⟩ := id gp
  obtain ⟨mr, ⟨TA, AA, cr⟩, cj⟩ := id gr
  obtain ⟨mk, ck⟩ := id gk
  obtain ⟨hs, hk, hU, hW, hv, HS, HA, md, cd⟩ := id hd
  by_cases q : holdOk n nr q2 t v
  · obtain ⟨h1, HS1, r1, f1, c1⟩ := (co_hold ts cr cd q2 t v).1 q
    have f1x := f1.fx
    have al1 := Nat.le_trans al f1x.1
    obtain ⟨h2, r2, f2, m2⟩ := (mo_hold (mS_fx ms f1x al rfl rfl (fun _ => ⟨rfl, rfl, rfl⟩)) (mR_fx mr f1x al rfl (fun _ => rfl)) (mHd_fx md f1x al (fun _ => ⟨rfl, rfl, rfl, rfl⟩)) q2 t v).1 q
    have F := fx2 f1x f2 rfl rfl
    exact ⟨h1, h2, _, r1, r2, f1x.stp al (by decide) (fun _ => rfl), F.stp al (by decide) (fun _ => rfl), ⟨c, n, K, P, B, W, np, T, C, nr, U, V, sk, gS_fx gs F rfl rfl (fun _ => ⟨rfl, rfl, rfl⟩) rfl rfl, gW_fx gw F al (fun _ => ⟨rfl, rfl⟩), gP_fx gp F al rfl (fun _ => rfl) rfl, gQ_fx gr F al rfl (fun _ => rfl) rfl rfl rfl rfl, gK_fx gk F al rfl rfl, tap_fx tp F al rfl rfl (fun _ => ⟨rfl, rfl⟩), rks_fx rk F al (fun _ => ⟨rfl, rfl⟩) (fun _ => rfl) (fun _ => rfl) rfl, shs_fx sh F al (fun _ => ⟨rfl, rfl, rfl⟩) rfl, ⟨_, _, _, _, _, _, _, m2, cHd_fx c1 f2.fx al1 rfl rfl⟩, kep_fx kp F al rfl rfl rfl (fun _ => rfl) rfl rfl, plx_fx pl F al rfl rfl⟩⟩
  · exact ⟨h, h, _, (co_hold ts cr cd q2 t v).2 q, (mo_hold ms mr md q2 t v).2 q, (fr.rfl' (L := [])).fx.stp al (by decide) (fun _ => rfl), (fr.rfl' (L := [])).fx.stp al (by decide) (fun _ => rfl), c, n, K, P, B, W, np, T, C, nr, U, V, sk, gs, gw, gp, gr, gk, tp, rk, sh, hd, kp, pl⟩
theorem st_asStage (s : sg h) (q2 : Int32) (a : Int32) : ∃ h1 h2 res, XX true 3 144 0 [.ref 64, .int (q2), .int (a), ax_junk] [] (h) (some (.int (res)), h1) ∧ XX true 3 246 0 [.ref 153, .int (q2), .int (a), ax_junk, ax_junk] [] (h1) (some (.int (res)), h2) ∧ stp h h1 ∧ stp h h2 ∧ sg h2 := by
  obtain ⟨c, n, K, P, B, W, np, T, C, nr, U, V, sk, gs, gw, gp, gr, gk, tp, rk, sh, hd, kp, pl⟩ := s
  have al := gs.al
  obtain ⟨ms, S, ts⟩ := id gs
  obtain ⟨mw, cw⟩ := id gw
  obtain ⟨mp, cp⟩ := id gp
  obtain ⟨mr, ⟨TA, AA, cr⟩, cj⟩ := id gr
  obtain ⟨mk, ck⟩ := id gk
  obtain ⟨hs, hk, hU, hW, hv, HS, HA, md, cd⟩ := id hd
  exact ⟨h, h, _, co_asStage cd q2 a, mo_asStage md q2 a, (fr.rfl' (L := [])).fx.stp al (by decide) (fun _ => rfl), (fr.rfl' (L := [])).fx.stp al (by decide) (fun _ => rfl), c, n, K, P, B, W, np, T, C, nr, U, V, sk, gs, gw, gp, gr, gk, tp, rk, sh, hd, kp, pl⟩
theorem st_asAmount (s : sg h) (q2 : Int32) (k : Int32) : ∃ h1 h2 res, XX true 3 145 0 [.ref 64, .int (q2), .int (k), ax_junk] [] (h) (some (.int (res)), h1) ∧ XX true 16 248 0 [.ref 153, .int (q2), .int (k), ax_junk] [] (h1) (some (.int (res)), h2) ∧ stp h h1 ∧ stp h h2 ∧ sg h2 := by
  obtain ⟨c, n, K, P, B, W, np, T, C, nr, U, V, sk, gs, gw, gp, gr, gk, tp, rk, sh, hd, kp, pl⟩ := s
  have al := gs.al
  obtain ⟨ms, S, ts⟩ := id gs
  obtain ⟨mw, cw⟩ := id gw
  obtain ⟨mp, cp⟩ := id gp
  obtain ⟨mr, ⟨TA, AA, cr⟩, cj⟩ := id gr
  obtain ⟨mk, ck⟩ := id gk
  obtain ⟨hs, hk, hU, hW, hv, HS, HA, md, cd⟩ := id hd
  obtain ⟨h1, r1, f1⟩ := co_asAmount ts cw cd q2 k
  have f1x := f1.fx
  obtain ⟨h2, r2, f2⟩ := mo_asAmount (mS_fx ms f1x al rfl rfl (fun _ => ⟨rfl, rfl, rfl⟩)) (mW_fx mw f1x al (fun _ => rfl)) (mHd_fx md f1x al (fun _ => ⟨rfl, rfl, rfl, rfl⟩)) q2 k
  have F := fx2 f1x f2 rfl rfl
  exact ⟨h1, h2, _, r1, r2, f1x.stp al (by decide) (fun _ => rfl), F.stp al (by decide) (fun _ => rfl), ⟨c, n, K, P, B, W, np, T, C, nr, U, V, sk, gS_fx gs F rfl rfl (fun _ => ⟨rfl, rfl, rfl⟩) rfl rfl, gW_fx gw F al (fun _ => ⟨rfl, rfl⟩), gP_fx gp F al rfl (fun _ => rfl) rfl, gQ_fx gr F al rfl (fun _ => rfl) rfl rfl rfl rfl, gK_fx gk F al rfl rfl, tap_fx tp F al rfl rfl (fun _ => ⟨rfl, rfl⟩), rks_fx rk F al (fun _ => ⟨rfl, rfl⟩) (fun _ => rfl) (fun _ => rfl) rfl, shs_fx sh F al (fun _ => ⟨rfl, rfl, rfl⟩) rfl, hds_fx hd F al (fun _ => ⟨rfl, rfl, rfl, rfl⟩) rfl rfl, kep_fx kp F al rfl rfl rfl (fun _ => rfl) rfl rfl, plx_fx pl F al rfl rfl⟩⟩
theorem st_asView (s : sg h) (q2 : Int32) (p : Int32) (j : Int32) : ∃ h1 h2 res, XX true 4 146 0 [.ref 64, .int (q2), .int (p), .int (j), ax_junk] [] (h) (some (.int (res)), h1) ∧ XX true 6 249 0 [.ref 153, .int (q2), .int (p), .int (j), ax_junk] [] (h1) (some (.int (res)), h2) ∧ stp h h1 ∧ stp h h2 ∧ sg h2 := by
  obtain ⟨c, n, K, P, B, W, np, T, C, nr, U, V, sk, gs, gw, gp, gr, gk, tp, rk, sh, hd, kp, pl⟩ := s
  have al := gs.al
  obtain ⟨ms, S, ts⟩ := id gs
  obtain ⟨mw, cw⟩ := id gw
  obtain ⟨mp, cp⟩ := id gp
  obtain ⟨mr, ⟨TA, AA, cr⟩, cj⟩ := id gr
  obtain ⟨mk, ck⟩ := id gk
  obtain ⟨hs, hk, hU, hW, hv, HS, HA, md, cd⟩ := id hd
  obtain ⟨h1, r1, f1⟩ := co_asView ts cd q2 p j
  have f1x := f1.fx
  obtain ⟨h2, r2, f2⟩ := mo_asView (mS_fx ms f1x al rfl rfl (fun _ => ⟨rfl, rfl, rfl⟩)) (mHd_fx md f1x al (fun _ => ⟨rfl, rfl, rfl, rfl⟩)) q2 p j
  have F := fx2 f1x f2 rfl rfl
  exact ⟨h1, h2, _, r1, r2, f1x.stp al (by decide) (fun _ => rfl), F.stp al (by decide) (fun _ => rfl), ⟨c, n, K, P, B, W, np, T, C, nr, U, V, sk, gS_fx gs F rfl rfl (fun _ => ⟨rfl, rfl, rfl⟩) rfl rfl, gW_fx gw F al (fun _ => ⟨rfl, rfl⟩), gP_fx gp F al rfl (fun _ => rfl) rfl, gQ_fx gr F al rfl (fun _ => rfl) rfl rfl rfl rfl, gK_fx gk F al rfl rfl, tap_fx tp F al rfl rfl (fun _ => ⟨rfl, rfl⟩), rks_fx rk F al (fun _ => ⟨rfl, rfl⟩) (fun _ => rfl) (fun _ => rfl) rfl, shs_fx sh F al (fun _ => ⟨rfl, rfl, rfl⟩) rfl, hds_fx hd F al (fun _ => ⟨rfl, rfl, rfl, rfl⟩) rfl rfl, kep_fx kp F al rfl rfl rfl (fun _ => rfl) rfl rfl, plx_fx pl F al rfl rfl⟩⟩
theorem st_count (s : sg h) (w : Int32) : ∃ h1 h2 res, XX true 1 152 0 [.ref 64, .int (w)] [] (h) (some (.long (res)), h1) ∧ XX true 2 255 0 [.ref 153, .int (w)] [] (h1) (some (.long (res)), h2) ∧ stp h h1 ∧ stp h h2 ∧ sg h2 := by
  obtain ⟨c, n, K, P, B, W, np, T, C, nr, U, V, sk, gs, gw, gp, gr, gk, tp, rk, sh, hd, kp, pl⟩ := s
  have al := gs.al
  obtain ⟨ms, S, ts⟩ := id gs
  obtain ⟨mw, cw⟩ := id gw
  obtain ⟨mp, cp⟩ := id gp
  obtain ⟨mr, ⟨TA, AA, cr⟩, cj⟩ := id gr
  obtain ⟨mk, ck⟩ := id gk
  exact ⟨h, h, _, co_count ts cp cr ck w, mo_count ms mp mr mk w, (fr.rfl' (L := [])).fx.stp al (by decide) (fun _ => rfl), (fr.rfl' (L := [])).fx.stp al (by decide) (fun _ => rfl), c, n, K, P, B, W, np, T, C, nr, U, V, sk, gs, gw, gp, gr, gk, tp, rk, sh, hd, kp, pl⟩
theorem st_image (s : sg h) : ∃ h1 h2 res, XX true 8 147 0 [.ref 64] [] (h) (some (.int (res)), h1) ∧ XX true 4 250 0 [.ref 153] [] (h1) (some (.int (res)), h2) ∧ stp h h1 ∧ stp h h2 ∧ sg h2 := by
  obtain ⟨c, n, K, P, B, W, np, T, C, nr, U, V, sk, gs, gw, gp, gr, gk, tp, rk, sh, hd, kp, pl⟩ := s
  have al := gs.al
  obtain ⟨ms, S, ts⟩ := id gs
  obtain ⟨mw, cw⟩ := id gw
  obtain ⟨mp, cp⟩ := id gp
  obtain ⟨mr, ⟨TA, AA, cr⟩, cj⟩ := id gr
  obtain ⟨mk, ck⟩ := id gk
  have kp29 : ∃ c1 n1 K1 P1 B1 S1, tS 29 c1 n1 K1 P1 B1 S1 h := by
    rcases kp with ⟨z, x, c, n, K, P, B, S, t⟩ | ⟨z, x, g, c, n, K, P, B, W, np, T, C, nr, U, V, sk, m, im, ⟨S, t⟩, w⟩
    · exact ⟨c, n, K, P, B, S, t⟩
    · exact ⟨c, n, K, P, B, S, t⟩
  obtain ⟨c1, n1, K1, P1, B1, S1, t29⟩ := kp29
  obtain ⟨h1, r1, f1, e1, a1, a2, a3, a4, a5, a6⟩ := co_image ts cw cp cr ck cj t29
  have f1x := f1.fx
  have al1 := Nat.le_trans al f1x.1
  have ms1 := (mS_fx ms f1x al rfl rfl (fun _ => ⟨rfl, rfl, rfl⟩))
  have mw1 := (mW_fx mw f1x al (fun _ => rfl))
  have mp1 := (mP_fx mp f1x al rfl (fun _ => rfl))
  have mr1 := (mR_fx mr f1x al rfl (fun _ => rfl))
  have mk1 := (mK_fx mk f1x al rfl)
  obtain ⟨h2, r2, f2, e2, sm, im⟩ := mo_image ms1
  have F := fx2 f1x f2 rfl rfl
  have F2 := f2.fx
  have ts2 := tS_fx ts F (by decide) rfl rfl
  exact ⟨h1, h2, _, r1, r2, f1x.stp al (by decide) (fun _ => rfl), F.stp al (by decide) (fun _ => rfl), ⟨c, n, K, P, B, W, np, T, C, nr, U, V, sk, ⟨ms1.sm sm, S, ts2⟩, ⟨mw1.sm sm, cW_fx cw F al (by decide) (fun _ => rfl)⟩, ⟨mp1.sm sm, cP_fx cp F al (by decide) rfl⟩, ⟨mr1.sm sm, ⟨TA, AA, cR_fx cr F al (by decide) rfl rfl rfl⟩, cJ_fx cj F al (by decide) rfl⟩, ⟨mk1.sm sm, cK_fx ck F al (by decide) rfl⟩, tap_fx tp F al rfl rfl (fun _ => ⟨rfl, rfl⟩), rks_fx rk F al (fun _ => ⟨rfl, rfl⟩) (fun _ => rfl) (fun _ => rfl) rfl, shs_fx sh F al (fun _ => ⟨rfl, rfl, rfl⟩) rfl, hds_fx hd F al (fun _ => ⟨rfl, rfl, rfl, rfl⟩) rfl rfl, Or.inr ⟨e2, (F2.I (by omega) rfl).trans e1, h1, c, n, K, P, B, W, np, T, C, nr, U, V, sk, ⟨ms1, mw1, mp1, mr1, mk1⟩, im, ⟨S, tS_fx a1 F2 (by decide) rfl rfl⟩, cW_fx a2 F2 al1 (by decide) (fun _ => rfl), cP_fx a3 F2 al1 (by decide) rfl, ⟨TA, AA, cR_fx a4 F2 al1 (by decide) rfl rfl rfl⟩, cK_fx a5 F2 al1 (by decide) rfl, cJ_fx a6 F2 al1 (by decide) rfl⟩, plx_fx pl F al rfl rfl⟩⟩
theorem st_back (s : sg h) : ∃ h1 h2 res, XX true 8 151 0 [.ref 64] [] (h) (some (.int (res)), h1) ∧ XX true 4 254 0 [.ref 153] [] (h1) (some (.int (res)), h2) ∧ stp h h1 ∧ stp h h2 ∧ sg h2 := by
  obtain ⟨c, n, K, P, B, W, np, T, C, nr, U, V, sk, gs, gw, gp, gr, gk, tp, rk, sh, hd, kp, pl⟩ := s
  have al := gs.al
  obtain ⟨ms, S, ts⟩ := id gs
  obtain ⟨mw, cw⟩ := id gw
  obtain ⟨mp, cp⟩ := id gp
  obtain ⟨mr, ⟨TA, AA, cr⟩, cj⟩ := id gr
  obtain ⟨mk, ck⟩ := id gk
  rcases id kp with ⟨z, x, c1, n1, K1, P1, B1, S1, t⟩ | ⟨z, x, g, c1, n1, K1, P1, B1, W1, np1, T1, C1, nr1, U1, V1, sk1, ⟨m1, m2, m3, m4, m5⟩, im, ⟨S1, t⟩, b2, b3, ⟨TA1, AA1, b4⟩, b5, b6⟩
  · exact ⟨h, h, _, co_back0 x, mo_back0 z, (fr.rfl' (L := [])).fx.stp al (by decide) (fun _ => rfl), (fr.rfl' (L := [])).fx.stp al (by decide) (fun _ => rfl), c, n, K, P, B, W, np, T, C, nr, U, V, sk, gs, gw, gp, gr, gk, tp, rk, sh, hd, kp, pl⟩
  · obtain ⟨h1, r1, f1, a1, a2, a3, a4, a5, a6⟩ := co_back x t b2 b3 b4 b5 b6 ts
    have f1x := f1.fx
    have al1 := Nat.le_trans al f1x.1
    have im1 : mIm g h1 := ⟨fun a ha => (f1x.I (by omega) rfl).trans (im.1 a ha), (f1x.L (by omega) rfl).trans im.2⟩
    obtain ⟨h2, r2, f2, e2, sm, im2⟩ := mo_back ((f1x.I (by omega) rfl).trans z) im1 m1
    have F := fx2 f1x f2 rfl rfl
    have F2 := f2.fx
    exact ⟨h1, h2, _, r1, r2, f1x.stp al (by decide) (fun _ => rfl), F.stp al (by decide) (fun _ => rfl), ⟨c1, n1, K1, P1, B1, W1, np1, T1, C1, nr1, U1, V1, sk1, ⟨m1.sm sm, S1, tS_fx a1 F2 (by decide) rfl rfl⟩, ⟨m2.sm sm, cW_fx a2 F2 al1 (by decide) (fun _ => rfl)⟩, ⟨m3.sm sm, cP_fx a3 F2 al1 (by decide) rfl⟩, ⟨m4.sm sm, ⟨TA1, AA1, cR_fx a4 F2 al1 (by decide) rfl rfl rfl⟩, cJ_fx a6 F2 al1 (by decide) rfl⟩, ⟨m5.sm sm, cK_fx a5 F2 al1 (by decide) rfl⟩, tap_fx tp F al rfl rfl (fun _ => ⟨rfl, rfl⟩), rks_fx rk F al (fun _ => ⟨rfl, rfl⟩) (fun _ => rfl) (fun _ => rfl) rfl, shs_fx sh F al (fun _ => ⟨rfl, rfl, rfl⟩) rfl, hds_fx hd F al (fun _ => ⟨rfl, rfl, rfl, rfl⟩) rfl rfl, Or.inr ⟨e2, (F.I (by omega) rfl).trans x, g, c1, n1, K1, P1, B1, W1, np1, T1, C1, nr1, U1, V1, sk1, ⟨m1, m2, m3, m4, m5⟩, im2, ⟨S1, tS_fx t F (by decide) rfl rfl⟩, cW_fx b2 F al (by decide) (fun _ => rfl), cP_fx b3 F al (by decide) rfl, ⟨TA1, AA1, cR_fx b4 F al (by decide) rfl rfl rfl⟩, cK_fx b5 F al (by decide) rfl, cJ_fx b6 F al (by decide) rfl⟩, plx_fx pl F al rfl rfl⟩⟩
end S85
