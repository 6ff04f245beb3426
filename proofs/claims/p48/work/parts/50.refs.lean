/-! ROWS of references that aren't fixed: 'rf n', 9 for null -/
def rf (a : Nat) : Value := if a = 9 then .null else .ref a
theorem rf_ne {a : Nat} (h : a ≠ 9) : rf a = .ref a := if_neg h
theorem rf_9 : rf 9 = .null := rfl
theorem rf_kd (a : Nat) : ax_kd (rf a) = 2 := by
  unfold rf
  split <;> rfl
theorem rf_isL (a : Nat) : ax_isL (rf a) = false := by
  unfold rf
  split <;> rfl
theorem iL_i (x : Int32) : ax_isL (.int x) = false := rfl
theorem iL_l (x : Int64) : ax_isL (.long x) = true := rfl
theorem iL_d (x : UInt64) : ax_isL (.double x) = true := rfl
theorem iL_n : ax_isL .null = false := rfl
theorem iL_r (a : Nat) : ax_isL (.ref a) = false := rfl
theorem iL_j : ax_isL ax_junk = false := rfl
theorem rf_inj {a b : Nat} (h : rf a = rf b) : a = b := by
  unfold rf at h
  split at h <;> split at h
  · omega
  · cases h
  · cases h
  · injection h
theorem toR_rf (a : Nat) : toR (rf a) = rf a := by
  unfold rf
  split <;> rfl
def dO (h : AH) (a c : Nat) : Prop := a ≠ 9 ∧ (ax_ty h a).1 = c ∧ ax_ok true h a = true
def dA (h : AH) (a n : Nat) : Prop := a ≠ 9 ∧ ax_ty h a = (20, n) ∧ ax_ok true h a = true
def dB (h : AH) (a n : Nat) : Prop := a ≠ 9 ∧ ax_ty h a = (22, n) ∧ ax_ok true h a = true
def dE (h : AH) (a c : Nat) : Prop := a = 9 ∨ (64 ≤ a ∧ (ax_ty h a).1 = c ∧ ax_ok true h a = true)
def dM (h : AH) (a n : Nat) : Prop := a ≠ 9 ∧ ax_ty h a = (24, n) ∧ ax_ok true h a = true
def dC (h : AH) (a : Nat) : Prop := 64 ≤ a ∧ (ax_ty h a).1 = 20 ∧ ax_ok true h a = true
def mkI (h : AH) (n : Nat) : AH := ax_mk h (ax_dcd 20 n) n (fun _ => .int 0)
def mkR (h : AH) (n : Nat) : AH := ax_mk h (ax_dcd 24 n) n (fun _ => .null)
def mkC (h : AH) (a n : Nat) : AH := ax_mk h (ax_dcd 20 n) n (fun j => .int (toI (h.1 a j)))
def gI (h : AH) (a j : Nat) : Int32 := toI (ax_rd true h a j)
def gL (h : AH) (a j : Nat) : Int64 := toL (ax_rd true h a j)
def gR (h : AH) (a j : Nat) : Value := toR (ax_rd true h a j)
def mkD (h : AH) (c : Nat) : AH := ax_mk h c (ax_nf c) (fun j => ax_df (ax_fc c j))
section R50
variable {d m pc : Nat} {ls st : List Value} {h : AH} {R : Option Value × AH}
theorem xx_iti {c A B A' B' : Prop} [Decidable c] (hA : A → A') (hB : B → B') (q : if c then A else B) : if c then A' else B' := by
  split
  · rename_i z
    rw [if_pos z] at q
    exact hA q
  · rename_i z
    rw [if_neg z] at q
    exact hB q
theorem xx_itj {c A B A' B' : Prop} [Decidable c] (q : if c then A else B) (hA : A → A') (hB : B → B') : if c then A' else B' := xx_iti hA hB q
theorem yr_ifnull {off : Int} {t a : Nat} (hd : decode (ax_code m) pc = .ok (.ifnull off, 3)) (ht : ax_tg pc off = some t) (q : if a = 9 then XX true d m t ls st h R else XX true d m (pc + 3) ls st h R) : XX true d m pc ls (rf a :: st) h R := by
  by_cases z : a = 9
  · rw [if_pos z] at q
    rw [z, rf_9]
    exact (xr_ifnullN hd ht).mpr q
  · rw [if_neg z] at q
    rw [rf_ne z]
    exact (xr_ifnullR hd z).mpr q
theorem yr_ifnonnull {off : Int} {t a : Nat} (hd : decode (ax_code m) pc = .ok (.ifnonnull off, 3)) (ht : ax_tg pc off = some t) (q : if a = 9 then XX true d m (pc + 3) ls st h R else XX true d m t ls st h R) : XX true d m pc ls (rf a :: st) h R := by
  by_cases z : a = 9
  · rw [if_pos z] at q
    rw [z, rf_9]
    exact (xr_ifnonnullN hd).mpr q
  · rw [if_neg z] at q
    rw [rf_ne z]
    exact (xr_ifnonnullR hd z ht).mpr q
theorem yr_acmp_eq {off : Int} {x y t : Nat} (hd : decode (ax_code m) pc = .ok (.if_acmp .eq off, 3)) (hy : y < 8) (ht : ax_tg pc off = some t) (q : x < 8 ∧ if x = y then XX true d m t ls st h R else XX true d m (pc + 3) ls st h R) : XX true d m pc ls (.ref y :: rf x :: st) h R := by
  rw [rf_ne (by omega)]
  exact (xr_acmp_eq hd ⟨q.1, hy⟩ ht).mpr q.2
theorem yr_acmp_ne {off : Int} {x y t : Nat} (hd : decode (ax_code m) pc = .ok (.if_acmp .ne off, 3)) (hy : y < 8) (ht : ax_tg pc off = some t) (q : x < 8 ∧ if x = y then XX true d m (pc + 3) ls st h R else XX true d m t ls st h R) : XX true d m pc ls (.ref y :: rf x :: st) h R := by
  rw [rf_ne (by omega)]
  exact (xr_acmp_ne hd ⟨q.1, hy⟩ ht).mpr q.2
theorem yr_getI {o k a : Nat} {q : Nat × Nat} (hd : decode (ax_code m) pc = .ok (.getfield k, 3)) (ho : ax_own m = o) (hf : ax_fld o k = some q) (hq : q.1 < 14) (hc : ax_fc q.1 q.2 = 0) (z : dO h a q.1 ∧ XX true d m (pc + 3) ls (.int (gI h a q.2) :: st) h R) : XX true d m pc ls (rf a :: st) h R := by
  rw [rf_ne z.1.1]
  exact (xr_getfield (q := q) hd ho hf hq hc z.1.2.1 z.1.2.2 rfl).mpr z.2
theorem yr_getZ {o k a : Nat} {q : Nat × Nat} (hd : decode (ax_code m) pc = .ok (.getfield k, 3)) (ho : ax_own m = o) (hf : ax_fld o k = some q) (hq : q.1 < 14) (hc : ax_fc q.1 q.2 = 3) (z : dO h a q.1 ∧ XX true d m (pc + 3) ls (.int (gI h a q.2) :: st) h R) : XX true d m pc ls (rf a :: st) h R := by
  rw [rf_ne z.1.1]
  exact (xr_getfield (q := q) hd ho hf hq hc z.1.2.1 z.1.2.2 rfl).mpr z.2
theorem yr_getL {o k a : Nat} {q : Nat × Nat} (hd : decode (ax_code m) pc = .ok (.getfield k, 3)) (ho : ax_own m = o) (hf : ax_fld o k = some q) (hq : q.1 < 14) (hc : ax_fc q.1 q.2 = 1) (z : dO h a q.1 ∧ XX true d m (pc + 3) ls (.long (gL h a q.2) :: st) h R) : XX true d m pc ls (rf a :: st) h R := by
  rw [rf_ne z.1.1]
  exact (xr_getfield (q := q) hd ho hf hq hc z.1.2.1 z.1.2.2 rfl).mpr z.2
theorem yr_getR {o k a : Nat} {q : Nat × Nat} (hd : decode (ax_code m) pc = .ok (.getfield k, 3)) (ho : ax_own m = o) (hf : ax_fld o k = some q) (hq : q.1 < 14) (hc : ax_fc q.1 q.2 = 2) (z : dO h a q.1 ∧ ∃ b, gR h a q.2 = rf b ∧ XX true d m (pc + 3) ls (rf b :: st) h R) : XX true d m pc ls (rf a :: st) h R := by
  obtain ⟨z1, b, e, z2⟩ := z
  rw [rf_ne z1.1]
  exact (xr_getfield (q := q) hd ho hf hq hc z1.2.1 z1.2.2 e).mpr z2
theorem yr_put {o k a : Nat} {q : Nat × Nat} {v : Value} (hd : decode (ax_code m) pc = .ok (.putfield k, 3)) (ho : ax_own m = o) (hf : ax_fld o k = some q) (hq : q.1 < 12) (hff : ax_ff q.1 q.2 = true → (ax_y m).name = "<init>" ∧ q.1 = ax_own m) (hk : ax_kd v = ax_fk (ax_fc q.1 q.2)) (hb : ax_fc q.1 q.2 = 3 → toI v = 0 ∨ toI v = 1) (z : (dO h a q.1 ∧ ax_wok true a q.2 = true) ∧ XX true d m (pc + 3) ls st (ax_wr h a q.2 v) R) : XX true d m pc ls (v :: rf a :: st) h R := by
  rw [rf_ne z.1.1.1]
  exact (xr_putfield (q := q) hd ho hf z.1.1.2.1 hq z.1.2 z.1.1.2.2 hff hk hb).mpr z.2
theorem yr_iaload {a : Nat} {i : Int32} (hd : decode (ax_code m) pc = .ok (.iaload, 1)) (z : ∃ n, dA h a n ∧ ax_in i n = true ∧ XX true d m (pc + 1) ls (.int (gI h a (ix i)) :: st) h R) : XX true d m pc ls (.int i :: rf a :: st) h R := by
  obtain ⟨n, z1, z2, z3⟩ := z
  rw [rf_ne z1.1]
  exact (xr_iaload hd z1.2.1 z1.2.2 rfl).mpr ⟨z2, z3⟩
theorem yr_baload {a : Nat} {i : Int32} (hd : decode (ax_code m) pc = .ok (.baload, 1)) (z : ∃ n, dB h a n ∧ ax_in i n = true ∧ XX true d m (pc + 1) ls (.int (gI h a (ix i)) :: st) h R) : XX true d m pc ls (.int i :: rf a :: st) h R := by
  obtain ⟨n, z1, z2, z3⟩ := z
  rw [rf_ne z1.1]
  exact (xr_baload hd z1.2.1 z1.2.2 rfl).mpr ⟨z2, z3⟩
theorem yr_alenM {a : Nat} (hd : decode (ax_code m) pc = .ok (.arraylength, 1)) (z : ∃ n, dM h a n ∧ XX true d m (pc + 1) ls (.int (nI n) :: st) h R) : XX true d m pc ls (rf a :: st) h R := by
  obtain ⟨n, z1, z2⟩ := z
  rw [rf_ne z1.1]
  exact (xr_alen hd z1.2.1 ⟨by decide, by decide⟩ z1.2.2 rfl).mpr z2
theorem yr_aaloadM {a : Nat} {i : Int32} (hd : decode (ax_code m) pc = .ok (.aaload, 1)) (z : ∃ n, dM h a n ∧ ax_in i n = true ∧ ∃ b, gR h a (ix i) = rf b ∧ XX true d m (pc + 1) ls (rf b :: st) h R) : XX true d m pc ls (.int i :: rf a :: st) h R := by
  obtain ⟨n, z1, z2, b, z3, z4⟩ := z
  rw [rf_ne z1.1]
  exact (xr_aaload hd z1.2.1 ⟨Or.inl rfl, by decide⟩ z1.2.2 z3).mpr ⟨z2, z4⟩
theorem yr_aastoreM {a b : Nat} {i : Int32} (hd : decode (ax_code m) pc = .ok (.aastore, 1)) (z : ∃ n, dM h a n ∧ ax_in i n = true ∧ ax_wok true a (ix i) = true ∧ dC h b ∧ XX true d m (pc + 1) ls st (ax_wr h a (ix i) (rf b)) R) : XX true d m pc ls (rf b :: .int i :: rf a :: st) h R := by
  obtain ⟨n, z1, z2, z3, z4, z5⟩ := z
  have z40 := z4.1
  have e : rf b = .ref b := rf_ne (show b ≠ 9 by omega)
  rw [e] at z5
  rw [e, rf_ne z1.1]
  exact (xr_aastoreR hd z1.2.1 (Or.inr ⟨rfl, z4.2.1⟩) z4.1 z4.2.2 z1.2.2 z3).mpr ⟨z2, z5⟩
theorem yr_aastoreS {a n b : Nat} {i : Int32} (hd : decode (ax_code m) pc = .ok (.aastore, 1)) (ht : ax_ty h a = (24, n)) (hok : ax_ok true h a = true) (hw : ∀ j, ax_wok true a j = true) (z : ax_in i n = true ∧ dC h b ∧ XX true d m (pc + 1) ls st (ax_wr h a (ix i) (rf b)) R) : XX true d m pc ls (rf b :: .int i :: .ref a :: st) h R := by
  obtain ⟨z2, z4, z5⟩ := z
  have z40 := z4.1
  have e : rf b = .ref b := rf_ne (show b ≠ 9 by omega)
  rw [e] at z5
  rw [e]
  exact (xr_aastoreR hd ht (Or.inr ⟨rfl, z4.2.1⟩) z4.1 z4.2.2 hok (hw _)).mpr ⟨z2, z5⟩
theorem yr_cast {o k a : Nat} (hd : decode (ax_code m) pc = .ok (.checkcast k, 3)) (ho : ax_own m = o) (hc : ax_new o k = some 17) (z : dC h a ∧ XX true d m (pc + 3) ls (rf a :: st) h R) : XX true d m pc ls (rf a :: st) h R := by
  have z0 := z.1.1
  have e : rf a = .ref a := rf_ne (show a ≠ 9 by omega)
  have z2 := z.2
  rw [e] at z2 ⊢
  exact (xr_castI hd ho hc z.1.2.1 z.1.1 z.1.2.2).mpr z2
theorem yr_newI {n : Int32} (hd : decode (ax_code m) pc = .ok (.newarray .int, 2)) (z : (168 ≤ h.2.2.1 ∧ nI 0 ≤ n ∧ ix n < 19900) ∧ XX true d m (pc + 2) ls (rf h.2.2.1 :: st) (mkI h (ix n)) R) : XX true d m pc ls (.int n :: st) h R := by
  obtain ⟨⟨z1, z2, z3⟩, z4⟩ := z
  refine (xr_newI hd (Int32.not_lt.mpr z2) rfl (h1 := mkI h (ix n)) ?_ rfl).mpr ?_
  · unfold ax_mkA
    rw [if_pos ⟨by omega, z3, fun q => absurd q (by omega), fun _ => Or.inl rfl⟩]
    rfl
  · rw [← rf_ne (show h.2.2.1 ≠ 9 by omega)]
    exact z4
theorem yr_newR {n : Int32} {o k : Nat} (hd : decode (ax_code m) pc = .ok (.anewarray k, 3)) (ho : ax_own m = o) (hc : ax_new o k = some 17) (z : (168 ≤ h.2.2.1 ∧ nI 0 ≤ n ∧ ix n < 19900) ∧ XX true d m (pc + 3) ls (rf h.2.2.1 :: st) (mkR h (ix n)) R) : XX true d m pc ls (.int n :: st) h R := by
  obtain ⟨⟨z1, z2, z3⟩, z4⟩ := z
  refine (xr_newA17 hd ho hc (Int32.not_lt.mpr z2) rfl (h1 := mkR h (ix n)) ?_ rfl).mpr ?_
  · unfold ax_mkA
    rw [if_pos ⟨by omega, z3, fun q => absurd q (by omega), fun _ => Or.inr rfl⟩]
    rfl
  · rw [← rf_ne (show h.2.2.1 ≠ 9 by omega)]
    exact z4
theorem yr_clone {o k q nn a : Nat} (hd : decode (ax_code m) pc = .ok (.invokevirtual k, 3)) (ho : ax_own m = o) (hc : ax_cal o k = some (9, q, nn)) (hw : ax_wt st ≤ 8) (hL : ls.length = ax_L m) (z : ∃ n, (dA h a n ∧ 64 ≤ a ∧ 168 ≤ h.2.2.1 ∧ n < 19900) ∧ XX true d m (pc + 3) ls (rf h.2.2.1 :: st) (mkC h a n) R) : XX true d m pc ls (rf a :: st) h R := by
  obtain ⟨n, ⟨z1, z2, z3, z4⟩, z5⟩ := z
  rw [rf_ne z1.1]
  refine (xr_clone hd ho hc z1.2.1 z2 z1.2.2 hw hL (h1 := mkC h a n) ?_).mpr ?_
  · unfold ax_mkC
    rw [if_pos ⟨z3, z4⟩]
    rfl
  · rw [← rf_ne (show h.2.2.1 ≠ 9 by omega)]
    exact z5
theorem yr_iastore {a : Nat} {i x : Int32} (hd : decode (ax_code m) pc = .ok (.iastore, 1)) (z : ∃ n, dA h a n ∧ ax_in i n = true ∧ ax_wok true a (ix i) = true ∧ XX true d m (pc + 1) ls st (ax_wr h a (ix i) (.int x)) R) : XX true d m pc ls (.int x :: .int i :: rf a :: st) h R := by
  obtain ⟨n, z1, z2, z3, z4⟩ := z
  rw [rf_ne z1.1]
  exact (xr_iastore hd z1.2.1 z1.2.2 z3).mpr ⟨z2, z4⟩
theorem yr_aastore {a n b t c : Nat} {i : Int32} (hd : decode (ax_code m) pc = .ok (.aastore, 1)) (ht : ax_ty h a = (t, n)) (hc : 30 ≤ t ∧ t < 42) (he : c + 30 = t) (hw : ∀ j, ax_wok true a j = true) (z : ax_in i n = true ∧ dE h b c ∧ XX true d m (pc + 1) ls st (ax_wr h a (ix i) (rf b)) R) (hok : ax_ok true h a = true := by rfl) : XX true d m pc ls (rf b :: .int i :: .ref a :: st) h R := by
  obtain ⟨z1, z2, z3⟩ := z
  by_cases q : b = 9
  · rw [q] at z3 ⊢
    exact (xr_aastoreN hd ht ⟨hc.1, by omega⟩ hok (hw _)).mpr ⟨z1, z3⟩
  · obtain ⟨y0, y1, y2⟩ := z2.resolve_left q
    rw [rf_ne q] at z3 ⊢
    exact (xr_aastoreR hd ht (Or.inl ⟨hc.1, hc.2, by omega⟩) y0 y2 hok (hw _)).mpr ⟨z1, z3⟩
theorem yr_new {o k c : Nat} (hd : decode (ax_code m) pc = .ok (.new k, 3)) (ho : ax_own m = o) (hc : ax_new o k = some c) (h12 : c < 12) (z : 168 ≤ h.2.2.1 ∧ XX true d m (pc + 3) ls (rf h.2.2.1 :: st) (mkD h c) R) : XX true d m pc ls st h R := by
  have z1 := z.1
  refine (xr_new hd ho hc (h1 := mkD h c) ?_ rfl).mpr ?_
  · unfold ax_mkO
    rw [if_pos ⟨by omega, h12, fun q => absurd q (by omega)⟩]
    rfl
  · rw [← rf_ne (show h.2.2.1 ≠ 9 by omega)]
    exact z.2
theorem yr_obj {k n q a : Nat} {rest : List Value} (hd : decode (ax_code m) pc = .ok (.invokespecial k, 3)) (hc : ax_cal (ax_own m) k = some (4, q, n)) (hw : ax_wt rest ≤ 8) (z : 64 ≤ a ∧ XX true d m (pc + 3) ls rest h R) : XX true d m pc ls (rf a :: rest) h R := by
  have z1 := z.1
  rw [rf_ne (show a ≠ 9 by omega)]
  exact (xx_obj hd hc hw z.1).mpr z.2
theorem rd_8 : ∀ k, k < 8 → ∀ h : AH, toR (ax_rd true h 8 k) = rf k
  | 0, _, _ => rfl | 1, _, _ => rfl | 2, _, _ => rfl | 3, _, _ => rfl | 4, _, _ => rfl | 5, _, _ => rfl | 6, _, _ => rfl | 7, _, _ => rfl
  | n + 8, h, _ => absurd h (by omega)
theorem yr_kinds {i : Int32} (hd : decode (ax_code m) pc = .ok (.aaload, 1)) : XX true d m pc ls (.int i :: .ref 8 :: st) h R ↔ ax_in i 8 = true ∧ XX true d m (pc + 1) ls (rf (ix i) :: st) h R := by
  by_cases hi : ax_in i 8 = true
  · exact xr_aaload hd (ht := (rfl : ax_ty h 8 = (42, 8))) ⟨Or.inr (by decide), by decide⟩ rfl (rd_8 _ (ax_in_lt hi) h)
  · rw [xx_stuck hd (by simp only [ax_step]; rw [if_neg]; intro z; exact hi z.2.2.1) rfl rfl]; simp [hi]
end R50
