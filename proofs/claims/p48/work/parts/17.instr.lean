/-! AN INSTRUCTION, A ROW: of the small machine, as equivalences -/
def hI (h : AH) (a j : Nat) : Int32 := toI (h.1 a j)
def hL (h : AH) (a j : Nat) : Int64 := toL (h.1 a j)
def hR (h : AH) (a j : Nat) : Value := toR (h.1 a j)
abbrev ix (i : Int32) : Nat := i.toNatClampNeg
section Instr
variable {ph : Bool} {d m pc : Nat} {ls st : List Value} {h : AH} {R : Option Value × AH}
theorem ax_lod_of {c n : Nat} {v : Value} (hv : ls.getD n ax_junk = v) (hk : ax_kd v = c) : ax_lod c ls n = some v := by
  unfold ax_lod
  rw [hv, if_pos hk]
theorem ax_sto_of {c n : Nat} {v : Value} {ls1 : List Value} {k : Nat} (hk : ax_kd v = c) (hL : ax_L m = k) (hl : ls.length = k) (hn : (if c = 1 ∨ c = 4 then n + 1 else n) < k) (h1 : ax_put ls n v = ls1) : ax_sto c m ls (v :: st) n = some (ls1, st) := by
  show (if ax_kd v = c ∧ (if c = 1 ∨ c = 4 then n + 1 else n) < ls.length ∧ ls.length = ax_L m then some (ax_put ls n v, st) else none) = _
  rw [if_pos ⟨hk, by rw [hl]; exact hn, by rw [hl, hL]⟩, h1]
theorem xr_iload {n : Nat} {v : Value} (hd : decode (ax_code m) pc = .ok (.iload n, 2)) (hv : ls.getD n ax_junk = v) (hk : ax_kd v = 0) : XX ph d m pc ls st h R ↔ XX ph d m (pc + 2) ls (v :: st) h R := xx_step hd (by simp only [ax_step, ax_lod_of hv hk]; rfl) (Or.inl rfl)
theorem xr_iload_n {n : Fin 4} {v : Value} (hd : decode (ax_code m) pc = .ok (.iload_n n, 1)) (hv : ls.getD n.val ax_junk = v) (hk : ax_kd v = 0) : XX ph d m pc ls st h R ↔ XX ph d m (pc + 1) ls (v :: st) h R := xx_step hd (by simp only [ax_step, ax_lod_of hv hk]; rfl) (Or.inl rfl)
theorem xr_lload {n : Nat} {v : Value} (hd : decode (ax_code m) pc = .ok (.lload n, 2)) (hv : ls.getD n ax_junk = v) (hk : ax_kd v = 1) : XX ph d m pc ls st h R ↔ XX ph d m (pc + 2) ls (v :: st) h R := xx_step hd (by simp only [ax_step, ax_lod_of hv hk]; rfl) (Or.inl rfl)
theorem xr_lload_n {n : Fin 4} {v : Value} (hd : decode (ax_code m) pc = .ok (.lload_n n, 1)) (hv : ls.getD n.val ax_junk = v) (hk : ax_kd v = 1) : XX ph d m pc ls st h R ↔ XX ph d m (pc + 1) ls (v :: st) h R := xx_step hd (by simp only [ax_step, ax_lod_of hv hk]; rfl) (Or.inl rfl)
theorem xr_aload {n : Nat} {v : Value} (hd : decode (ax_code m) pc = .ok (.aload n, 2)) (hv : ls.getD n ax_junk = v) (hk : ax_kd v = 2) : XX ph d m pc ls st h R ↔ XX ph d m (pc + 2) ls (v :: st) h R := xx_step hd (by simp only [ax_step, ax_lod_of hv hk]; rfl) (Or.inl rfl)
theorem xr_aload_n {n : Fin 4} {v : Value} (hd : decode (ax_code m) pc = .ok (.aload_n n, 1)) (hv : ls.getD n.val ax_junk = v) (hk : ax_kd v = 2) : XX ph d m pc ls st h R ↔ XX ph d m (pc + 1) ls (v :: st) h R := xx_step hd (by simp only [ax_step, ax_lod_of hv hk]; rfl) (Or.inl rfl)
theorem xr_istore {n k : Nat} {v : Value} {ls1 : List Value} (hd : decode (ax_code m) pc = .ok (.istore n, 2)) (hk : ax_kd v = 0) (hL : ax_L m = k) (hl : ls.length = k) (hn : n < k) (h1 : ax_put ls n v = ls1) : XX ph d m pc ls (v :: st) h R ↔ XX ph d m (pc + 2) ls1 st h R := xx_step hd (by simp only [ax_step, ax_sto_of (c := 0) hk hL hl hn h1]; rfl) (Or.inl rfl)
theorem xr_istore_n {n : Fin 4} {k : Nat} {v : Value} {ls1 : List Value} (hd : decode (ax_code m) pc = .ok (.istore_n n, 1)) (hk : ax_kd v = 0) (hL : ax_L m = k) (hl : ls.length = k) (hn : n.val < k) (h1 : ax_put ls n.val v = ls1) : XX ph d m pc ls (v :: st) h R ↔ XX ph d m (pc + 1) ls1 st h R := xx_step hd (by simp only [ax_step, ax_sto_of (c := 0) hk hL hl hn h1]; rfl) (Or.inl rfl)
theorem xr_lstore {n k : Nat} {v : Value} {ls1 : List Value} (hd : decode (ax_code m) pc = .ok (.lstore n, 2)) (hk : ax_kd v = 1) (hL : ax_L m = k) (hl : ls.length = k) (hn : n + 1 < k) (h1 : ax_put ls n v = ls1) : XX ph d m pc ls (v :: st) h R ↔ XX ph d m (pc + 2) ls1 st h R := xx_step hd (by simp only [ax_step, ax_sto_of (c := 1) hk hL hl hn h1]; rfl) (Or.inl rfl)
theorem xr_lstore_n {n : Fin 4} {k : Nat} {v : Value} {ls1 : List Value} (hd : decode (ax_code m) pc = .ok (.lstore_n n, 1)) (hk : ax_kd v = 1) (hL : ax_L m = k) (hl : ls.length = k) (hn : n.val + 1 < k) (h1 : ax_put ls n.val v = ls1) : XX ph d m pc ls (v :: st) h R ↔ XX ph d m (pc + 1) ls1 st h R := xx_step hd (by simp only [ax_step, ax_sto_of (c := 1) hk hL hl hn h1]; rfl) (Or.inl rfl)
theorem xr_astore {n k : Nat} {v : Value} {ls1 : List Value} (hd : decode (ax_code m) pc = .ok (.astore n, 2)) (hk : ax_kd v = 2) (hL : ax_L m = k) (hl : ls.length = k) (hn : n < k) (h1 : ax_put ls n v = ls1) : XX ph d m pc ls (v :: st) h R ↔ XX ph d m (pc + 2) ls1 st h R := xx_step hd (by simp only [ax_step, ax_sto_of (c := 2) hk hL hl hn h1]; rfl) (Or.inl rfl)
theorem xr_astore_n {n : Fin 4} {k : Nat} {v : Value} {ls1 : List Value} (hd : decode (ax_code m) pc = .ok (.astore_n n, 1)) (hk : ax_kd v = 2) (hL : ax_L m = k) (hl : ls.length = k) (hn : n.val < k) (h1 : ax_put ls n.val v = ls1) : XX ph d m pc ls (v :: st) h R ↔ XX ph d m (pc + 1) ls1 st h R := xx_step hd (by simp only [ax_step, ax_sto_of (c := 2) hk hL hl hn h1]; rfl) (Or.inl rfl)
theorem xr_iinc {n k : Nat} {c : Int} {x y : Int32} {ls1 : List Value} (hd : decode (ax_code m) pc = .ok (.iinc n c, 3)) (hv : ls.getD n ax_junk = .int x) (hc : Int32.ofInt c = y) (hL : ax_L m = k) (hl : ls.length = k) (hn : n < k) (h1 : ax_put ls n (.int (x + y)) = ls1) : XX ph d m pc ls st h R ↔ XX ph d m (pc + 3) ls1 st h R := xx_step hd (by simp only [ax_step, hv]; rw [if_pos ⟨by rw [hl]; exact hn, by rw [hl, hL]⟩, hc, h1]) (Or.inl rfl)
theorem xr_iconst {n : Int} {v : Int32} (hd : decode (ax_code m) pc = .ok (.iconst n, 1)) (hv : Int32.ofInt n = v) : XX ph d m pc ls st h R ↔ XX ph d m (pc + 1) ls (.int v :: st) h R := xx_step hd (by simp only [ax_step, hv]) (Or.inl rfl)
theorem xr_bipush {n : Int} {v : Int32} (hd : decode (ax_code m) pc = .ok (.bipush n, 2)) (hv : (Int8.ofInt n).toInt32 = v) : XX ph d m pc ls st h R ↔ XX ph d m (pc + 2) ls (.int v :: st) h R := xx_step hd (by simp only [ax_step, hv]) (Or.inl rfl)
theorem xr_sipush {n : Int} {v : Int32} (hd : decode (ax_code m) pc = .ok (.sipush n, 3)) (hv : (Int16.ofInt n).toInt32 = v) : XX ph d m pc ls st h R ↔ XX ph d m (pc + 3) ls (.int v :: st) h R := xx_step hd (by simp only [ax_step, hv]) (Or.inl rfl)
theorem xr_lconst {n : Fin 2} {v : Int64} (hd : decode (ax_code m) pc = .ok (.lconst n, 1)) (hv : Int64.ofNat n.val = v) : XX ph d m pc ls st h R ↔ XX ph d m (pc + 1) ls (.long v :: st) h R := xx_step hd (by simp only [ax_step, hv]) (Or.inl rfl)
theorem xr_null (hd : decode (ax_code m) pc = .ok (.aconst_null, 1)) : XX ph d m pc ls st h R ↔ XX ph d m (pc + 1) ls (.null :: st) h R := xx_step hd rfl (Or.inl rfl)
theorem xr_ldcI {o k : Nat} {x : Int32} (hd : decode (ax_code m) pc = .ok (.ldc k, 2)) (ho : ax_own m = o) (hv : ax_ldc o k = some (.int x)) : XX ph d m pc ls st h R ↔ XX ph d m (pc + 2) ls (.int x :: st) h R := xx_step hd (by simp only [ax_step, ho, hv]) (Or.inl rfl)
theorem xr_ldcS {o k : Nat} {x : Nat} (hd : decode (ax_code m) pc = .ok (.ldc k, 2)) (ho : ax_own m = o) (hv : ax_ldc o k = some (.ref x)) : XX ph d m pc ls st h R ↔ XX ph d m (pc + 2) ls (.ref x :: st) h R := xx_step hd (by simp only [ax_step, ho, hv]) (Or.inl rfl)
theorem xr_ldcw {o k : Nat} {x : Int32} (hd : decode (ax_code m) pc = .ok (.ldc_w k, 3)) (ho : ax_own m = o) (hv : ax_ldc o k = some (.int x)) : XX ph d m pc ls st h R ↔ XX ph d m (pc + 3) ls (.int x :: st) h R := xx_step hd (by simp only [ax_step, ho, hv]) (Or.inl rfl)
theorem xr_ldcwS {o k : Nat} {x : Nat} (hd : decode (ax_code m) pc = .ok (.ldc_w k, 3)) (ho : ax_own m = o) (hv : ax_ldc o k = some (.ref x)) : XX ph d m pc ls st h R ↔ XX ph d m (pc + 3) ls (.ref x :: st) h R := xx_step hd (by simp only [ax_step, ho, hv]) (Or.inl rfl)
theorem xr_ldc2 {o k : Nat} {x : Int64} (hd : decode (ax_code m) pc = .ok (.ldc2_w k, 3)) (ho : ax_own m = o) (hv : ax_ldc o k = some (.long x)) : XX ph d m pc ls st h R ↔ XX ph d m (pc + 3) ls (.long x :: st) h R := xx_step hd (by simp only [ax_step, ho, hv]) (Or.inl rfl)
theorem xx_safe {i : Instr} {len pc1 : Nat} {s : Bool} {st0 ls1 st1 : List Value} {h1 : AH} (hd : decode (ax_code m) pc = .ok (i, len)) (hs : s = true → ax_step ph m i pc ls st0 h = some (pc1, ls1, st1, h1)) (hn : s = false → ax_step ph m i pc ls st0 h = none) (hr : ax_retv m i st0 = none) (hc : ax_callv ph m i st0 h = none) (hl : len = ax_len i ∨ ax_tsw i = true) : XX ph d m pc ls st0 h R ↔ s = true ∧ XX ph d m pc1 ls1 st1 h1 R := by
  cases s with
  | true => rw [xx_step hd (hs rfl) hl]; simp
  | false => rw [xx_stuck hd (hn rfl) hr hc]; simp
theorem xr_iadd {x y : Int32} (hd : decode (ax_code m) pc = .ok (.iadd, 1)) : XX ph d m pc ls (.int y :: .int x :: st) h R ↔ XX ph d m (pc + 1) ls (.int (x + y) :: st) h R := xx_step hd rfl (Or.inl rfl)
theorem xr_isub {x y : Int32} (hd : decode (ax_code m) pc = .ok (.isub, 1)) : XX ph d m pc ls (.int y :: .int x :: st) h R ↔ XX ph d m (pc + 1) ls (.int (x - y) :: st) h R := xx_step hd rfl (Or.inl rfl)
theorem xr_imul {x y : Int32} (hd : decode (ax_code m) pc = .ok (.imul, 1)) : XX ph d m pc ls (.int y :: .int x :: st) h R ↔ XX ph d m (pc + 1) ls (.int (x * y) :: st) h R := xx_step hd rfl (Or.inl rfl)
theorem xr_iand {x y : Int32} (hd : decode (ax_code m) pc = .ok (.iand, 1)) : XX ph d m pc ls (.int y :: .int x :: st) h R ↔ XX ph d m (pc + 1) ls (.int (x &&& y) :: st) h R := xx_step hd rfl (Or.inl rfl)
theorem xr_ior {x y : Int32} (hd : decode (ax_code m) pc = .ok (.ior, 1)) : XX ph d m pc ls (.int y :: .int x :: st) h R ↔ XX ph d m (pc + 1) ls (.int (x ||| y) :: st) h R := xx_step hd rfl (Or.inl rfl)
theorem xr_ixor {x y : Int32} (hd : decode (ax_code m) pc = .ok (.ixor, 1)) : XX ph d m pc ls (.int y :: .int x :: st) h R ↔ XX ph d m (pc + 1) ls (.int (x ^^^ y) :: st) h R := xx_step hd rfl (Or.inl rfl)
theorem xr_ishl {x y : Int32} (hd : decode (ax_code m) pc = .ok (.ishl, 1)) : XX ph d m pc ls (.int y :: .int x :: st) h R ↔ XX ph d m (pc + 1) ls (.int (x <<< (y &&& 31)) :: st) h R := xx_step hd rfl (Or.inl rfl)
theorem xr_ishr {x y : Int32} (hd : decode (ax_code m) pc = .ok (.ishr, 1)) : XX ph d m pc ls (.int y :: .int x :: st) h R ↔ XX ph d m (pc + 1) ls (.int (x >>> (y &&& 31)) :: st) h R := xx_step hd rfl (Or.inl rfl)
theorem xr_iushr {x y : Int32} (hd : decode (ax_code m) pc = .ok (.iushr, 1)) : XX ph d m pc ls (.int y :: .int x :: st) h R ↔ XX ph d m (pc + 1) ls (.int ((x.toUInt32 >>> (y.toUInt32 &&& Int32.toUInt32 31)).toInt32) :: st) h R := xx_step hd rfl (Or.inl rfl)
theorem xr_ladd {x y : Int64} (hd : decode (ax_code m) pc = .ok (.ladd, 1)) : XX ph d m pc ls (.long y :: .long x :: st) h R ↔ XX ph d m (pc + 1) ls (.long (x + y) :: st) h R := xx_step hd rfl (Or.inl rfl)
theorem xr_lmul {x y : Int64} (hd : decode (ax_code m) pc = .ok (.lmul, 1)) : XX ph d m pc ls (.long y :: .long x :: st) h R ↔ XX ph d m (pc + 1) ls (.long (x * y) :: st) h R := xx_step hd rfl (Or.inl rfl)
theorem xr_land {x y : Int64} (hd : decode (ax_code m) pc = .ok (.land, 1)) : XX ph d m pc ls (.long y :: .long x :: st) h R ↔ XX ph d m (pc + 1) ls (.long (x &&& y) :: st) h R := xx_step hd rfl (Or.inl rfl)
theorem xr_lor {x y : Int64} (hd : decode (ax_code m) pc = .ok (.lor, 1)) : XX ph d m pc ls (.long y :: .long x :: st) h R ↔ XX ph d m (pc + 1) ls (.long (x ||| y) :: st) h R := xx_step hd rfl (Or.inl rfl)
theorem xr_lcmp {x y : Int64} (hd : decode (ax_code m) pc = .ok (.lcmp, 1)) : XX ph d m pc ls (.long y :: .long x :: st) h R ↔ XX ph d m (pc + 1) ls (.int (lg_cmp x y) :: st) h R := xx_step hd rfl (Or.inl rfl)
theorem xr_lshl {x : Int64} {y : Int32} (hd : decode (ax_code m) pc = .ok (.lshl, 1)) : XX ph d m pc ls (.int y :: .long x :: st) h R ↔ XX ph d m (pc + 1) ls (.long (x <<< (y.toInt64 &&& 63)) :: st) h R := xx_step hd rfl (Or.inl rfl)
theorem xr_lshr {x : Int64} {y : Int32} (hd : decode (ax_code m) pc = .ok (.lshr, 1)) : XX ph d m pc ls (.int y :: .long x :: st) h R ↔ XX ph d m (pc + 1) ls (.long (x >>> (y.toInt64 &&& 63)) :: st) h R := xx_step hd rfl (Or.inl rfl)
theorem xr_lneg {x : Int64} (hd : decode (ax_code m) pc = .ok (.lneg, 1)) : XX ph d m pc ls (.long x :: st) h R ↔ XX ph d m (pc + 1) ls (.long (-x) :: st) h R := xx_step hd rfl (Or.inl rfl)
theorem xr_i2l {x : Int32} (hd : decode (ax_code m) pc = .ok (.i2l, 1)) : XX ph d m pc ls (.int x :: st) h R ↔ XX ph d m (pc + 1) ls (.long x.toInt64 :: st) h R := xx_step hd rfl (Or.inl rfl)
theorem xr_l2i {x : Int64} (hd : decode (ax_code m) pc = .ok (.l2i, 1)) : XX ph d m pc ls (.long x :: st) h R ↔ XX ph d m (pc + 1) ls (.int x.toInt32 :: st) h R := xx_step hd rfl (Or.inl rfl)
theorem xr_i2c {x : Int32} (hd : decode (ax_code m) pc = .ok (.i2c, 1)) : XX ph d m pc ls (.int x :: st) h R ↔ XX ph d m (pc + 1) ls (.int (x.toUInt32 % 65536).toInt32 :: st) h R := xx_step hd rfl (Or.inl rfl)
theorem xr_idiv {x y : Int32} (hd : decode (ax_code m) pc = .ok (.idiv, 1)) : XX ph d m pc ls (.int y :: .int x :: st) h R ↔ (!decide (y = 0)) = true ∧ XX ph d m (pc + 1) ls (.int (x / y) :: st) h R := xx_safe hd (fun z => by simp only [ax_step, ax_ii]; rw [if_neg (by simpa using z)]; rfl) (fun z => by simp only [ax_step, ax_ii]; rw [if_pos (by simpa using z)]; rfl) rfl rfl (Or.inl rfl)
theorem xr_irem {x y : Int32} (hd : decode (ax_code m) pc = .ok (.irem, 1)) : XX ph d m pc ls (.int y :: .int x :: st) h R ↔ (!decide (y = 0)) = true ∧ XX ph d m (pc + 1) ls (.int (x - x / y * y) :: st) h R := xx_safe hd (fun z => by simp only [ax_step, ax_ii]; rw [if_neg (by simpa using z)]; rfl) (fun z => by simp only [ax_step, ax_ii]; rw [if_pos (by simpa using z)]; rfl) rfl rfl (Or.inl rfl)
theorem xr_ldiv {x y : Int64} (hd : decode (ax_code m) pc = .ok (.ldiv, 1)) : XX ph d m pc ls (.long y :: .long x :: st) h R ↔ (!decide (y = 0)) = true ∧ XX ph d m (pc + 1) ls (.long (x / y) :: st) h R := xx_safe hd (fun z => by simp only [ax_step, ax_ll]; rw [if_neg (by simpa using z)]; rfl) (fun z => by simp only [ax_step, ax_ll]; rw [if_pos (by simpa using z)]; rfl) rfl rfl (Or.inl rfl)
theorem xr_lrem {x y : Int64} (hd : decode (ax_code m) pc = .ok (.lrem, 1)) : XX ph d m pc ls (.long y :: .long x :: st) h R ↔ (!decide (y = 0)) = true ∧ XX ph d m (pc + 1) ls (.long (x - x / y * y) :: st) h R := xx_safe hd (fun z => by simp only [ax_step, ax_ll]; rw [if_neg (by simpa using z)]; rfl) (fun z => by simp only [ax_step, ax_ll]; rw [if_pos (by simpa using z)]; rfl) rfl rfl (Or.inl rfl)
theorem xr_dup {v : Value} (hd : decode (ax_code m) pc = .ok (.dup, 1)) (hk : ax_kd v = 0 ∨ ax_kd v = 2) : XX ph d m pc ls (v :: st) h R ↔ XX ph d m (pc + 1) ls (v :: v :: st) h R := xx_step hd (by simp only [ax_step]; rw [if_pos hk]) (Or.inl rfl)
theorem xr_pop {v : Value} (hd : decode (ax_code m) pc = .ok (.pop, 1)) (hk : ax_kd v = 0 ∨ ax_kd v = 2) : XX ph d m pc ls (v :: st) h R ↔ XX ph d m (pc + 1) ls st h R := xx_step hd (by simp only [ax_step]; rw [if_pos hk]) (Or.inl rfl)
theorem xr_dup2 {v w : Value} (hd : decode (ax_code m) pc = .ok (.dup2, 1)) (hk : (ax_kd v = 0 ∨ ax_kd v = 2) ∧ (ax_kd w = 0 ∨ ax_kd w = 2)) : XX ph d m pc ls (v :: w :: st) h R ↔ XX ph d m (pc + 1) ls (v :: w :: v :: w :: st) h R := xx_step hd (by simp only [ax_step]; rw [if_pos hk]) (Or.inl rfl)
theorem xr_goto {off : Int} {t : Nat} (hd : decode (ax_code m) pc = .ok (.goto off, 3)) (ht : ax_tg pc off = some t) : XX ph d m pc ls st h R ↔ XX ph d m t ls st h R := xx_step hd (by simp only [ax_step, ht]; rfl) (Or.inl rfl)
theorem xx_br {c : Prop} [Decidable c] {i : Instr} {len t f : Nat} {st0 : List Value} (hd : decode (ax_code m) pc = .ok (i, len)) (hs : ax_step ph m i pc ls st0 h = some (if c then t else f, ls, st, h)) (hl : len = ax_len i ∨ ax_tsw i = true) : XX ph d m pc ls st0 h R ↔ if c then XX ph d m t ls st h R else XX ph d m f ls st h R := by
  rw [xx_step hd hs hl]
  split <;> rfl
theorem xx_brn {c : Prop} [Decidable c] {i : Instr} {len t f : Nat} {st0 : List Value} (hd : decode (ax_code m) pc = .ok (i, len)) (hs : ax_step ph m i pc ls st0 h = some (if c then t else f, ls, st, h)) (hl : len = ax_len i ∨ ax_tsw i = true) {P : Prop} (hP : P ↔ if c then XX ph d m t ls st h R else XX ph d m f ls st h R) : XX ph d m pc ls st0 h R ↔ P := (xx_br hd hs hl).trans hP.symm
theorem xr_ifeq {off : Int} {t : Nat} {x : Int32} (hd : decode (ax_code m) pc = .ok (.ifCond .eq off, 3)) (ht : ax_tg pc off = some t) : XX ph d m pc ls (.int x :: st) h R ↔ if x = nI 0 then XX ph d m t ls st h R else XX ph d m (pc + 3) ls st h R := by
  rw [xx_step hd (by simp only [ax_step, ht]; rfl) (Or.inl rfl)]
  by_cases q : x = nI 0
  · rw [if_pos q, if_pos (by rw [nI_0] at q; unfold ax_c0; simpa using q)]
  · rw [if_neg q, if_neg (by rw [nI_0] at q; unfold ax_c0; simpa using q)]
theorem xr_ifne {off : Int} {t : Nat} {x : Int32} (hd : decode (ax_code m) pc = .ok (.ifCond .ne off, 3)) (ht : ax_tg pc off = some t) : XX ph d m pc ls (.int x :: st) h R ↔ if x = nI 0 then XX ph d m (pc + 3) ls st h R else XX ph d m t ls st h R := by
  rw [xx_step hd (by simp only [ax_step, ht]; rfl) (Or.inl rfl)]
  by_cases q : x = nI 0
  · rw [if_pos q, if_neg (by rw [nI_0] at q; unfold ax_c0; simpa using q)]
  · rw [if_neg q, if_pos (by rw [nI_0] at q; unfold ax_c0; simpa using q)]
theorem xr_iflt {off : Int} {t : Nat} {x : Int32} (hd : decode (ax_code m) pc = .ok (.ifCond .lt off, 3)) (ht : ax_tg pc off = some t) : XX ph d m pc ls (.int x :: st) h R ↔ if x < nI 0 then XX ph d m t ls st h R else XX ph d m (pc + 3) ls st h R := by
  rw [xx_step hd (by simp only [ax_step, ht]; rfl) (Or.inl rfl)]
  by_cases q : x < nI 0
  · rw [if_pos q, if_pos (by rw [nI_0] at q; unfold ax_c0; simpa using q)]
  · rw [if_neg q, if_neg (by rw [nI_0] at q; unfold ax_c0; simpa using q)]
theorem xr_ifge {off : Int} {t : Nat} {x : Int32} (hd : decode (ax_code m) pc = .ok (.ifCond .ge off, 3)) (ht : ax_tg pc off = some t) : XX ph d m pc ls (.int x :: st) h R ↔ if x < nI 0 then XX ph d m (pc + 3) ls st h R else XX ph d m t ls st h R := by
  rw [xx_step hd (by simp only [ax_step, ht]; rfl) (Or.inl rfl)]
  by_cases q : x < nI 0
  · rw [if_pos q, if_neg (by unfold ax_c0; simp only [decide_eq_true_eq]; exact Int32.not_le.mpr q)]
  · rw [if_neg q, if_pos (by unfold ax_c0; simp only [decide_eq_true_eq]; exact Int32.not_lt.mp q)]
theorem xr_ifgt {off : Int} {t : Nat} {x : Int32} (hd : decode (ax_code m) pc = .ok (.ifCond .gt off, 3)) (ht : ax_tg pc off = some t) : XX ph d m pc ls (.int x :: st) h R ↔ if x ≤ nI 0 then XX ph d m (pc + 3) ls st h R else XX ph d m t ls st h R := by
  rw [xx_step hd (by simp only [ax_step, ht]; rfl) (Or.inl rfl)]
  by_cases q : x ≤ nI 0
  · rw [if_pos q, if_neg (by unfold ax_c0; simp only [decide_eq_true_eq]; exact Int32.not_lt.mpr q)]
  · rw [if_neg q, if_pos (by unfold ax_c0; simp only [decide_eq_true_eq]; exact Int32.not_le.mp q)]
theorem xr_ifle {off : Int} {t : Nat} {x : Int32} (hd : decode (ax_code m) pc = .ok (.ifCond .le off, 3)) (ht : ax_tg pc off = some t) : XX ph d m pc ls (.int x :: st) h R ↔ if x ≤ nI 0 then XX ph d m t ls st h R else XX ph d m (pc + 3) ls st h R := by
  rw [xx_step hd (by simp only [ax_step, ht]; rfl) (Or.inl rfl)]
  by_cases q : x ≤ nI 0
  · rw [if_pos q, if_pos (by rw [nI_0] at q; unfold ax_c0; simpa using q)]
  · rw [if_neg q, if_neg (by rw [nI_0] at q; unfold ax_c0; simpa using q)]
theorem xr_icmpeq {off : Int} {t : Nat} {x y : Int32} (hd : decode (ax_code m) pc = .ok (.if_icmp .eq off, 3)) (ht : ax_tg pc off = some t) : XX ph d m pc ls (.int y :: .int x :: st) h R ↔ if x = y then XX ph d m t ls st h R else XX ph d m (pc + 3) ls st h R := by
  rw [xx_step hd (by simp only [ax_step, ht]; rfl) (Or.inl rfl)]
  by_cases q : x = y
  · rw [if_pos q, if_pos (by unfold ax_c2; simpa using q)]
  · rw [if_neg q, if_neg (by unfold ax_c2; simpa using q)]
theorem xr_icmpne {off : Int} {t : Nat} {x y : Int32} (hd : decode (ax_code m) pc = .ok (.if_icmp .ne off, 3)) (ht : ax_tg pc off = some t) : XX ph d m pc ls (.int y :: .int x :: st) h R ↔ if x = y then XX ph d m (pc + 3) ls st h R else XX ph d m t ls st h R := by
  rw [xx_step hd (by simp only [ax_step, ht]; rfl) (Or.inl rfl)]
  by_cases q : x = y
  · rw [if_pos q, if_neg (by unfold ax_c2; simpa using q)]
  · rw [if_neg q, if_pos (by unfold ax_c2; simpa using q)]
theorem xr_icmplt {off : Int} {t : Nat} {x y : Int32} (hd : decode (ax_code m) pc = .ok (.if_icmp .lt off, 3)) (ht : ax_tg pc off = some t) : XX ph d m pc ls (.int y :: .int x :: st) h R ↔ if x < y then XX ph d m t ls st h R else XX ph d m (pc + 3) ls st h R := by
  rw [xx_step hd (by simp only [ax_step, ht]; rfl) (Or.inl rfl)]
  by_cases q : x < y
  · rw [if_pos q, if_pos (by unfold ax_c2; simpa using q)]
  · rw [if_neg q, if_neg (by unfold ax_c2; simpa using q)]
theorem xr_icmpge {off : Int} {t : Nat} {x y : Int32} (hd : decode (ax_code m) pc = .ok (.if_icmp .ge off, 3)) (ht : ax_tg pc off = some t) : XX ph d m pc ls (.int y :: .int x :: st) h R ↔ if x < y then XX ph d m (pc + 3) ls st h R else XX ph d m t ls st h R := by
  rw [xx_step hd (by simp only [ax_step, ht]; rfl) (Or.inl rfl)]
  by_cases q : x < y
  · rw [if_pos q, if_neg (by unfold ax_c2; simp only [decide_eq_true_eq]; exact Int32.not_le.mpr q)]
  · rw [if_neg q, if_pos (by unfold ax_c2; simp only [decide_eq_true_eq]; exact Int32.not_lt.mp q)]
theorem xr_icmpgt {off : Int} {t : Nat} {x y : Int32} (hd : decode (ax_code m) pc = .ok (.if_icmp .gt off, 3)) (ht : ax_tg pc off = some t) : XX ph d m pc ls (.int y :: .int x :: st) h R ↔ if x ≤ y then XX ph d m (pc + 3) ls st h R else XX ph d m t ls st h R := by
  rw [xx_step hd (by simp only [ax_step, ht]; rfl) (Or.inl rfl)]
  by_cases q : x ≤ y
  · rw [if_pos q, if_neg (by unfold ax_c2; simp only [decide_eq_true_eq]; exact Int32.not_lt.mpr q)]
  · rw [if_neg q, if_pos (by unfold ax_c2; simp only [decide_eq_true_eq]; exact Int32.not_le.mp q)]
theorem xr_icmple {off : Int} {t : Nat} {x y : Int32} (hd : decode (ax_code m) pc = .ok (.if_icmp .le off, 3)) (ht : ax_tg pc off = some t) : XX ph d m pc ls (.int y :: .int x :: st) h R ↔ if x ≤ y then XX ph d m t ls st h R else XX ph d m (pc + 3) ls st h R := by
  rw [xx_step hd (by simp only [ax_step, ht]; rfl) (Or.inl rfl)]
  by_cases q : x ≤ y
  · rw [if_pos q, if_pos (by unfold ax_c2; simpa using q)]
  · rw [if_neg q, if_neg (by unfold ax_c2; simpa using q)]
theorem xr_ifnullN {off : Int} {t : Nat} (hd : decode (ax_code m) pc = .ok (.ifnull off, 3)) (ht : ax_tg pc off = some t) : XX ph d m pc ls (.null :: st) h R ↔ XX ph d m t ls st h R := xx_step hd (by simp only [ax_step, ht]; rfl) (Or.inl rfl)
theorem xr_ifnullR {off : Int} {k : Nat} (hd : decode (ax_code m) pc = .ok (.ifnull off, 3)) (hk : ¬ k = 9) : XX ph d m pc ls (.ref k :: st) h R ↔ XX ph d m (pc + 3) ls st h R := xx_step hd (by simp only [ax_step]; rw [if_neg hk]) (Or.inl rfl)
theorem xr_ifnonnullN {off : Int} (hd : decode (ax_code m) pc = .ok (.ifnonnull off, 3)) : XX ph d m pc ls (.null :: st) h R ↔ XX ph d m (pc + 3) ls st h R := xx_step hd rfl (Or.inl rfl)
theorem xr_ifnonnullR {off : Int} {k t : Nat} (hd : decode (ax_code m) pc = .ok (.ifnonnull off, 3)) (hk : ¬ k = 9) (ht : ax_tg pc off = some t) : XX ph d m pc ls (.ref k :: st) h R ↔ XX ph d m t ls st h R := xx_step hd (by simp only [ax_step, ht]; rw [if_neg hk]; rfl) (Or.inl rfl)
theorem xr_acmp_eq {off : Int} {x y t : Nat} (hd : decode (ax_code m) pc = .ok (.if_acmp .eq off, 3)) (hk : x < 8 ∧ y < 8) (ht : ax_tg pc off = some t) : XX ph d m pc ls (.ref y :: .ref x :: st) h R ↔ if x = y then XX ph d m t ls st h R else XX ph d m (pc + 3) ls st h R := xx_br hd (by simp only [ax_step, ht]; rw [if_pos hk]; by_cases q : x = y <;> simp [q]) (Or.inl rfl)
theorem xr_acmp_ne {off : Int} {x y t : Nat} (hd : decode (ax_code m) pc = .ok (.if_acmp .ne off, 3)) (hk : x < 8 ∧ y < 8) (ht : ax_tg pc off = some t) : XX ph d m pc ls (.ref y :: .ref x :: st) h R ↔ if x = y then XX ph d m (pc + 3) ls st h R else XX ph d m t ls st h R := xx_br hd (by simp only [ax_step, ht]; rw [if_pos hk]; by_cases q : x = y <;> simp [q]) (Or.inl rfl)
theorem xr_tsw {dd lo hi : Int} {offs : Array Int} {len t : Nat} {x : Int32} (hd : decode (ax_code m) pc = .ok (.tableswitch dd lo hi offs, len)) (hs : ax_step ph m (.tableswitch dd lo hi offs) pc ls (.int x :: st) h = some (t, ls, st, h)) : XX ph d m pc ls (.int x :: st) h R ↔ XX ph d m t ls st h R := xx_step hd hs (Or.inr rfl)
-- the heap
theorem xr_getfield {o k a t : Nat} {q : Nat × Nat} {v : Value} (hd : decode (ax_code m) pc = .ok (.getfield k, 3)) (ho : ax_own m = o) (hf : ax_fld o k = some q) (hq : q.1 < 14) (hc : ax_fc q.1 q.2 = t) (ht : (ax_ty h a).1 = q.1) (hok : ax_ok ph h a = true) (hv : ax_tv t (ax_rd ph h a q.2) = v) : XX ph d m pc ls (.ref a :: st) h R ↔ XX ph d m (pc + 3) ls (v :: st) h R := xx_step hd (by simp only [ax_step, ho, hf]; rw [if_pos ⟨ht, hq, hok⟩, hc, hv]) (Or.inl rfl)
theorem xr_putfield {o k a : Nat} {q : Nat × Nat} {v : Value} (hd : decode (ax_code m) pc = .ok (.putfield k, 3)) (ho : ax_own m = o) (hf : ax_fld o k = some q) (ht : (ax_ty h a).1 = q.1) (hq : q.1 < 12) (hw : ax_wok ph a q.2 = true) (hok : ax_ok ph h a = true) (hff : ax_ff q.1 q.2 = true → (ax_y m).name = "<init>" ∧ q.1 = ax_own m) (hk : ax_kd v = ax_fk (ax_fc q.1 q.2)) (hb : ax_fc q.1 q.2 = 3 → toI v = 0 ∨ toI v = 1) : XX ph d m pc ls (v :: .ref a :: st) h R ↔ XX ph d m (pc + 3) ls st (ax_wr h a q.2 v) R := xx_step hd (by simp only [ax_step, ho, hf]; rw [if_pos ⟨ht, hq, hw, hok, (by rw [← ho]; exact hff), hk, hb⟩]) (Or.inl rfl)
theorem xr_getstatic {o k : Nat} {v : Value} (hd : decode (ax_code m) pc = .ok (.getstatic k, 3)) (ho : ax_own m = o) (hv : ax_sta o k = some v) : XX ph d m pc ls st h R ↔ XX ph d m (pc + 3) ls (v :: st) h R := xx_step hd (by simp only [ax_step, ho, hv]) (Or.inl rfl)
theorem xr_alen {a n : Nat} {c : Nat} {v : Int32} (hd : decode (ax_code m) pc = .ok (.arraylength, 1)) (ht : ax_ty h a = (c, n)) (hc : 20 ≤ c ∧ c ≠ 99) (hok : ax_ok ph h a = true) (hv : Int32.ofNat n = v) : XX ph d m pc ls (.ref a :: st) h R ↔ XX ph d m (pc + 1) ls (.int v :: st) h R := xx_step hd (by simp only [ax_step, ht]; rw [if_pos ⟨hc.1, hc.2, hok⟩, hv]) (Or.inl rfl)
theorem xr_iaload {a n : Nat} {i x : Int32} (hd : decode (ax_code m) pc = .ok (.iaload, 1)) (ht : ax_ty h a = (20, n)) (hok : ax_ok ph h a = true) (hv : toI (ax_rd ph h a (ix i)) = x) : XX ph d m pc ls (.int i :: .ref a :: st) h R ↔ ax_in i n = true ∧ XX ph d m (pc + 1) ls (.int x :: st) h R := xx_safe hd (fun z => by simp only [ax_step, ht]; rw [if_pos ⟨trivial, z, hok⟩, hv]) (fun z => by simp only [ax_step, ht]; rw [if_neg (by simp [z])]) rfl rfl (Or.inl rfl)
theorem xr_baload {a n : Nat} {i x : Int32} (hd : decode (ax_code m) pc = .ok (.baload, 1)) (ht : ax_ty h a = (22, n)) (hok : ax_ok ph h a = true) (hv : toI (ax_rd ph h a (ix i)) = x) : XX ph d m pc ls (.int i :: .ref a :: st) h R ↔ ax_in i n = true ∧ XX ph d m (pc + 1) ls (.int x :: st) h R := xx_safe hd (fun z => by simp only [ax_step, ht]; rw [if_pos ⟨trivial, z, hok⟩, hv]) (fun z => by simp only [ax_step, ht]; rw [if_neg (by simp [z])]) rfl rfl (Or.inl rfl)
theorem xr_laload {a n : Nat} {i : Int32} {x : Int64} (hd : decode (ax_code m) pc = .ok (.laload, 1)) (ht : ax_ty h a = (21, n)) (hok : ax_ok ph h a = true) (hv : toL (ax_rd ph h a (ix i)) = x) : XX ph d m pc ls (.int i :: .ref a :: st) h R ↔ ax_in i n = true ∧ XX ph d m (pc + 1) ls (.long x :: st) h R := xx_safe hd (fun z => by simp only [ax_step, ht]; rw [if_pos ⟨trivial, z, hok⟩, hv]) (fun z => by simp only [ax_step, ht]; rw [if_neg (by simp [z])]) rfl rfl (Or.inl rfl)
theorem xr_aaload {a n c : Nat} {i : Int32} {x : Value} (hd : decode (ax_code m) pc = .ok (.aaload, 1)) (ht : ax_ty h a = (c, n)) (hc : (c = 24 ∨ 30 ≤ c) ∧ c ≠ 99) (hok : ax_ok ph h a = true) (hv : toR (ax_rd ph h a (ix i)) = x) : XX ph d m pc ls (.int i :: .ref a :: st) h R ↔ ax_in i n = true ∧ XX ph d m (pc + 1) ls (x :: st) h R := xx_safe hd (fun z => by simp only [ax_step, ht]; rw [if_pos ⟨hc.1, hc.2, z, hok⟩, hv]) (fun z => by simp only [ax_step, ht]; rw [if_neg (by simp [z])]) rfl rfl (Or.inl rfl)
theorem xr_iastore {a n : Nat} {i x : Int32} (hd : decode (ax_code m) pc = .ok (.iastore, 1)) (ht : ax_ty h a = (20, n)) (hok : ax_ok ph h a = true) (hw : ax_wok ph a (ix i) = true) : XX ph d m pc ls (.int x :: .int i :: .ref a :: st) h R ↔ ax_in i n = true ∧ XX ph d m (pc + 1) ls st (ax_wr h a (ix i) (.int x)) R := xx_safe hd (fun z => by simp only [ax_step, ht]; rw [if_pos ⟨trivial, z, hw, hok⟩]) (fun z => by simp only [ax_step, ht]; rw [if_neg (by simp [z])]) rfl rfl (Or.inl rfl)
theorem xr_lastore {a n : Nat} {i : Int32} {x : Int64} (hd : decode (ax_code m) pc = .ok (.lastore, 1)) (ht : ax_ty h a = (21, n)) (hok : ax_ok ph h a = true) (hw : ax_wok ph a (ix i) = true) : XX ph d m pc ls (.long x :: .int i :: .ref a :: st) h R ↔ ax_in i n = true ∧ XX ph d m (pc + 1) ls st (ax_wr h a (ix i) (.long x)) R := xx_safe hd (fun z => by simp only [ax_step, ht]; rw [if_pos ⟨trivial, z, hw, hok⟩]) (fun z => by simp only [ax_step, ht]; rw [if_neg (by simp [z])]) rfl rfl (Or.inl rfl)
theorem xr_aastoreN {a n c : Nat} {i : Int32} (hd : decode (ax_code m) pc = .ok (.aastore, 1)) (ht : ax_ty h a = (c, n)) (hc : 30 ≤ c ∧ c < 44) (hok : ax_ok ph h a = true) (hw : ax_wok ph a (ix i) = true) : XX ph d m pc ls (.null :: .int i :: .ref a :: st) h R ↔ ax_in i n = true ∧ XX ph d m (pc + 1) ls st (ax_wr h a (ix i) .null) R := xx_safe hd (fun z => by simp only [ax_step, ht]; rw [if_pos ⟨hc, z, hw, hok⟩]) (fun z => by simp only [ax_step, ht]; rw [if_neg (by simp [z])]) rfl rfl (Or.inl rfl)
theorem xr_aastoreR {a n c v : Nat} {i : Int32} (hd : decode (ax_code m) pc = .ok (.aastore, 1)) (ht : ax_ty h a = (c, n)) (hc : (30 ≤ c ∧ c < 42 ∧ (ax_ty h v).1 + 30 = c) ∨ (c = 24 ∧ (ax_ty h v).1 = 20)) (hv : 64 ≤ v) (hvo : ax_ok ph h v = true) (hok : ax_ok ph h a = true) (hw : ax_wok ph a (ix i) = true) : XX ph d m pc ls (.ref v :: .int i :: .ref a :: st) h R ↔ ax_in i n = true ∧ XX ph d m (pc + 1) ls st (ax_wr h a (ix i) (.ref v)) R := xx_safe hd (fun z => by simp only [ax_step, ht]; rw [if_pos ⟨hc, hv, hvo, z, hw, hok⟩]) (fun z => by simp only [ax_step, ht]; rw [if_neg (by simp [z])]) rfl rfl (Or.inl rfl)
theorem xr_new {o k c n : Nat} {h1 : AH} (hd : decode (ax_code m) pc = .ok (.new k, 3)) (ho : ax_own m = o) (hc : ax_new o k = some c) (hm : ax_mkO h c = some h1) (hn : h.2.2.1 = n) : XX ph d m pc ls st h R ↔ XX ph d m (pc + 3) ls (.ref n :: st) h1 R := xx_step hd (by simp only [ax_step, ho, hc, hm, Option.map_some, hn]) (Or.inl rfl)
theorem xr_newI {n : Int32} {k q : Nat} {h1 : AH} (hd : decode (ax_code m) pc = .ok (.newarray .int, 2)) (hn : ¬ n < 0) (hk : n.toNatClampNeg = k) (hm : ax_mkA h 20 k (.int 0) = some h1) (hq : h.2.2.1 = q) : XX ph d m pc ls (.int n :: st) h R ↔ XX ph d m (pc + 2) ls (.ref q :: st) h1 R := xx_step hd (by simp only [ax_step]; rw [if_neg hn, hk, hm]; simp only [Option.map_some, hq]) (Or.inl rfl)
theorem xr_newJ {n : Int32} {k q : Nat} {h1 : AH} (hd : decode (ax_code m) pc = .ok (.newarray .long, 2)) (hn : ¬ n < 0) (hk : n.toNatClampNeg = k) (hm : ax_mkA h 21 k (.long 0) = some h1) (hq : h.2.2.1 = q) : XX ph d m pc ls (.int n :: st) h R ↔ XX ph d m (pc + 2) ls (.ref q :: st) h1 R := xx_step hd (by simp only [ax_step]; rw [if_neg hn, hk, hm]; simp only [Option.map_some, hq]) (Or.inl rfl)
theorem xr_newA {n : Int32} {o c i k q : Nat} {h1 : AH} (hd : decode (ax_code m) pc = .ok (.anewarray i, 3)) (ho : ax_own m = o) (hc : ax_new o i = some c) (hn : ¬ n < 0) (hk : n.toNatClampNeg = k) (h17 : c ≠ 17) (hm : ax_mkA h (30 + c) k .null = some h1) (hq : h.2.2.1 = q) : XX ph d m pc ls (.int n :: st) h R ↔ XX ph d m (pc + 3) ls (.ref q :: st) h1 R := xx_step hd (by simp only [ax_step, ho, hc]; rw [if_neg hn, hk, if_neg h17, hm]; simp only [Option.map_some, hq]) (Or.inl rfl)
theorem xr_newA17 {n : Int32} {o i k q : Nat} {h1 : AH} (hd : decode (ax_code m) pc = .ok (.anewarray i, 3)) (ho : ax_own m = o) (hc : ax_new o i = some 17) (hn : ¬ n < 0) (hk : n.toNatClampNeg = k) (hm : ax_mkA h 24 k .null = some h1) (hq : h.2.2.1 = q) : XX ph d m pc ls (.int n :: st) h R ↔ XX ph d m (pc + 3) ls (.ref q :: st) h1 R := xx_step hd (by simp only [ax_step, ho, hc]; rw [if_neg hn, hk]; simp only [if_true, hm, Option.map_some, hq]) (Or.inl rfl)
theorem xr_clone {o k q n a len : Nat} {h1 : AH} (hd : decode (ax_code m) pc = .ok (.invokevirtual k, 3)) (ho : ax_own m = o) (hc : ax_cal o k = some (9, q, n)) (ht : ax_ty h a = (20, len)) (ha : 64 ≤ a) (hok : ax_ok ph h a = true) (hw : ax_wt st ≤ 8) (hL : ls.length = ax_L m) (hm : ax_mkC h a len = some h1) : XX ph d m pc ls (.ref a :: st) h R ↔ XX ph d m (pc + 3) ls (.ref h.2.2.1 :: st) h1 R := xx_step hd (by simp only [ax_step, ho, hc, ht]; rw [if_pos ⟨trivial, ha, hok, hw, hL⟩, hm]; rfl) (Or.inl rfl)
theorem xr_castI {o k a : Nat} (hd : decode (ax_code m) pc = .ok (.checkcast k, 3)) (ho : ax_own m = o) (hc : ax_new o k = some 17) (ht : (ax_ty h a).1 = 20) (ha : 64 ≤ a) (hok : ax_ok ph h a = true) : XX ph d m pc ls (.ref a :: st) h R ↔ XX ph d m (pc + 3) ls (.ref a :: st) h R := xx_step hd (by simp only [ax_step, ho, hc, ht]; rw [if_pos ⟨trivial, trivial, ha, hok⟩]) (Or.inl rfl)
def dNN (x : UInt64) : Bool := decide (x &&& 0x7fffffffffffffff ≤ 0x7ff0000000000000)
theorem xr_dload {n : Nat} {v : Value} (hd : decode (ax_code m) pc = .ok (.dload n, 2)) (hv : ls.getD n ax_junk = v) (hk : ax_kd v = 4) : XX ph d m pc ls st h R ↔ XX ph d m (pc + 2) ls (v :: st) h R := xx_step hd (by simp only [ax_step, ax_lod_of hv hk]; rfl) (Or.inl rfl)
theorem xr_dstore {n k : Nat} {v : Value} {ls1 : List Value} (hd : decode (ax_code m) pc = .ok (.dstore n, 2)) (hk : ax_kd v = 4) (hL : ax_L m = k) (hl : ls.length = k) (hn : n + 1 < k) (h1 : ax_put ls n v = ls1) : XX ph d m pc ls (v :: st) h R ↔ XX ph d m (pc + 2) ls1 st h R := xx_step hd (by simp only [ax_step, ax_sto_of (c := 4) hk hL hl hn h1]; rfl) (Or.inl rfl)
theorem xr_dconst0 (hd : decode (ax_code m) pc = .ok (.dconst 0, 1)) : XX ph d m pc ls st h R ↔ XX ph d m (pc + 1) ls (.double 0 :: st) h R := xx_step hd rfl (Or.inl rfl)
theorem xr_ddiv {x y : UInt64} (hd : decode (ax_code m) pc = .ok (.ddiv, 1)) : XX ph d m pc ls (.double y :: .double x :: st) h R ↔ dNN (FP.ddiv x y) = true ∧ XX ph d m (pc + 1) ls (.double (FP.ddiv x y) :: st) h R := xx_safe hd (fun z => by simp only [ax_step, ax_dd]; rw [if_pos (of_decide_eq_true z)]; rfl) (fun z => by simp only [ax_step, ax_dd]; rw [if_neg (of_decide_eq_false z)]; rfl) rfl rfl (Or.inl rfl)
theorem xr_dadd {x y : UInt64} (hd : decode (ax_code m) pc = .ok (.dadd, 1)) : XX ph d m pc ls (.double y :: .double x :: st) h R ↔ dNN (FP.dadd x y) = true ∧ XX ph d m (pc + 1) ls (.double (FP.dadd x y) :: st) h R := xx_safe hd (fun z => by simp only [ax_step, ax_dd]; rw [if_pos (of_decide_eq_true z)]; rfl) (fun z => by simp only [ax_step, ax_dd]; rw [if_neg (of_decide_eq_false z)]; rfl) rfl rfl (Or.inl rfl)
theorem xr_dsub {x y : UInt64} (hd : decode (ax_code m) pc = .ok (.dsub, 1)) : XX ph d m pc ls (.double y :: .double x :: st) h R ↔ dNN (FP.dsub x y) = true ∧ XX ph d m (pc + 1) ls (.double (FP.dsub x y) :: st) h R := xx_safe hd (fun z => by simp only [ax_step, ax_dd]; rw [if_pos (of_decide_eq_true z)]; rfl) (fun z => by simp only [ax_step, ax_dd]; rw [if_neg (of_decide_eq_false z)]; rfl) rfl rfl (Or.inl rfl)
theorem xr_dcmp {x y : UInt64} {op : CmpOp} (hd : decode (ax_code m) pc = .ok (.dcmp op, 1)) : XX ph d m pc ls (.double y :: .double x :: st) h R ↔ XX ph d m (pc + 1) ls (.int (Op.cmpValue (FP.dcmp x y) op) :: st) h R := xx_step hd rfl (Or.inl rfl)
theorem xr_l2d {x : Int64} (hd : decode (ax_code m) pc = .ok (.l2d, 1)) : XX ph d m pc ls (.long x :: st) h R ↔ XX ph d m (pc + 1) ls (.double (FP.l2d x) :: st) h R := xx_step hd rfl (Or.inl rfl)
theorem xr_dup_x1 {v w : Value} (hd : decode (ax_code m) pc = .ok (.dup_x1, 1)) (hk : (ax_kd v = 0 ∨ ax_kd v = 2) ∧ (ax_kd w = 0 ∨ ax_kd w = 2)) : XX ph d m pc ls (v :: w :: st) h R ↔ XX ph d m (pc + 1) ls (v :: w :: v :: st) h R := xx_step hd (by simp only [ax_step]; rw [if_pos hk]) (Or.inl rfl)
theorem xr_ldc2D {o k : Nat} {v : UInt64} (hd : decode (ax_code m) pc = .ok (.ldc2_w k, 3)) (ho : ax_own m = o) (hv : ax_ldc o k = some (.double v)) : XX ph d m pc ls st h R ↔ XX ph d m (pc + 3) ls (.double v :: st) h R := xx_step hd (by simp only [ax_step, ho, hv]) (Or.inl rfl)
theorem xr_newM {n w : Int32} {o i k g q : Nat} {h1 : AH} (hd : decode (ax_code m) pc = .ok (.multianewarray i 2, 4)) (ho : ax_own m = o) (hc : ax_mna o i = true) (hn : ¬ n < 0) (hw : ¬ w < 0) (hk : n.toNatClampNeg = k) (hg : w.toNatClampNeg = g) (hm : ax_mkM h k g = some h1) (hq : h.2.2.1 = q) : XX ph d m pc ls (.int w :: .int n :: st) h R ↔ XX ph d m (pc + 4) ls (.ref q :: st) h1 R := xx_step hd (by simp only [ax_step, ho, hc]; rw [if_neg (by simp [hn, hw]), hk, hg, hm]; simp only [Option.map_some, hq]) (Or.inl rfl)
-- returns
theorem xr_ireturn {v : Int32} (hd : decode (ax_code m) pc = .ok (.ireturn, 1)) (hr : ax_ret m = some .int) : XX ph d m pc ls [.int v] h R ↔ R = (some (.int v), h) := xx_ret hd rfl (by simp only [ax_retv]; rw [if_pos (Or.inl hr)]) rfl
theorem xr_zreturn {v : Int32} (hd : decode (ax_code m) pc = .ok (.ireturn, 1)) (hr : ax_ret m = some .boolean) (hv : v = 0 ∨ v = 1) : XX ph d m pc ls [.int v] h R ↔ R = (some (.int v), h) := xx_ret hd rfl (by simp only [ax_retv]; rw [if_pos (Or.inr (Or.inl ⟨hr, hv⟩))]) rfl
theorem xr_creturn {v : Int32} (hd : decode (ax_code m) pc = .ok (.ireturn, 1)) (hr : ax_ret m = some .char) (hv : v.toUInt32.toUInt16.toUInt32.toInt32 = v) : XX ph d m pc ls [.int v] h R ↔ R = (some (.int v), h) := xx_ret hd rfl (by simp only [ax_retv]; rw [if_pos (Or.inr (Or.inr (Or.inl ⟨hr, hv⟩)))]) rfl
theorem xr_breturn {v : Int32} (hd : decode (ax_code m) pc = .ok (.ireturn, 1)) (hr : ax_ret m = some .byte) (hv : v.toInt8.toInt32 = v) : XX ph d m pc ls [.int v] h R ↔ R = (some (.int v), h) := xx_ret hd rfl (by simp only [ax_retv]; rw [if_pos (Or.inr (Or.inr (Or.inr ⟨hr, hv⟩)))]) rfl
theorem xr_lreturn {v : Int64} (hd : decode (ax_code m) pc = .ok (.lreturn, 1)) (hr : ax_ret m = some .long) : XX ph d m pc ls [.long v] h R ↔ R = (some (.long v), h) := xx_ret hd rfl (by simp only [ax_retv]; rw [if_pos hr]) rfl
theorem xr_areturn {v : Value} {n : String} (hd : decode (ax_code m) pc = .ok (.areturn, 1)) (hr : ax_ret m = some (.object n)) (hv : ax_kd v = 2) : XX ph d m pc ls [v] h R ↔ R = (some v, h) := xx_ret hd rfl (by simp only [ax_retv, hr]; rw [if_pos hv]) rfl
theorem xr_areturnA {v : Value} {n : FieldType} (hd : decode (ax_code m) pc = .ok (.areturn, 1)) (hr : ax_ret m = some (.array n)) (hv : ax_kd v = 2) : XX ph d m pc ls [v] h R ↔ R = (some v, h) := xx_ret hd rfl (by simp only [ax_retv, hr]; rw [if_pos hv]) rfl
theorem xr_return (hd : decode (ax_code m) pc = .ok (.return_, 1)) (hr : ax_ret m = none) : XX ph d m pc ls [] h R ↔ R = (none, h) := xx_ret hd rfl (by simp only [ax_retv]; rw [if_pos hr]) rfl
-- Math's own
theorem xr_mmax {o k q n : Nat} {x y : Int32} (hd : decode (ax_code m) pc = .ok (.invokestatic k, 3)) (ho : ax_own m = o) (hc : ax_cal o k = some (5, q, n)) (hw : ax_wt st ≤ 8) (hL : ls.length = ax_L m) : XX ph d m pc ls (.int y :: .int x :: st) h R ↔ XX ph d m (pc + 3) ls (.int (if x < y then y else x) :: st) h R := xx_step hd (by simp only [ax_step, ho, hc]; rw [if_pos ⟨hw, hL⟩]; rfl) (Or.inl rfl)
theorem xr_mmin {o k q n : Nat} {x y : Int32} (hd : decode (ax_code m) pc = .ok (.invokestatic k, 3)) (ho : ax_own m = o) (hc : ax_cal o k = some (6, q, n)) (hw : ax_wt st ≤ 8) (hL : ls.length = ax_L m) : XX ph d m pc ls (.int y :: .int x :: st) h R ↔ XX ph d m (pc + 3) ls (.int (if y < x then y else x) :: st) h R := xx_step hd (by simp only [ax_step, ho, hc]; rw [if_pos ⟨hw, hL⟩]; rfl) (Or.inl rfl)
theorem xr_mabsL {o k q n : Nat} {x : Int64} (hd : decode (ax_code m) pc = .ok (.invokestatic k, 3)) (ho : ax_own m = o) (hc : ax_cal o k = some (7, q, n)) (hw : ax_wt st ≤ 8) (hL : ls.length = ax_L m) : XX ph d m pc ls (.long x :: st) h R ↔ XX ph d m (pc + 3) ls (.long (if 0 < x then x else -x) :: st) h R := xx_step hd (by simp only [ax_step, ho, hc]; rw [if_pos ⟨hw, hL⟩]; rfl) (Or.inl rfl)
theorem xr_mmaxL {o k q n : Nat} {x y : Int64} (hd : decode (ax_code m) pc = .ok (.invokestatic k, 3)) (ho : ax_own m = o) (hc : ax_cal o k = some (8, q, n)) (hw : ax_wt st ≤ 8) (hL : ls.length = ax_L m) : XX ph d m pc ls (.long y :: .long x :: st) h R ↔ XX ph d m (pc + 3) ls (.long (if y < x then x else y) :: st) h R := xx_step hd (by simp only [ax_step, ho, hc]; rw [if_pos ⟨hw, hL⟩]; rfl) (Or.inl rfl)
-- calls
theorem xr_callS {o k q n d1 dq : Nat} {as rest : List Value} {r : Option Value} {h1 : AH} (hd : decode (ax_code m) pc = .ok (.invokestatic k, 3)) (ho : ax_own m = o) (hc : ax_cal o k = some (1, q, n)) (hst : st = as.reverse ++ rest) (hn : as.length = n) (hw : ax_wt rest ≤ 8) {nL : Nat} (hL : ax_L q = nL) (he : (ax_ent0 as).length ≤ nL) (hdd : d = d1 + 1) (hdq : dq ≤ d1) (hx : XX ph dq q 0 (ax_ent as nL) [] h (r, h1)) : XX ph d m pc ls st h R ↔ XX ph d m (pc + 3) ls (r.toList ++ rest) h1 R := by
  subst hst; subst hn; subst hL
  have e1 : (as.reverse ++ rest).take as.length = as.reverse := by rw [← List.length_reverse, List.take_left]
  have e2 : (as.reverse ++ rest).drop as.length = rest := by rw [← List.length_reverse, List.drop_left]
  refine xx_call0 hd (by simp only [ax_step, ho, hc]) rfl (q := q) (as := as) (rest := rest) ?_ he hdd hdq hx
  simp only [ax_callv, ho, hc, e1, e2]
  rw [if_pos ⟨List.length_reverse, hw⟩, List.reverse_reverse]
theorem xr_callSN {o k q n d1 dq : Nat} {as rest : List Value} {r : Option Value} {h1 : AH} (hd : decode (ax_code m) pc = .ok (.invokestatic k, 3)) (ho : ax_own m = o) (hc : ax_cal o k = some (10, q, n)) (hst : st = as.reverse ++ rest) (hn : as.length = n) (hw : ax_wt rest ≤ 8) {nL : Nat} (hL : ax_L q = nL) (he : (ax_ent0 as).length ≤ nL) (hdd : d = d1 + 1) (hdq : dq ≤ d1) (hx : XX ph dq q 0 (ax_ent as nL) [] h (r, h1)) : XX ph d m pc ls st h R ↔ XX ph d m (pc + 3) ls (r.toList ++ rest) h1 R := by
  subst hst; subst hn; subst hL
  have e1 : (as.reverse ++ rest).take as.length = as.reverse := by rw [← List.length_reverse, List.take_left]
  have e2 : (as.reverse ++ rest).drop as.length = rest := by rw [← List.length_reverse, List.drop_left]
  refine xx_call0 hd (by simp only [ax_step, ho, hc]) rfl (q := q) (as := as) (rest := rest) ?_ he hdd hdq hx
  simp only [ax_callv, ho, hc, e1, e2]
  rw [if_pos ⟨List.length_reverse, hw⟩, List.reverse_reverse]
theorem xr_callV {o k q n d1 dq a c : Nat} {as rest : List Value} {r : Option Value} {h1 : AH} (hd : decode (ax_code m) pc = .ok (.invokevirtual k, 3)) (ho : ax_own m = o) (hc : ax_cal o k = some (0, q, n)) (hst : st = as.reverse ++ .ref a :: rest) (hn : as.length = n) (hw : ax_wt rest ≤ 8) (hoq : ax_own q = c) (hc14 : c < 14) (hty : (ax_ty h a).1 = c) (hok : ax_ok ph h a = true) {nL : Nat} (hL : ax_L q = nL) (he : (ax_ent0 (.ref a :: as)).length ≤ nL) (hdd : d = d1 + 1) (hdq : dq ≤ d1) (hx : XX ph dq q 0 (ax_ent (.ref a :: as) nL) [] h (r, h1)) : XX ph d m pc ls st h R ↔ XX ph d m (pc + 3) ls (r.toList ++ rest) h1 R := by
  subst hst; subst hn; subst hL
  have e1 : (as.reverse ++ .ref a :: rest).take as.length = as.reverse := by rw [← List.length_reverse, List.take_left]
  have e2 : (as.reverse ++ .ref a :: rest).drop as.length = .ref a :: rest := by rw [← List.length_reverse, List.drop_left]
  refine xx_call0 hd (by simp only [ax_step, ho, hc]) rfl (q := q) (as := .ref a :: as) (rest := rest) ?_ he hdd hdq hx
  simp only [ax_callv, ho, hc, e1, e2]
  rw [if_pos ⟨List.length_reverse, hw, hty.trans hoq.symm, by rw [hoq]; exact hc14, hok⟩, List.reverse_reverse]
theorem xr_callI {o k q n kd d1 dq a : Nat} {as rest : List Value} {r : Option Value} {h1 : AH} (hd : decode (ax_code m) pc = .ok (.invokespecial k, 3)) (ho : ax_own m = o) (hkd : kd = 2 ∨ kd = 3) (hc : ax_cal o k = some (kd, q, n)) (hst : st = as.reverse ++ .ref a :: rest) (hn : as.length = n) (hw : ax_wt rest ≤ 8) (ha : 64 ≤ a) {nL : Nat} (hL : ax_L q = nL) (he : (ax_ent0 (.ref a :: as)).length ≤ nL) (hdd : d = d1 + 1) (hdq : dq ≤ d1) (hx : XX ph dq q 0 (ax_ent (.ref a :: as) nL) [] h (r, h1)) : XX ph d m pc ls st h R ↔ XX ph d m (pc + 3) ls (r.toList ++ rest) h1 R := by
  subst hst; subst hn; subst hL
  have e1 : (as.reverse ++ .ref a :: rest).take as.length = as.reverse := by rw [← List.length_reverse, List.take_left]
  have e2 : (as.reverse ++ .ref a :: rest).drop as.length = .ref a :: rest := by rw [← List.length_reverse, List.drop_left]
  refine xx_call0 hd rfl rfl (q := q) (as := .ref a :: as) (rest := rest) ?_ he hdd hdq hx
  rcases hkd with rfl | rfl <;>
  · simp only [ax_callv, ho, hc, e1, e2]
    rw [if_pos ⟨List.length_reverse, hw, ha⟩, List.reverse_reverse]
end Instr
-- longs compared
section Lcmp
variable {ph : Bool} {d m pc : Nat} {ls st : List Value} {h : AH} {R : Option Value × AH}
theorem lg_lt0 (x y : Int64) : (lg_cmp x y < nI 0) ↔ x < y := by
  rw [nI_0]
  unfold lg_cmp
  simp only [gt_iff_lt, Int64.lt_iff_toInt_lt, ← Int64.toInt_inj]
  repeat' split
  all_goals (constructor <;> intro hh <;> first | omega | decide | exact absurd hh (by decide))
theorem lg_le0 (x y : Int64) : (lg_cmp x y ≤ nI 0) ↔ x ≤ y := by
  rw [nI_0]
  unfold lg_cmp
  simp only [gt_iff_lt, Int64.lt_iff_toInt_lt, Int64.le_iff_toInt_le, ← Int64.toInt_inj]
  repeat' split
  all_goals (constructor <;> intro hh <;> first | omega | decide | exact absurd hh (by decide))
theorem lg_eq0 (x y : Int64) : (lg_cmp x y = nI 0) ↔ x = y := by
  rw [nI_0]
  unfold lg_cmp
  simp only [gt_iff_lt, Int64.lt_iff_toInt_lt, ← Int64.toInt_inj]
  repeat' split
  all_goals (constructor <;> intro hh <;> first | omega | decide | exact absurd hh (by decide))
end Lcmp
/-- a slot of the locals that is no longer known: what runs without it runs with it -/
def ax_jle (ls ls' : List Value) : Prop := ls.length = ls'.length ∧ ∀ i, ls.getD i ax_junk = ax_junk ∨ ls.getD i ax_junk = ls'.getD i ax_junk
theorem ax_jle.rf (ls : List Value) : ax_jle ls ls := ⟨rfl, fun _ => Or.inr rfl⟩
theorem ax_put_getD (ls : List Value) (n j : Nat) (v : Value) (hn : n < ls.length) : (ax_put ls n v).getD j ax_junk = if j = n then (if ax_isL v = true ∧ False then ax_junk else v) else if ax_isL v = true ∧ j = n + 1 then ax_junk else if j + 1 = n ∧ ax_isL (ls.getD j ax_junk) = true then ax_junk else ls.getD j ax_junk := by
  have hset : ∀ (l : List Value) (k : Nat) (w : Value) (i : Nat), (l.set k w).getD i ax_junk = if i = k ∧ k < l.length then w else l.getD i ax_junk := by
    intro l k w i
    rw [List.getD_eq_getElem?_getD, List.getElem?_set, List.getD_eq_getElem?_getD]
    by_cases e : k = i
    · subst e
      by_cases q : k < l.length
      · simp [q]
      · simp [q]
    · rw [if_neg e, if_neg (fun z => e z.1.symm)]
  have hjunk : ∀ (l : List Value) (k i : Nat), (l.set k ax_junk).getD i ax_junk = if i = k then ax_junk else l.getD i ax_junk := by
    intro l k i
    rw [hset]
    by_cases e : i = k
    · subst e
      by_cases q : i < l.length
      · simp [q]
      · rw [if_neg (fun z => q z.2), if_pos rfl, List.getD_eq_getElem?_getD, List.getElem?_eq_none (Nat.not_lt.mp q)]
        rfl
    · rw [if_neg (fun z => e z.1), if_neg e]
  unfold ax_put
  dsimp only
  have inner : ∀ i, ((if n = 0 then ls else if ax_isL (ls.getD (n - 1) ax_junk) = true then ls.set (n - 1) ax_junk else ls).set n v).getD i ax_junk = if i = n then v else if i + 1 = n ∧ ax_isL (ls.getD i ax_junk) = true then ax_junk else ls.getD i ax_junk := by
    intro i
    rw [hset]
    by_cases e : i = n
    · subst e
      rw [if_pos ⟨rfl, by split <;> (try split) <;> simp [hn]⟩, if_pos rfl]
    · rw [if_neg (fun z => e z.1), if_neg e]
      by_cases n0 : n = 0
      · rw [if_pos n0, if_neg (fun z => by omega)]
      · rw [if_neg n0]
        by_cases q : ax_isL (ls.getD (n - 1) ax_junk) = true
        · rw [if_pos q, hjunk]
          by_cases z : i = n - 1
          · subst z
            rw [if_pos rfl, if_pos ⟨by omega, q⟩]
          · rw [if_neg z, if_neg (fun y => z (by omega))]
        · rw [if_neg q, if_neg]
          rintro ⟨y1, y2⟩
          have : i = n - 1 := by omega
          subst this
          exact q y2
  split
  · rename_i hL
    rw [hjunk, inner]
    by_cases e : j = n
    · subst e
      rw [if_neg (by omega), if_pos rfl, if_pos rfl, if_neg (fun z => z.2)]
    · rw [if_neg e, if_neg e]
      by_cases e2 : j = n + 1
      · rw [if_pos e2, if_pos ⟨hL, e2⟩]
      · rw [if_neg e2, if_neg (show ¬ (ax_isL v = true ∧ j = n + 1) from fun z => e2 z.2)]
  · rename_i hL
    rw [inner]
    by_cases e : j = n
    · rw [if_pos e, if_pos e, if_neg (fun z => z.2)]
    · rw [if_neg e, if_neg e, if_neg (show ¬ (ax_isL v = true ∧ j = n + 1) from fun z => hL z.1)]
theorem ax_jle.put {ls ls' : List Value} (h : ax_jle ls ls') {n : Nat} (hn : n < ls.length) (v : Value) : ax_jle (ax_put ls n v) (ax_put ls' n v) := by
  refine ⟨by rw [ax_put_len, ax_put_len]; exact h.1, fun j => ?_⟩
  rw [ax_put_getD ls n j v hn, ax_put_getD ls' n j v (by rw [← h.1]; exact hn)]
  by_cases e : j = n
  · rw [if_pos e, if_pos e]; exact Or.inr rfl
  · rw [if_neg e, if_neg e]
    by_cases q : ax_isL v = true ∧ j = n + 1
    · rw [if_pos q]; exact Or.inl rfl
    · rw [if_neg q, if_neg q]
      rcases h.2 j with z | z
      · left
        split
        · rfl
        · exact z
      · rw [z]
        exact Or.inr rfl
theorem ax_jle.get {ls ls' : List Value} (h : ax_jle ls ls') {n : Nat} {v : Value} (hv : ls.getD n ax_junk = v) (hk : ax_kd v ≠ 3) : ls'.getD n ax_junk = v := by
  rcases h.2 n with z | z
  · rw [z] at hv
    subst hv
    exact absurd rfl hk
  · rw [← z]; exact hv
theorem ax_jle.lod {ls ls' : List Value} (h : ax_jle ls ls') {c n : Nat} {v : Value} (hc : c ≠ 3) (hv : ax_lod c ls n = some v) : ax_lod c ls' n = some v := by
  unfold ax_lod at hv
  split at hv
  · rename_i hk
    have e := h.get rfl (n := n) (by rw [hk]; exact hc)
    cases hv
    exact ax_lod_of e hk
  · cases hv
theorem ax_jle.sto {ls ls' st : List Value} (h : ax_jle ls ls') {c m n : Nat} {q : List Value × List Value} (hv : ax_sto c m ls st n = some q) : ∃ q', ax_sto c m ls' st n = some q' ∧ ax_jle q.1 q'.1 ∧ q'.2 = q.2 := by
  obtain ⟨v, r, rfl, h1, h2, h3, rfl⟩ := ax_sto_inv hv
  refine ⟨(ax_put ls' n v, r), ?_, h.put (Nat.lt_of_le_of_lt (by split <;> omega) h2) v, rfl⟩
  exact ax_sto_of (k := ax_L m) h1 rfl (by rw [← h.1]; exact h3) (by rw [← h3]; exact h2) rfl
/-- an instruction that doesn't look at the locals -/
def ax_nl (i : Instr) : Bool := match i with
  | .iload _ => false
  | .iload_n _ => false
  | .lload _ => false
  | .lload_n _ => false
  | .aload _ => false
  | .aload_n _ => false
  | .istore _ => false
  | .istore_n _ => false
  | .lstore _ => false
  | .lstore_n _ => false
  | .astore _ => false
  | .astore_n _ => false
  | .dload _ => false
  | .dload_n _ => false
  | .dstore _ => false
  | .dstore_n _ => false
  | .invokevirtual _ => false
  | .invokestatic _ => false
  | .iinc _ _ => false
  | _ => true
theorem ax_step_ls {ph : Bool} {m pc : Nat} {i : Instr} {st : List Value} {h : AH} (hi : ax_nl i = true) (l : List Value) : ax_step ph m i pc l st h = (ax_step ph m i pc [] st h).map (fun q => (q.1, l, q.2.2)) := by
  cases i <;> first
    | (cases hi; done)
    | rfl
    | (simp only [ax_step, Option.map_map, Function.comp_def]; done)
    | (simp only [ax_step]
       repeat' split
       all_goals first
         | rfl
         | (simp only [Option.map_map, Function.comp_def]; done))
theorem ax_jle.step {ph : Bool} {m pc pc1 : Nat} {i : Instr} {ls ls' st ls1 st1 : List Value} {h h1 : AH} (hj : ax_jle ls ls') (hs : ax_step ph m i pc ls st h = some (pc1, ls1, st1, h1)) : ∃ ls1', ax_step ph m i pc ls' st h = some (pc1, ls1', st1, h1) ∧ ax_jle ls1 ls1' := by
  cases i
  case iload n => obtain ⟨v, hv, e⟩ := Option.map_eq_some_iff.mp hs; cases e; exact ⟨ls', by simp only [ax_step, hj.lod (by decide) hv]; rfl, hj⟩
  case iload_n n => obtain ⟨v, hv, e⟩ := Option.map_eq_some_iff.mp hs; cases e; exact ⟨ls', by simp only [ax_step, hj.lod (by decide) hv]; rfl, hj⟩
  case lload n => obtain ⟨v, hv, e⟩ := Option.map_eq_some_iff.mp hs; cases e; exact ⟨ls', by simp only [ax_step, hj.lod (by decide) hv]; rfl, hj⟩
  case lload_n n => obtain ⟨v, hv, e⟩ := Option.map_eq_some_iff.mp hs; cases e; exact ⟨ls', by simp only [ax_step, hj.lod (by decide) hv]; rfl, hj⟩
  case aload n => obtain ⟨v, hv, e⟩ := Option.map_eq_some_iff.mp hs; cases e; exact ⟨ls', by simp only [ax_step, hj.lod (by decide) hv]; rfl, hj⟩
  case aload_n n => obtain ⟨v, hv, e⟩ := Option.map_eq_some_iff.mp hs; cases e; exact ⟨ls', by simp only [ax_step, hj.lod (by decide) hv]; rfl, hj⟩
  case istore n => obtain ⟨q, hq, e⟩ := Option.map_eq_some_iff.mp hs; cases e; obtain ⟨q', h2, h3, h4⟩ := hj.sto hq; exact ⟨q'.1, by simp only [ax_step, h2, Option.map_some, h4], h3⟩
  case istore_n n => obtain ⟨q, hq, e⟩ := Option.map_eq_some_iff.mp hs; cases e; obtain ⟨q', h2, h3, h4⟩ := hj.sto hq; exact ⟨q'.1, by simp only [ax_step, h2, Option.map_some, h4], h3⟩
  case lstore n => obtain ⟨q, hq, e⟩ := Option.map_eq_some_iff.mp hs; cases e; obtain ⟨q', h2, h3, h4⟩ := hj.sto hq; exact ⟨q'.1, by simp only [ax_step, h2, Option.map_some, h4], h3⟩
  case lstore_n n => obtain ⟨q, hq, e⟩ := Option.map_eq_some_iff.mp hs; cases e; obtain ⟨q', h2, h3, h4⟩ := hj.sto hq; exact ⟨q'.1, by simp only [ax_step, h2, Option.map_some, h4], h3⟩
  case astore n => obtain ⟨q, hq, e⟩ := Option.map_eq_some_iff.mp hs; cases e; obtain ⟨q', h2, h3, h4⟩ := hj.sto hq; exact ⟨q'.1, by simp only [ax_step, h2, Option.map_some, h4], h3⟩
  case astore_n n => obtain ⟨q, hq, e⟩ := Option.map_eq_some_iff.mp hs; cases e; obtain ⟨q', h2, h3, h4⟩ := hj.sto hq; exact ⟨q'.1, by simp only [ax_step, h2, Option.map_some, h4], h3⟩
  case dload n => obtain ⟨v, hv, e⟩ := Option.map_eq_some_iff.mp hs; cases e; exact ⟨ls', by simp only [ax_step, hj.lod (by decide) hv]; rfl, hj⟩
  case dload_n n => obtain ⟨v, hv, e⟩ := Option.map_eq_some_iff.mp hs; cases e; exact ⟨ls', by simp only [ax_step, hj.lod (by decide) hv]; rfl, hj⟩
  case dstore n => obtain ⟨q, hq, e⟩ := Option.map_eq_some_iff.mp hs; cases e; obtain ⟨q', h2, h3, h4⟩ := hj.sto hq; exact ⟨q'.1, by simp only [ax_step, h2, Option.map_some, h4], h3⟩
  case dstore_n n => obtain ⟨q, hq, e⟩ := Option.map_eq_some_iff.mp hs; cases e; obtain ⟨q', h2, h3, h4⟩ := hj.sto hq; exact ⟨q'.1, by simp only [ax_step, h2, Option.map_some, h4], h3⟩
  case invokevirtual k =>
    simp only [ax_step] at hs ⊢
    rw [← hj.1]
    repeat' split at hs
    all_goals first
      | (obtain ⟨v, hv, e⟩ := Option.map_eq_some_iff.mp hs; cases e; exact ⟨ls', by simp [*], hj⟩)
      | (cases hs)
  case iinc n k =>
    simp only [ax_step] at hs
    split at hs
    · rename_i x hx
      split at hs
      · rename_i hc
        cases hs
        refine ⟨ax_put ls' n (.int (x + Int32.ofInt k)), ?_, hj.put hc.1 _⟩
        simp only [ax_step, hj.get hx (fun q => by cases q)]
        rw [if_pos ⟨by rw [← hj.1]; exact hc.1, by rw [← hj.1]; exact hc.2⟩]
      · cases hs
    · cases hs
  case invokestatic k =>
    simp only [ax_step] at hs ⊢
    rw [← hj.1]
    repeat' split at hs
    all_goals first
      | (obtain ⟨v, hv, e⟩ := Option.map_eq_some_iff.mp hs; cases e; exact ⟨ls', by rename_i hc _; simp only [*]; rfl, hj⟩)
      | (obtain ⟨v, hv, e⟩ := Option.map_eq_some_iff.mp hs; cases e; exact ⟨ls', by simp [*], hj⟩)
      | (cases hs)
  all_goals
    rw [ax_step_ls rfl ls] at hs
    obtain ⟨⟨q1, q2, q3, q4⟩, hq, e2⟩ := Option.map_eq_some_iff.mp hs
    cases e2
    exact ⟨ls', by rw [ax_step_ls rfl ls', hq]; rfl, hj⟩
theorem ax_jle.nonex {ph : Bool} {m pc : Nat} {i : Instr} {ls ls' st : List Value} {h : AH} (hn : ax_nl i = true) (hs : ax_step ph m i pc ls st h = none) : ax_step ph m i pc ls' st h = none := by
  rw [ax_step_ls hn ls] at hs
  rw [ax_step_ls hn ls', Option.map_eq_none_iff.mp hs]
  rfl
/-- a return, or a call, isn't an instruction that looks at the locals -/
theorem ax_retv_nl {m : Nat} {i : Instr} {st : List Value} {r : Option Value} (h : ax_retv m i st = some r) : ax_nl i = true := by
  cases i <;> first | rfl | (exact absurd h (by intro z; cases z))
theorem ax_callv_step {ph : Bool} {m pc : Nat} {i : Instr} {st : List Value} {h : AH} {x : Option Nat × List Value × List Value} (hc : ax_callv ph m i st h = some x) (ls : List Value) : ax_step ph m i pc ls st h = none := by
  cases i <;> first
    | rfl
    | (exact absurd hc (by intro z; cases z))
    | (simp only [ax_callv] at hc
       simp only [ax_step]
       split at hc
       · rename_i e
         simp only [e]
       · cases hc)
    | (simp only [ax_callv] at hc
       simp only [ax_step]
       split at hc
       · rename_i e
         simp only [e]
       · rename_i e
         simp only [e]
       · cases hc)
theorem ax_jle.run {ph : Bool} : ∀ (f d m pc : Nat) (ls ls' st : List Value) (h : AH) (R : Option Value × AH), ax_jle ls ls' → ax_ex ph f d m pc ls st h = some R → ax_ex ph f d m pc ls' st h = some R
  | 0, _, _, _, _, _, _, _, _, _, hx => by cases hx
  | f + 1, d, m, pc, ls, ls', st, h, R, hj, hx => by
    unfold ax_ex at hx
    split at hx
    · cases hx
    · rename_i i len hdc
      split at hx
      · rename_i pc1 ls1 st1 h1 hs
        split at hx
        · rename_i hlen
          obtain ⟨ls2, h2, h3⟩ := hj.step hs
          unfold ax_ex
          simp only [hdc, h2]
          rw [if_pos hlen]
          exact ax_jle.run f d m pc1 ls1 ls2 st1 h1 R h3 hx
        · cases hx
      · rename_i hs
        split at hx
        · rename_i r0 hrv
          unfold ax_ex
          simp only [hdc, ax_jle.nonex (ls' := ls') (ax_retv_nl hrv) hs, hrv]
          exact hx
        · rename_i hrv
          split at hx
          · rename_i as rest hc
            unfold ax_ex
            simp only [hdc, ax_callv_step hc ls', hrv, hc]
            split at hx
            · rename_i hlen
              rw [if_pos hlen]
              exact ax_jle.run f d m _ ls ls' rest h R hj hx
            · cases hx
          · rename_i q as rest hc
            unfold ax_ex
            simp only [hdc, ax_callv_step hc ls', hrv, hc]
            split at hx
            · rename_i hlen
              rw [if_pos hlen]
              split at hx
              · cases hx
              · rename_i d1
                split at hx
                · rename_i v h1 hcl
                  try simp only [hcl]
                  exact ax_jle.run f (d1 + 1) m _ ls ls' _ h1 R hj hx
                · cases hx
            · cases hx
          · cases hx
/-- forget slots that are not needed any more -/
theorem XX.junk {ph : Bool} {d m pc : Nat} {ls ls' st : List Value} {h : AH} {R : Option Value × AH} (hx : XX ph d m pc ls st h R) (hj : ax_jle ls ls') : XX ph d m pc ls' st h R := by
  obtain ⟨f, hf⟩ := hx
  exact ⟨f, ax_jle.run f d m pc ls ls' st h R hj hf⟩
theorem ax_jle.nil : ax_jle [] [] := ax_jle.rf []
theorem ax_jle.cons {v : Value} {ls ls' : List Value} (h : ax_jle ls ls') : ax_jle (v :: ls) (v :: ls') := ⟨by rw [List.length_cons, List.length_cons, h.1], fun i => by cases i with
  | zero => exact Or.inr rfl
  | succ i => exact h.2 i⟩
theorem ax_jle.skip {v : Value} {ls ls' : List Value} (h : ax_jle ls ls') : ax_jle (ax_junk :: ls) (v :: ls') := ⟨by rw [List.length_cons, List.length_cons, h.1], fun i => by cases i with
  | zero => exact Or.inl rfl
  | succ i => exact h.2 i⟩
