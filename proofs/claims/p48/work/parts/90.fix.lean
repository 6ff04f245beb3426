/-! WHAT IS CONSTANT STAYS SO; the script's cells -/
def fixd (h h1 : AH) : Prop := 168 ≤ h1.2.2.1 ∧ ∀ a j, a < 168 → ax_wok true a j = false → h1.1 a j = h.1 a j
theorem fixd.rf {h : AH} (al : 168 ≤ h.2.2.1) : fixd h h := ⟨al, fun _ _ _ _ => rfl⟩
theorem fixd.wr {h : AH} {a k : Nat} {v : Value} (al : 168 ≤ h.2.2.1) (q : ax_wok true a k = true) : fixd h (ax_wr h a k v) := ⟨al, fun b j _ z => if_neg (fun y => by rw [y.1, y.2, q] at z; cases z)⟩
theorem fixd.mk {h : AH} {c n : Nat} {g : Nat → Value} (al : 168 ≤ h.2.2.1) : fixd h (ax_mk h c n g) := ⟨Nat.le_succ_of_le al, fun b j hb _ => if_neg (by omega)⟩
theorem fixd.trans {h h1 h2 : AH} (f : fixd h h1) (g : fixd h1 h2) : fixd h h2 := ⟨g.1, fun a j ha z => (g.2 a j ha z).trans (f.2 a j ha z)⟩
theorem fixd_O {h h1 : AH} {c : Nat} (al : 168 ≤ h.2.2.1) (hm : ax_mkO h c = some h1) : fixd h h1 := by
  unfold ax_mkO at hm
  split at hm
  · cases hm; exact fixd.mk al
  · cases hm
theorem fixd_A {h h1 : AH} {t n : Nat} {v : Value} (al : 168 ≤ h.2.2.1) (hm : ax_mkA h t n v = some h1) : fixd h h1 := by
  unfold ax_mkA at hm
  split at hm
  · cases hm; exact fixd.mk al
  · cases hm
theorem fixd_C {h h1 : AH} {a n : Nat} (al : 168 ≤ h.2.2.1) (hm : ax_mkC h a n = some h1) : fixd h h1 := by
  unfold ax_mkC at hm
  split at hm
  · cases hm; exact fixd.mk al
  · cases hm
theorem fixd_M {h h1 : AH} {n w : Nat} (al : 168 ≤ h.2.2.1) (hm : ax_mkM h n w = some h1) : fixd h h1 := by
  unfold ax_mkM at hm
  split at hm
  · rename_i z
    omega
  · cases hm
theorem fixd_step {m pc pc1 : Nat} {i : Instr} {ls st ls1 st1 : List Value} {h h1 : AH} (al : 168 ≤ h.2.2.1) (hs : ax_step true m i pc ls st h = some (pc1, ls1, st1, h1)) : fixd h h1 := by
  by_cases hi : ax_nh i = true
  · rw [ax_step_nh hi hs]; exact fixd.rf al
  · cases i <;> first
    | (exact absurd rfl hi)
    | (simp only [ax_step] at hs
       repeat' split at hs
       all_goals first
         | (cases hs; exact fixd.rf al)
         | (obtain ⟨_, h2, e⟩ := Option.map_eq_some_iff.mp hs; cases e; exact fixd_O al h2)
         | (obtain ⟨_, h2, e⟩ := Option.map_eq_some_iff.mp hs; cases e; exact fixd_A al h2)
         | (obtain ⟨_, h2, e⟩ := Option.map_eq_some_iff.mp hs; cases e; exact fixd_M al h2)
         | (obtain ⟨_, h2, e⟩ := Option.map_eq_some_iff.mp hs; cases e; exact fixd_C al h2)
         | (obtain ⟨_, h2, e⟩ := Option.map_eq_some_iff.mp hs; cases e; exact fixd.rf al)
         | (rename_i hc; cases hs; exact fixd.wr al hc.2.2.1)
         | (rename_i hc; cases hs; exact fixd.wr al hc.2.2.2.2.1)
         | (cases hs))
theorem ax_fixd : ∀ (f d m pc : Nat) (ls st : List Value) (h : AH) (r : Option Value) (h9 : AH), 168 ≤ h.2.2.1 → ax_ex true f d m pc ls st h = some (r, h9) → fixd h h9 := by
  intro f
  induction f with
  | zero => intro d m pc ls st h r h9 al hx; cases hx
  | succ f ih =>
    intro d m pc ls st h r h9 al hx
    unfold ax_ex at hx
    split at hx
    · cases hx
    · split at hx
      · rename_i hs
        split at hx
        · have g := fixd_step al hs
          exact g.trans (ih _ _ _ _ _ _ _ _ g.1 hx)
        · cases hx
      · split at hx
        · split at hx
          · cases hx; exact fixd.rf al
          · cases hx
        · split at hx
          · split at hx
            · exact ih _ _ _ _ _ _ _ _ al hx
            · cases hx
          · split at hx
            · split at hx
              · cases hx
              · split at hx
                · rename_i hcl
                  have g := ih _ _ _ _ _ _ _ _ al hcl
                  exact g.trans (ih _ _ _ _ _ _ _ _ g.1 hx)
                · cases hx
            · cases hx
          · cases hx
theorem XX.fixd {d m pc : Nat} {ls st : List Value} {h : AH} {r : Option Value} {h9 : AH} (hx : XX true d m pc ls st h (r, h9)) (al : 168 ≤ h.2.2.1) : fixd h h9 := by
  obtain ⟨f, e⟩ := hx
  exact ax_fixd f d m pc ls st h r h9 al e
theorem nI_msk (x : Int32) : ∃ v, v < 2 ^ 31 ∧ x &&& nI 2147483647 = nI v := by
  have e : (x &&& nI 2147483647).toBitVec = BitVec.ofNat 32 (x.toBitVec.toNat &&& 2147483647) := by
    apply BitVec.eq_of_toNat_eq
    rw [BitVec.toNat_ofNat, Nat.mod_eq_of_lt (Nat.lt_of_le_of_lt Nat.and_le_right (by decide))]
    show (x.toBitVec &&& 2147483647#32).toNat = _
    rw [BitVec.toNat_and]
    rfl
  refine ⟨x.toBitVec.toNat &&& 2147483647, Nat.lt_of_le_of_lt Nat.and_le_right (by decide), ?_⟩
  apply Int32.toBitVec_inj.mp
  rw [e]
  rfl
theorem nI_shr {v : Nat} (hv : v < 2 ^ 31) : ∀ s, s < 32 → ((nI v).toUInt32 >>> ((nI s).toUInt32 &&& Int32.toUInt32 31)).toInt32 = nI (v / 2 ^ s) := by
  intro s hs
  have e : ∀ s, s < 32 → ((nI s).toUInt32 &&& Int32.toUInt32 31).toNat % 32 = s := by decide +kernel
  have e1 : (nI v).toUInt32.toNat = v := by
    show (BitVec.ofNat 32 v).toNat = v
    rw [BitVec.toNat_ofNat]
    omega
  apply Int32.toBitVec_inj.mp
  apply BitVec.eq_of_toNat_eq
  show ((nI v).toUInt32 >>> ((nI s).toUInt32 &&& Int32.toUInt32 31)).toNat = (BitVec.ofNat 32 (v / 2 ^ s)).toNat
  rw [UInt32.toNat_shiftRight, e s hs, e1, Nat.shiftRight_eq_div_pow, BitVec.toNat_ofNat]
  have := Nat.div_le_self v (2 ^ s)
  generalize v / 2 ^ s = q at *
  omega
section S90
variable {h : AH}
theorem ll_cell (hL : h.2.2.2.2 < 2 ^ 31) {k : Nat} (hk : k < 1000) : ∃ v, v < 2 ^ 31 ∧ XX true 1 83 0 [.ref 48, .int (nI k)] [] (h) (some (.int (nI v)), h) := by
  by_cases q : k < h.2.2.2.2
  · obtain ⟨v, hv, e⟩ := nI_msk (hI h 48 k)
    refine ⟨v, hv, ?_⟩
    refine wb_L_cell_0 ?_
    rw [if_pos (nI_lt q hL), ix_nI (by omega), e]
    exact ⟨in_nI q hL, rfl⟩
  · refine ⟨73 + 103 * (k - h.2.2.2.2), by omega, ?_⟩
    refine wb_L_cell_0 ?_
    rw [if_neg (nI_nlt (by omega) (by omega)), nI_subI (by omega), nI_mulI, nI_add]
end S90
