/-! CALLS: the words of the methods and of the calls -/
/-- the words that a callee may take over -/
def ax_WS : List Cond := lw_tbl.filter goodWord
def ax_codeW (m : Nat) : Cond := .code (ax_y m) (ax_code m) (ax_L m) (ax_ret m)
set_option maxRecDepth 100000 in
theorem ax_code_ok : (List.range 256).map ax_codeW = (ax_cp.take 256).filterMap (fun i => lw_tbl[i]?) := rfl
theorem ax_code_in {m : Nat} (h : m < 256) : ax_codeW m ∈ lw_tbl := by
  have h1 : ax_codeW m ∈ (List.range 256).map ax_codeW := List.mem_map.mpr ⟨m, List.mem_range.mpr h, rfl⟩
  rw [ax_code_ok] at h1
  obtain ⟨i, -, hi⟩ := List.mem_filterMap.mp h1
  exact List.mem_of_getElem? hi
def ax_ordI : List Nat := [0, 1, 2, 3, 4, 5, 6, 7, 8, 9, 10, 11, 12, 15, 16, 17, 18, 19, 20, 21, 22, 24, 25, 26, 27, 28, 29, 30, 31, 32, 33, 34, 35, 36, 37, 39, 40, 41, 42, 43, 44, 45, 46, 47, 48, 49, 50, 51, 52, 53, 54, 56, 57, 62, 63, 64, 65, 66, 67, 68, 69, 70, 71, 72, 73, 74, 75, 76, 77, 78, 79, 80, 81, 82, 83, 84, 85, 86, 87, 88, 89, 91, 92, 93, 94, 95, 96, 97, 98, 99, 100, 102, 103, 104, 105, 106, 107, 108, 109, 110, 111, 112, 113, 114, 115, 116, 117, 118, 119, 127, 128, 130, 131, 132, 134, 135, 136, 137, 138, 139, 140, 141, 142, 144, 145, 146, 147, 148, 149, 150, 151, 152, 153, 154, 156, 157, 158, 162, 164, 165, 166, 167, 168, 169, 170, 171, 172, 173, 174, 175, 176, 177, 178, 181, 183, 184, 185, 186, 187, 188, 189, 190, 191, 193, 194, 195, 196, 197, 198, 199, 200, 201, 202, 203, 204, 205, 206, 207, 208, 209, 210, 212, 213, 214, 215, 216, 217, 218, 219, 220, 221, 222, 223, 224, 225, 226, 227, 228, 229, 230, 231, 232, 234, 235, 236, 238, 239, 240, 241, 242, 243, 244, 246, 247, 248, 249, 250, 251, 252, 253, 254, 255]
def ax_ordS : List Nat := [18, 19, 24, 25, 27, 31, 32, 36, 40, 51, 65, 66, 70, 84, 86, 94, 96, 97, 98, 99, 100, 103, 111, 112, 113, 114, 115, 127, 139, 158, 162, 164, 165, 167, 168, 170, 173, 174, 176, 177, 181, 184, 186, 189, 190, 191, 194, 195, 198, 200, 202, 206, 207, 210, 213, 215, 216, 217, 218, 219, 220, 226, 227, 228, 229, 230, 231, 238, 241, 247, 251, 252, 253, 8, 9, 10, 11, 12, 15, 16, 17, 20, 22, 26, 28, 29, 30, 33, 34, 35, 37, 39, 41, 42, 43, 44, 45, 46, 47, 48, 49, 50, 52, 53, 54, 56, 57, 62, 63, 64, 67, 68, 69, 71, 72, 73, 74, 75, 76, 77, 79, 81, 82, 83, 85, 87, 88, 89, 91, 92, 93, 95, 102, 104, 105, 106, 107, 108, 109, 110, 116, 117, 118, 119, 128, 130, 131, 132, 134, 135, 136, 137, 138, 140, 141, 142, 144, 145, 146, 147, 148, 149, 150, 151, 152, 154, 156, 157, 166, 169, 171, 172, 175, 178, 183, 185, 187, 188, 193, 196, 197, 199, 201, 203, 204, 205, 208, 209, 212, 214, 221, 222, 223, 224, 225, 232, 234, 235, 236, 239, 240, 242, 243, 244, 246, 248, 249, 250, 254, 255]
def ax_ordT : List Nat := [13, 14, 23, 38, 55, 58, 59, 60, 61, 90, 101, 120, 121, 122, 123, 124, 125, 126, 129, 133, 143, 155, 159, 160, 161, 163, 179, 180, 182, 192, 211, 233, 237, 245]
set_option maxRecDepth 100000 in
theorem ax_ordI_ok : ax_sub (ax_ordI.map fun m => .instanceMethod (ax_y m)) lw_tbl = true := by decide +kernel
set_option maxRecDepth 100000 in
theorem ax_ordS_ok : ax_sub (ax_ordS.map fun m => .selects (ax_nm (ax_own m)) (ax_y m) (ax_y m)) lw_tbl = true := by decide +kernel
set_option maxRecDepth 100000 in
theorem ax_ordT_ok : ax_sub (ax_ordT.map fun m => .static (ax_y m)) lw_tbl = true := by decide +kernel
def ax_mathN (k : Nat) : MethodName := if k = 5 then Lib.Math.max.name else if k = 6 then Lib.Math.min.name else if k = 7 then Lib.MathLoose.abs_long.x else Lib.MathLoose.max_long.x
def ax_caW (q : (Nat × Nat) × (Nat × Nat × Nat)) : Cond := if 5 ≤ q.2.1 then .methodLink (ax_nm q.1.1) q.1.2 (ax_mathN q.2.1) else if q.2.1 = 4 then .methodLink (ax_nm q.1.1) q.1.2 Lib.objectInit else if q.2.1 = 3 then .methodLinkNest (ax_nm q.1.1) q.1.2 (ax_y q.2.2.1) "VeiledTable" else .methodLink (ax_nm q.1.1) q.1.2 (ax_y q.2.2.1)
set_option maxRecDepth 100000 in
theorem ax_caT_ok : ax_sub (ax_caT.map ax_caW) lw_tbl = true := by decide +kernel
set_option maxRecDepth 100000 in
theorem ax_obj_ok : ax_sub [.instanceMethod Lib.objectInit, .code Lib.objectInit ⟨#[0xb1]⟩ 1 none] lw_tbl = true := by decide +kernel
theorem ax_obj_in : Cond.instanceMethod Lib.objectInit ∈ lw_tbl ∧ Cond.code Lib.objectInit ⟨#[0xb1]⟩ 1 none ∈ lw_tbl := ⟨ax_sub_mem _ _ ax_obj_ok _ List.mem_cons_self, ax_sub_mem _ _ ax_obj_ok _ (List.mem_cons_of_mem _ List.mem_cons_self)⟩
/-- what a method's row says of its name -/
theorem ax_y_ok : ((List.range 256).all fun m => decide ((ax_y m).cls = ax_nm (ax_own m)) && decide ((ax_y m).cls ≠ "java/lang/invoke/MethodHandle") && decide ((ax_y m).cls ≠ "java/lang/invoke/VarHandle") && (plainName (ax_y m).cls || decide (ax_own m = 14)) && decide (ax_L m ≤ 40) && decide (ax_own m < 19)) = true := by decide +kernel
theorem ax_caT_ok2 : (ax_caT.all fun q => if 4 ≤ q.2.1 then true else decide (q.2.2.1 < 256) && decide (ax_own q.2.2.1 ≠ 14) && decide ((parseMethodDescriptor (ax_y q.2.2.1).desc).map (fun d => d.parameters.length) = some q.2.2.2) && (if q.2.1 = 0 then decide (q.2.2.1 ∈ ax_ordI) && decide (q.2.2.1 ∈ ax_ordS) else if q.2.1 = 1 then decide (q.2.2.1 ∈ ax_ordT) else decide (q.2.2.1 ∈ ax_ordI) && decide ((ax_y q.2.2.1).name = "<init>") && decide (ax_ret q.2.2.1 = none))) = true := by decide +kernel
