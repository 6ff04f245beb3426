section
-- ===== PART A: goes FIRST, ahead of the names: the tables' words, and 'selects' of the private methods out of them =====
/-- a private method of a class that the tables say can be made, by its rows of tables_1 -/
def lw_okq (q : MethodName × Nat) : Prop := (q.1.cls ≠ "java/lang/invoke/MethodHandle" ∧ q.1.cls ≠ "java/lang/invoke/VarHandle") ∧ Cond.instantiable q.1.cls q.2 ∈ tables_1 ∧ Cond.privateMethod q.1 ∈ tables_1 ∧ Cond.instanceMethod q.1 ∈ tables_1
theorem lw_p0 : lw_okq (⟨"VeiledTable", "isAhead", "(II)Z"⟩, 13) := ⟨⟨by decide +kernel, by decide +kernel⟩, List.mem_of_getElem? (i := 17) (by decide +kernel), List.mem_of_getElem? (i := 298) (by decide +kernel), List.mem_of_getElem? (i := 299) (by decide +kernel)⟩
theorem lw_p1 : lw_okq (⟨"VeiledTable", "isPoint", "(I)Z"⟩, 13) := ⟨⟨by decide +kernel, by decide +kernel⟩, List.mem_of_getElem? (i := 17) (by decide +kernel), List.mem_of_getElem? (i := 302) (by decide +kernel), List.mem_of_getElem? (i := 303) (by decide +kernel)⟩
theorem lw_p2 : lw_okq (⟨"VeiledTable", "isWay", "(I)Z"⟩, 13) := ⟨⟨by decide +kernel, by decide +kernel⟩, List.mem_of_getElem? (i := 17) (by decide +kernel), List.mem_of_getElem? (i := 314) (by decide +kernel), List.mem_of_getElem? (i := 315) (by decide +kernel)⟩
theorem lw_p3 : lw_okq (⟨"VeiledTable$Play", "step", "(LVeiledTable$Game;II)V"⟩, 9) := ⟨⟨by decide +kernel, by decide +kernel⟩, List.mem_of_getElem? (i := 175) (by decide +kernel), List.mem_of_getElem? (i := 370) (by decide +kernel), List.mem_of_getElem? (i := 371) (by decide +kernel)⟩
theorem lw_p4 : lw_okq (⟨"VeiledTable$Sets", "gatherAt", "(LVeiledTable$Table;II)V"⟩, 6) := ⟨⟨by decide +kernel, by decide +kernel⟩, List.mem_of_getElem? (i := 144) (by decide +kernel), List.mem_of_getElem? (i := 434) (by decide +kernel), List.mem_of_getElem? (i := 435) (by decide +kernel)⟩
theorem lw_p5 : lw_okq (⟨"VeiledTable$Sets", "sort", "(I)V"⟩, 6) := ⟨⟨by decide +kernel, by decide +kernel⟩, List.mem_of_getElem? (i := 144) (by decide +kernel), List.mem_of_getElem? (i := 439) (by decide +kernel), List.mem_of_getElem? (i := 440) (by decide +kernel)⟩
theorem lw_p6 : lw_okq (⟨"VeiledTable$Test", "isSoByItself", "(LVeiledTable$Table;)Z"⟩, 4) := ⟨⟨by decide +kernel, by decide +kernel⟩, List.mem_of_getElem? (i := 483) (by decide +kernel), List.mem_of_getElem? (i := 481) (by decide +kernel), List.mem_of_getElem? (i := 482) (by decide +kernel)⟩
theorem lw_p7 : lw_okq (⟨"VeiledTable$Amount", "byItself", "(LVeiledTable$Table;)I"⟩, 5) := ⟨⟨by decide +kernel, by decide +kernel⟩, List.mem_of_getElem? (i := 492) (by decide +kernel), List.mem_of_getElem? (i := 490) (by decide +kernel), List.mem_of_getElem? (i := 491) (by decide +kernel)⟩
theorem lw_p8 : lw_okq (⟨"VeiledTable$Table", "isChanceAt", "(I)Z"⟩, 9) := ⟨⟨by decide +kernel, by decide +kernel⟩, List.mem_of_getElem? (i := 31) (by decide +kernel), List.mem_of_getElem? (i := 516) (by decide +kernel), List.mem_of_getElem? (i := 517) (by decide +kernel)⟩
theorem lw_p9 : lw_okq (⟨"VeiledTable", "isMuchFor", "(I)Z"⟩, 13) := ⟨⟨by decide +kernel, by decide +kernel⟩, List.mem_of_getElem? (i := 17) (by decide +kernel), List.mem_of_getElem? (i := 540) (by decide +kernel), List.mem_of_getElem? (i := 541) (by decide +kernel)⟩
theorem lw_p10 : lw_okq (⟨"VeiledTable$Play", "gatherCourses", "(LVeiledTable$Game;LVeiledTable$Sets;I)V"⟩, 9) := ⟨⟨by decide +kernel, by decide +kernel⟩, List.mem_of_getElem? (i := 175) (by decide +kernel), List.mem_of_getElem? (i := 548) (by decide +kernel), List.mem_of_getElem? (i := 549) (by decide +kernel)⟩
theorem lw_p11 : lw_okq (⟨"VeiledTable$Play", "courseOf", "(LVeiledTable$Table;LVeiledTable$Sets;I)J"⟩, 9) := ⟨⟨by decide +kernel, by decide +kernel⟩, List.mem_of_getElem? (i := 175) (by decide +kernel), List.mem_of_getElem? (i := 553) (by decide +kernel), List.mem_of_getElem? (i := 554) (by decide +kernel)⟩
theorem lw_p12 : lw_okq (⟨"VeiledTable$Play", "sumTried", "()I"⟩, 9) := ⟨⟨by decide +kernel, by decide +kernel⟩, List.mem_of_getElem? (i := 175) (by decide +kernel), List.mem_of_getElem? (i := 562) (by decide +kernel), List.mem_of_getElem? (i := 563) (by decide +kernel)⟩
theorem lw_p13 : lw_okq (⟨"VeiledTable$Play", "isTried", "(J)Z"⟩, 9) := ⟨⟨by decide +kernel, by decide +kernel⟩, List.mem_of_getElem? (i := 175) (by decide +kernel), List.mem_of_getElem? (i := 566) (by decide +kernel), List.mem_of_getElem? (i := 567) (by decide +kernel)⟩
theorem lw_p14 : lw_okq (⟨"VeiledTable$Play", "tryNext", "(LVeiledTable$Table;LVeiledTable$Sets;)Z"⟩, 9) := ⟨⟨by decide +kernel, by decide +kernel⟩, List.mem_of_getElem? (i := 175) (by decide +kernel), List.mem_of_getElem? (i := 571) (by decide +kernel), List.mem_of_getElem? (i := 572) (by decide +kernel)⟩
theorem lw_p15 : lw_okq (⟨"VeiledTable", "untold", "(I)I"⟩, 13) := ⟨⟨by decide +kernel, by decide +kernel⟩, List.mem_of_getElem? (i := 17) (by decide +kernel), List.mem_of_getElem? (i := 582) (by decide +kernel), List.mem_of_getElem? (i := 583) (by decide +kernel)⟩
def lw_privs_1 : List (MethodName × Nat) := [(⟨"VeiledTable", "isAhead", "(II)Z"⟩, 13), (⟨"VeiledTable", "isPoint", "(I)Z"⟩, 13), (⟨"VeiledTable", "isWay", "(I)Z"⟩, 13), (⟨"VeiledTable$Play", "step", "(LVeiledTable$Game;II)V"⟩, 9), (⟨"VeiledTable$Sets", "gatherAt", "(LVeiledTable$Table;II)V"⟩, 6), (⟨"VeiledTable$Sets", "sort", "(I)V"⟩, 6), (⟨"VeiledTable$Test", "isSoByItself", "(LVeiledTable$Table;)Z"⟩, 4), (⟨"VeiledTable$Amount", "byItself", "(LVeiledTable$Table;)I"⟩, 5), (⟨"VeiledTable$Table", "isChanceAt", "(I)Z"⟩, 9), (⟨"VeiledTable", "isMuchFor", "(I)Z"⟩, 13), (⟨"VeiledTable$Play", "gatherCourses", "(LVeiledTable$Game;LVeiledTable$Sets;I)V"⟩, 9), (⟨"VeiledTable$Play", "courseOf", "(LVeiledTable$Table;LVeiledTable$Sets;I)J"⟩, 9), (⟨"VeiledTable$Play", "sumTried", "()I"⟩, 9), (⟨"VeiledTable$Play", "isTried", "(J)Z"⟩, 9), (⟨"VeiledTable$Play", "tryNext", "(LVeiledTable$Table;LVeiledTable$Sets;)Z"⟩, 9), (⟨"VeiledTable", "untold", "(I)I"⟩, 13)]
theorem lw_r1 : ∀ q ∈ lw_privs_1, lw_okq q := List.forall_mem_cons.mpr ⟨lw_p0, List.forall_mem_cons.mpr ⟨lw_p1, List.forall_mem_cons.mpr ⟨lw_p2, List.forall_mem_cons.mpr ⟨lw_p3, List.forall_mem_cons.mpr ⟨lw_p4, List.forall_mem_cons.mpr ⟨lw_p5, List.forall_mem_cons.mpr ⟨lw_p6, List.forall_mem_cons.mpr ⟨lw_p7, List.forall_mem_cons.mpr ⟨lw_p8, List.forall_mem_cons.mpr ⟨lw_p9, List.forall_mem_cons.mpr ⟨lw_p10, List.forall_mem_cons.mpr ⟨lw_p11, List.forall_mem_cons.mpr ⟨lw_p12, List.forall_mem_cons.mpr ⟨lw_p13, List.forall_mem_cons.mpr ⟨lw_p14, List.forall_mem_cons.mpr ⟨lw_p15, fun _ h => absurd h List.not_mem_nil⟩⟩⟩⟩⟩⟩⟩⟩⟩⟩⟩⟩⟩⟩⟩⟩
theorem lw_p16 : lw_okq (⟨"VeiledTable$Table", "cardsLeft", "()I"⟩, 9) := ⟨⟨by decide +kernel, by decide +kernel⟩, List.mem_of_getElem? (i := 31) (by decide +kernel), List.mem_of_getElem? (i := 719) (by decide +kernel), List.mem_of_getElem? (i := 720) (by decide +kernel)⟩
theorem lw_p17 : lw_okq (⟨"VeiledTable$Table", "isCardAt", "(I)Z"⟩, 9) := ⟨⟨by decide +kernel, by decide +kernel⟩, List.mem_of_getElem? (i := 31) (by decide +kernel), List.mem_of_getElem? (i := 723) (by decide +kernel), List.mem_of_getElem? (i := 724) (by decide +kernel)⟩
theorem lw_p18 : lw_okq (⟨"VeiledTable$Table", "branch", "(LVeiledTable$Kind;I)V"⟩, 9) := ⟨⟨by decide +kernel, by decide +kernel⟩, List.mem_of_getElem? (i := 31) (by decide +kernel), List.mem_of_getElem? (i := 754) (by decide +kernel), List.mem_of_getElem? (i := 755) (by decide +kernel)⟩
theorem lw_p19 : lw_okq (⟨"VeiledTable$Table", "cardsGone", "(II)I"⟩, 9) := ⟨⟨by decide +kernel, by decide +kernel⟩, List.mem_of_getElem? (i := 31) (by decide +kernel), List.mem_of_getElem? (i := 758) (by decide +kernel), List.mem_of_getElem? (i := 759) (by decide +kernel)⟩
theorem lw_p20 : lw_okq (⟨"VeiledTable$Table", "letSee", "(LVeiledTable$Stage;I)V"⟩, 9) := ⟨⟨by decide +kernel, by decide +kernel⟩, List.mem_of_getElem? (i := 31) (by decide +kernel), List.mem_of_getElem? (i := 762) (by decide +kernel), List.mem_of_getElem? (i := 763) (by decide +kernel)⟩
def lw_privs_2 : List (MethodName × Nat) := [(⟨"VeiledTable$Table", "cardsLeft", "()I"⟩, 9), (⟨"VeiledTable$Table", "isCardAt", "(I)Z"⟩, 9), (⟨"VeiledTable$Table", "branch", "(LVeiledTable$Kind;I)V"⟩, 9), (⟨"VeiledTable$Table", "cardsGone", "(II)I"⟩, 9), (⟨"VeiledTable$Table", "letSee", "(LVeiledTable$Stage;I)V"⟩, 9)]
theorem lw_r2 : ∀ q ∈ lw_privs_2, lw_okq q := List.forall_mem_cons.mpr ⟨lw_p16, List.forall_mem_cons.mpr ⟨lw_p17, List.forall_mem_cons.mpr ⟨lw_p18, List.forall_mem_cons.mpr ⟨lw_p19, List.forall_mem_cons.mpr ⟨lw_p20, fun _ h => absurd h List.not_mem_nil⟩⟩⟩⟩⟩
def lw_privs : List (MethodName × Nat) := lw_privs_1 ++ (lw_privs_2)
def lw_tbl : List Cond := k2_sels lw_privs ++ tables_1
theorem lw_privs_ok : ∀ q ∈ lw_privs, lw_okq q := by
  show ∀ q ∈ lw_privs_1 ++ (lw_privs_2), lw_okq q
  exact List.forall_mem_append.mpr ⟨lw_r1, lw_r2⟩

def RX0 : String := "VeiledTable$Amount"
def TX0 : u_T := fun k => match k with
  | 0 => ("VeiledTable$Amount", "sort", "I", true)
  | 1 => ("VeiledTable$Amount", "x", "I", true)
  | 2 => ("VeiledTable$Amount", "y", "I", true)
  | 3 => ("VeiledTable$Amount", "v", "I", true)
  | _ => ("VeiledTable$Amount", "ahead", "LVeiledTable$Amount;", true)
def tyX0 : Nat → FieldType := fun k => match k with
  | 0 => .int
  | 1 => .int
  | 2 => .int
  | 3 => .int
  | _ => .object "VeiledTable$Amount"
abbrev wsX00 : List Cond := u_ws RX0 TX0 5
theorem nmX0 : ∀ a, a < 5 → ∀ b, b < 5 → a ≠ b → (TX0 a).2.1 ≠ (TX0 b).2.1 := by decide +kernel
theorem tyX0_ok : ∀ k, k < 5 → parseFieldDescriptor (TX0 k).2.2.1 = some (tyX0 k) := by decide +kernel
theorem inX0 : ∀ w ∈ wsX00, w ∈ lw_tbl := by decide +kernel
def RX1 : String := "VeiledTable$Game"
def TX1 : u_T := fun k => match k with
  | 0 => ("VeiledTable$Game", "table", "LVeiledTable$Table;", true)
  | 1 => ("VeiledTable$Game", "plans", "LVeiledTable$Plans;", true)
  | 2 => ("VeiledTable$Game", "tests", "[LVeiledTable$Test;", true)
  | 3 => ("VeiledTable$Game", "amounts", "[LVeiledTable$Amount;", true)
  | 4 => ("VeiledTable$Game", "payers", "[I", true)
  | 5 => ("VeiledTable$Game", "payees", "[I", true)
  | 6 => ("VeiledTable$Game", "ruled", "I", false)
  | _ => ("VeiledTable$Game", "stake", "J", false)
def tyX1 : Nat → FieldType := fun k => match k with
  | 0 => .object "VeiledTable$Table"
  | 1 => .object "VeiledTable$Plans"
  | 2 => .array (.object "VeiledTable$Test")
  | 3 => .array (.object "VeiledTable$Amount")
  | 4 => .array .int
  | 5 => .array .int
  | 6 => .int
  | _ => .long
abbrev wsX10 : List Cond := u_ws RX1 TX1 8
theorem nmX1 : ∀ a, a < 8 → ∀ b, b < 8 → a ≠ b → (TX1 a).2.1 ≠ (TX1 b).2.1 := by decide +kernel
theorem tyX1_ok : ∀ k, k < 8 → parseFieldDescriptor (TX1 k).2.2.1 = some (tyX1 k) := by decide +kernel
theorem inX1 : ∀ w ∈ wsX10, w ∈ lw_tbl := by decide +kernel
def RX3 : String := "VeiledTable$Plans"
def TX3 : u_T := fun k => match k with
  | 0 => ("VeiledTable$Plans", "keys", "[I", true)
  | 1 => ("VeiledTable$Plans", "choices", "[I", true)
  | _ => ("VeiledTable$Plans", "many", "I", false)
def tyX3 : Nat → FieldType := fun k => match k with
  | 0 => .array .int
  | 1 => .array .int
  | _ => .int
abbrev wsX30 : List Cond := u_ws RX3 TX3 3
theorem nmX3 : ∀ a, a < 3 → ∀ b, b < 3 → a ≠ b → (TX3 a).2.1 ≠ (TX3 b).2.1 := by decide +kernel
theorem tyX3_ok : ∀ k, k < 3 → parseFieldDescriptor (TX3 k).2.2.1 = some (tyX3 k) := by decide +kernel
theorem inX3 : ∀ w ∈ wsX30, w ∈ lw_tbl := by decide +kernel
def RX4 : String := "VeiledTable$Play"
def TX4 : u_T := fun k => match k with
  | 0 => ("VeiledTable$Play", "followed", "[I", false)
  | 1 => ("VeiledTable$Play", "next", "[I", false)
  | 2 => ("VeiledTable$Play", "many", "I", false)
  | 3 => ("VeiledTable$Play", "courses", "[J", true)
  | 4 => ("VeiledTable$Play", "wins", "[I", true)
  | 5 => ("VeiledTable$Play", "coursed", "I", false)
  | 6 => ("VeiledTable$Play", "marks", "I", false)
  | 7 => ("VeiledTable$Play", "tried", "[I", true)
  | _ => ("VeiledTable$Play", "firsts", "[I", true)
def tyX4 : Nat → FieldType := fun k => match k with
  | 0 => .array .int
  | 1 => .array .int
  | 2 => .int
  | 3 => .array .long
  | 4 => .array .int
  | 5 => .int
  | 6 => .int
  | 7 => .array .int
  | _ => .array .int
abbrev wsX40 : List Cond := u_ws RX4 TX4 9
theorem nmX4 : ∀ a, a < 9 → ∀ b, b < 9 → a ≠ b → (TX4 a).2.1 ≠ (TX4 b).2.1 := by decide +kernel
theorem tyX4_ok : ∀ k, k < 9 → parseFieldDescriptor (TX4 k).2.2.1 = some (tyX4 k) := by decide +kernel
theorem inX4 : ∀ w ∈ wsX40, w ∈ lw_tbl := by decide +kernel
def RX5 : String := "VeiledTable$Sets"
def TX5 : u_T := fun k => match k with
  | 0 => ("VeiledTable$Sets", "points", "[I", true)
  | 1 => ("VeiledTable$Sets", "sights", "[I", true)
  | 2 => ("VeiledTable$Sets", "sizes", "[I", true)
  | 3 => ("VeiledTable$Sets", "many", "I", false)
  | 4 => ("VeiledTable$Sets", "row", "[I", true)
  | _ => ("VeiledTable$Sets", "pasts", "[I", true)
def tyX5 : Nat → FieldType := fun k => match k with
  | 0 => .array .int
  | 1 => .array .int
  | 2 => .array .int
  | 3 => .int
  | 4 => .array .int
  | _ => .array .int
abbrev wsX50 : List Cond := u_ws RX5 TX5 6
theorem nmX5 : ∀ a, a < 6 → ∀ b, b < 6 → a ≠ b → (TX5 a).2.1 ≠ (TX5 b).2.1 := by decide +kernel
theorem tyX5_ok : ∀ k, k < 6 → parseFieldDescriptor (TX5 k).2.2.1 = some (tyX5 k) := by decide +kernel
theorem inX5 : ∀ w ∈ wsX50, w ∈ lw_tbl := by decide +kernel
def RX6 : String := "VeiledTable$Sheet"
def TX6 : u_T := fun k => match k with
  | 0 => ("VeiledTable$Sheet", "sort", "I", false)
  | 1 => ("VeiledTable$Sheet", "size", "I", false)
  | _ => ("VeiledTable$Sheet", "cells", "[I", true)
def tyX6 : Nat → FieldType := fun k => match k with
  | 0 => .int
  | 1 => .int
  | _ => .array .int
abbrev wsX60 : List Cond := u_ws RX6 TX6 3
theorem nmX6 : ∀ a, a < 3 → ∀ b, b < 3 → a ≠ b → (TX6 a).2.1 ≠ (TX6 b).2.1 := by decide +kernel
theorem tyX6_ok : ∀ k, k < 3 → parseFieldDescriptor (TX6 k).2.2.1 = some (tyX6 k) := by decide +kernel
theorem inX6 : ∀ w ∈ wsX60, w ∈ lw_tbl := by decide +kernel
def RX7 : String := "VeiledTable$Stage"
def TX7 : u_T := fun k => match k with
  | 0 => ("VeiledTable$Stage", "kind", "LVeiledTable$Kind;", true)
  | 1 => ("VeiledTable$Stage", "player", "I", true)
  | _ => ("VeiledTable$Stage", "k", "I", true)
def tyX7 : Nat → FieldType := fun k => match k with
  | 0 => .object "VeiledTable$Kind"
  | 1 => .int
  | _ => .int
abbrev wsX70 : List Cond := u_ws RX7 TX7 3
theorem nmX7 : ∀ a, a < 3 → ∀ b, b < 3 → a ≠ b → (TX7 a).2.1 ≠ (TX7 b).2.1 := by decide +kernel
theorem tyX7_ok : ∀ k, k < 3 → parseFieldDescriptor (TX7 k).2.2.1 = some (tyX7 k) := by decide +kernel
theorem inX7 : ∀ w ∈ wsX70, w ∈ lw_tbl := by decide +kernel
def RX8 : String := "VeiledTable$Table"
def TX8 : u_T := fun k => match k with
  | 0 => ("VeiledTable$Table", "cards", "I", false)
  | 1 => ("VeiledTable$Table", "worths", "[I", true)
  | 2 => ("VeiledTable$Table", "stages", "[LVeiledTable$Stage;", true)
  | 3 => ("VeiledTable$Table", "staged", "I", false)
  | 4 => ("VeiledTable$Table", "fans", "[I", true)
  | 5 => ("VeiledTable$Table", "behind", "[I", true)
  | 6 => ("VeiledTable$Table", "seers", "[[I", true)
  | 7 => ("VeiledTable$Table", "befell", "[[I", true)
  | _ => ("VeiledTable$Table", "what", "[I", true)
def tyX8 : Nat → FieldType := fun k => match k with
  | 0 => .int
  | 1 => .array .int
  | 2 => .array (.object "VeiledTable$Stage")
  | 3 => .int
  | 4 => .array .int
  | 5 => .array .int
  | 6 => .array (.array .int)
  | 7 => .array (.array .int)
  | _ => .array .int
abbrev wsX80 : List Cond := u_ws RX8 TX8 9
theorem nmX8 : ∀ a, a < 9 → ∀ b, b < 9 → a ≠ b → (TX8 a).2.1 ≠ (TX8 b).2.1 := by decide +kernel
theorem tyX8_ok : ∀ k, k < 9 → parseFieldDescriptor (TX8 k).2.2.1 = some (tyX8 k) := by decide +kernel
theorem inX8 : ∀ w ∈ wsX80, w ∈ lw_tbl := by decide +kernel
def RX9 : String := "VeiledTable$Tape"
def TX9 : u_T := fun k => match k with
  | 0 => ("VeiledTable$Tape", "bytes", "[I", true)
  | 1 => ("VeiledTable$Tape", "many", "I", false)
  | 2 => ("VeiledTable$Tape", "sort", "I", false)
  | 3 => ("VeiledTable$Tape", "from", "I", false)
  | 4 => ("VeiledTable$Tape", "to", "I", false)
  | _ => ("VeiledTable$Tape", "value", "I", false)
def tyX9 : Nat → FieldType := fun k => match k with
  | 0 => .array .int
  | 1 => .int
  | 2 => .int
  | 3 => .int
  | 4 => .int
  | _ => .int
abbrev wsX90 : List Cond := u_ws RX9 TX9 6
theorem nmX9 : ∀ a, a < 6 → ∀ b, b < 6 → a ≠ b → (TX9 a).2.1 ≠ (TX9 b).2.1 := by decide +kernel
theorem tyX9_ok : ∀ k, k < 6 → parseFieldDescriptor (TX9 k).2.2.1 = some (tyX9 k) := by decide +kernel
theorem inX9 : ∀ w ∈ wsX90, w ∈ lw_tbl := by decide +kernel
def RX10 : String := "VeiledTable$Test"
def TX10 : u_T := fun k => match k with
  | 0 => ("VeiledTable$Test", "sort", "I", true)
  | 1 => ("VeiledTable$Test", "x", "I", true)
  | 2 => ("VeiledTable$Test", "y", "I", true)
  | _ => ("VeiledTable$Test", "ahead", "LVeiledTable$Test;", true)
def tyX10 : Nat → FieldType := fun k => match k with
  | 0 => .int
  | 1 => .int
  | 2 => .int
  | _ => .object "VeiledTable$Test"
abbrev wsX100 : List Cond := u_ws RX10 TX10 4
theorem nmX10 : ∀ a, a < 4 → ∀ b, b < 4 → a ≠ b → (TX10 a).2.1 ≠ (TX10 b).2.1 := by decide +kernel
theorem tyX10_ok : ∀ k, k < 4 → parseFieldDescriptor (TX10 k).2.2.1 = some (tyX10 k) := by decide +kernel
theorem inX10 : ∀ w ∈ wsX100, w ∈ lw_tbl := by decide +kernel
def RX11 : String := "VeiledTable"
def TX11 : u_T := fun k => match k with
  | 0 => ("VeiledTable", "game", "LVeiledTable$Game;", true)
  | 1 => ("VeiledTable", "kept", "LVeiledTable$Game;", true)
  | 2 => ("VeiledTable", "isKept", "Z", false)
  | 3 => ("VeiledTable", "held", "LVeiledTable$Sets;", true)
  | 4 => ("VeiledTable", "play", "LVeiledTable$Play;", true)
  | 5 => ("VeiledTable", "tape", "LVeiledTable$Tape;", true)
  | 6 => ("VeiledTable", "racked", "[LVeiledTable$Stage;", true)
  | 7 => ("VeiledTable", "rackSizes", "[I", true)
  | 8 => ("VeiledTable", "sheets", "[LVeiledTable$Sheet;", true)
  | 9 => ("VeiledTable", "handSorts", "[I", true)
  | 10 => ("VeiledTable", "handStages", "[LVeiledTable$Stage;", true)
  | 11 => ("VeiledTable", "handAmounts", "[LVeiledTable$Amount;", true)
  | _ => ("VeiledTable", "handViews", "[J", true)
def tyX11 : Nat → FieldType := fun k => match k with
  | 0 => .object "VeiledTable$Game"
  | 1 => .object "VeiledTable$Game"
  | 2 => .boolean
  | 3 => .object "VeiledTable$Sets"
  | 4 => .object "VeiledTable$Play"
  | 5 => .object "VeiledTable$Tape"
  | 6 => .array (.object "VeiledTable$Stage")
  | 7 => .array .int
  | 8 => .array (.object "VeiledTable$Sheet")
  | 9 => .array .int
  | 10 => .array (.object "VeiledTable$Stage")
  | 11 => .array (.object "VeiledTable$Amount")
  | _ => .array .long
abbrev wsX110 : List Cond := u_ws RX11 TX11 13
theorem nmX11 : ∀ a, a < 13 → ∀ b, b < 13 → a ≠ b → (TX11 a).2.1 ≠ (TX11 b).2.1 := by decide +kernel
theorem tyX11_ok : ∀ k, k < 13 → parseFieldDescriptor (TX11 k).2.2.1 = some (tyX11 k) := by decide +kernel
theorem inX11 : ∀ w ∈ wsX110, w ∈ lw_tbl := by decide +kernel
def RX12 : String := "VeiledTableLaw$Own"
def TX12 : u_T := fun k => match k with
  | 0 => ("VeiledTableLaw$Own", "m", "I", false)
  | 1 => ("VeiledTableLaw$Own", "n", "I", false)
  | 2 => ("VeiledTableLaw$Own", "rules", "I", false)
  | 3 => ("VeiledTableLaw$Own", "worth", "[I", true)
  | 4 => ("VeiledTableLaw$Own", "kind", "[I", true)
  | 5 => ("VeiledTableLaw$Own", "p", "[I", true)
  | 6 => ("VeiledTableLaw$Own", "k", "[I", true)
  | 7 => ("VeiledTableLaw$Own", "rule", "[[I", true)
  | 8 => ("VeiledTableLaw$Own", "told", "[[I", true)
  | 9 => ("VeiledTableLaw$Own", "plans", "I", false)
  | _ => ("VeiledTableLaw$Own", "stake", "J", false)
def tyX12 : Nat → FieldType := fun k => match k with
  | 0 => .int
  | 1 => .int
  | 2 => .int
  | 3 => .array .int
  | 4 => .array .int
  | 5 => .array .int
  | 6 => .array .int
  | 7 => .array (.array .int)
  | 8 => .array (.array .int)
  | 9 => .int
  | _ => .long
abbrev wsX120 : List Cond := u_ws RX12 TX12 11
theorem nmX12 : ∀ a, a < 11 → ∀ b, b < 11 → a ≠ b → (TX12 a).2.1 ≠ (TX12 b).2.1 := by decide +kernel
theorem tyX12_ok : ∀ k, k < 11 → parseFieldDescriptor (TX12 k).2.2.1 = some (tyX12 k) := by decide +kernel
theorem inX12 : ∀ w ∈ wsX120, w ∈ lw_tbl := by decide +kernel
abbrev ax_cl : List vw_C := [(RX0, TX0, 5), (RX1, TX1, 8), (RX3, TX3, 3), (RX4, TX4, 9), (RX5, TX5, 6), (RX6, TX6, 3), (RX7, TX7, 3), (RX8, TX8, 9), (RX9, TX9, 6), (RX10, TX10, 4), (RX11, TX11, 13), (RX12, TX12, 11)]
/-- names of the classes by their numbers -/
def ax_cn : List String := ["VeiledTable$Amount", "VeiledTable$Game", "VeiledTable$Plans", "VeiledTable$Play", "VeiledTable$Sets", "VeiledTable$Sheet", "VeiledTable$Stage", "VeiledTable$Table", "VeiledTable$Tape", "VeiledTable$Test", "VeiledTable", "VeiledTableLaw$Own", "VeiledTable$Kind", "java/lang/Enum", "java/lang/Math", "java/lang/Cloneable", "VeiledTableModel", "[I", "VeiledTableLaw", "java/lang/Object"]
abbrev cX11_init : ByteArray := prog_1_method_1_code
abbrev cX1_init : ByteArray := prog_3_method_1_code
abbrev cX8_init : ByteArray := prog_10_method_1_code
abbrev cX3_init : ByteArray := prog_5_method_1_code
abbrev cX5_init : ByteArray := prog_7_method_1_code
abbrev cX4_init : ByteArray := prog_6_method_1_code
abbrev cX9_init : ByteArray := prog_11_method_1_code
abbrev cX6_init : ByteArray := prog_8_method_1_code
abbrev cX11_seen : ByteArray := prog_1_method_6_code
abbrev cX11_isAhead : ByteArray := prog_1_method_54_code
abbrev cX11_isPoint : ByteArray := prog_1_method_53_code
abbrev cX11_ways : ByteArray := prog_1_method_8_code
abbrev cX11_happened : ByteArray := prog_1_method_9_code
abbrev cX11_isWay : ByteArray := prog_1_method_55_code
abbrev cX8_go : ByteArray := prog_10_method_15_code
abbrev cJ9_max_7cf53 : ByteArray := prog_18_method_65_code
abbrev cX11_view : ByteArray := prog_1_method_11_code
abbrev cX11_isPlayer : ByteArray := prog_1_method_47_code
abbrev cX8_sight : ByteArray := prog_10_method_16_code
abbrev cX11_worlds : ByteArray := prog_1_method_12_code
abbrev cX8_alike : ByteArray := prog_10_method_18_code
abbrev cX8_sightOf : ByteArray := prog_10_method_17_code
abbrev cX11_world : ByteArray := prog_1_method_13_code
abbrev cX8_alikeAt : ByteArray := prog_10_method_19_code
abbrev cX11_odds : ByteArray := prog_1_method_14_code
abbrev cX11_isPart : ByteArray := prog_1_method_48_code
abbrev cX4_follow : ByteArray := prog_6_method_2_code
abbrev cX4_step : ByteArray := prog_6_method_3_code
abbrev cX8_at : ByteArray := prog_10_method_4_code
abbrev cX2_isChoice : ByteArray := prog_4_method_5_code
abbrev cX1_choice : ByteArray := prog_3_method_6_code
abbrev cX3_find : ByteArray := prog_5_method_4_code
abbrev cX3_key : ByteArray := prog_5_method_3_code
abbrev cX4_alike : ByteArray := prog_6_method_4_code
abbrev cX4_alikeWith : ByteArray := prog_6_method_5_code
abbrev cX11_share : ByteArray := prog_1_method_59_code
abbrev cJ9_abs_067f4 : ByteArray := prog_18_method_61_code
abbrev cX11_divisor : ByteArray := prog_1_method_60_code
abbrev cJ9_max_f86c9 : ByteArray := prog_18_method_66_code
abbrev cX11_sets : ByteArray := prog_1_method_15_code
abbrev cX5_gather : ByteArray := prog_7_method_2_code
abbrev cX8_picks : ByteArray := prog_10_method_10_code
abbrev cX5_gatherAt : ByteArray := prog_7_method_3_code
abbrev cX5_sort : ByteArray := prog_7_method_4_code
abbrev cX11_setOf : ByteArray := prog_1_method_16_code
abbrev cX11_plan : ByteArray := prog_1_method_18_code
abbrev cX3_tell : ByteArray := prog_5_method_5_code
abbrev cX11_pay : ByteArray := prog_1_method_24_code
abbrev cX1_won : ByteArray := prog_3_method_8_code
abbrev cX1_due : ByteArray := prog_3_method_7_code
abbrev cX1_testAt : ByteArray := prog_3_method_4_code
abbrev cX1_amountAt : ByteArray := prog_3_method_5_code
abbrev cX10_isSo : ByteArray := prog_12_method_2_code
abbrev cX10_isSoByItself : ByteArray := prog_12_method_3_code
abbrev cX0_comesTo : ByteArray := prog_2_method_2_code
abbrev cX0_byItself : ByteArray := prog_2_method_3_code
abbrev cX11_isProduct : ByteArray := prog_1_method_61_code
abbrev cX11_mean : ByteArray := prog_1_method_25_code
abbrev cX4_together : ByteArray := prog_6_method_6_code
abbrev cX8_chances : ByteArray := prog_10_method_20_code
abbrev cX8_isChanceAt : ByteArray := prog_10_method_9_code
abbrev cX2_isChance : ByteArray := prog_4_method_6_code
abbrev cX2_isCard : ByteArray := prog_4_method_4_code
abbrev cX11_reply : ByteArray := prog_1_method_26_code
abbrev cX11_isMuchFor : ByteArray := prog_1_method_57_code
abbrev cX4_best : ByteArray := prog_6_method_7_code
abbrev cX4_gatherCourses : ByteArray := prog_6_method_9_code
abbrev cX4_courseOf : ByteArray := prog_6_method_10_code
abbrev cX5_find : ByteArray := prog_7_method_5_code
abbrev cX4_sumTried : ByteArray := prog_6_method_11_code
abbrev cX4_isTried : ByteArray := prog_6_method_12_code
abbrev cX4_tryNext : ByteArray := prog_6_method_13_code
abbrev cJ9_min_7cf53 : ByteArray := prog_18_method_69_code
abbrev cX11_better : ByteArray := prog_1_method_27_code
abbrev cX11_untold : ByteArray := prog_1_method_58_code
abbrev cX4_first : ByteArray := prog_6_method_8_code
abbrev cX11_settled : ByteArray := prog_1_method_28_code
abbrev cX11_count : ByteArray := prog_1_method_46_code
abbrev cX12_ways : ByteArray := prog_14_method_2_code
abbrev cX12_goes : ByteArray := prog_14_method_3_code
abbrev cL_has : ByteArray := method_3_code
abbrev cX12_view : ByteArray := prog_14_method_6_code
abbrev cX12_seen : ByteArray := prog_14_method_5_code
abbrev cL_cell : ByteArray := method_2_code
abbrev cL_made : ByteArray := method_6_code
abbrev cX12_init : ByteArray := prog_14_method_1_code
abbrev cX11_pack : ByteArray := prog_1_method_2_code
abbrev cX1_open : ByteArray := prog_3_method_2_code
abbrev cX8_open : ByteArray := prog_10_method_2_code
abbrev cX11_worth : ByteArray := prog_1_method_3_code
abbrev cX12_left : ByteArray := prog_14_method_4_code
abbrev cX11_stage : ByteArray := prog_1_method_4_code
abbrev cX11_isStageToBe : ByteArray := prog_1_method_52_code
abbrev cX8_hasRoom : ByteArray := prog_10_method_5_code
abbrev cX8_hasCardFor : ByteArray := prog_10_method_6_code
abbrev cX8_cardsLeft : ByteArray := prog_10_method_7_code
abbrev cX8_isCardAt : ByteArray := prog_10_method_8_code
abbrev cX7_init : ByteArray := prog_9_method_1_code
abbrev cX8_put : ByteArray := prog_10_method_11_code
abbrev cX8_branch : ByteArray := prog_10_method_12_code
abbrev cX8_cardsGone : ByteArray := prog_10_method_13_code
abbrev cX8_letSee : ByteArray := prog_10_method_14_code
abbrev cX2_isSecret : ByteArray := prog_4_method_7_code
abbrev cX11_rule : ByteArray := prog_1_method_21_code
abbrev cX10_init : ByteArray := prog_12_method_1_code
abbrev cX0_init : ByteArray := prog_2_method_1_code
abbrev cL_lots : ByteArray := method_7_code
abbrev cX12_sets : ByteArray := prog_14_method_11_code
abbrev cX12_chooses : ByteArray := prog_14_method_7_code
abbrev cX12_tell : ByteArray := prog_14_method_9_code
abbrev cX11_lot : ByteArray := prog_1_method_19_code
abbrev cL_same : ByteArray := method_10_code
abbrev cL_law : ByteArray := code
def ax_mt0 : List (ByteArray × Nat × Option FieldType × Nat × Bool) := [(cX11_init, 1, none, 10, false), (cX1_init, 1, none, 1, false), (cX8_init, 1, none, 7, false), (cX3_init, 1, none, 2, false), (cX5_init, 1, none, 4, false), (cX4_init, 1, none, 3, false), (cX9_init, 1, none, 8, false), (cX6_init, 1, none, 5, false), (cX11_seen, 3, some .int, 10, false), (cX11_isAhead, 3, some .boolean, 10, false), (cX11_isPoint, 2, some .boolean, 10, false), (cX11_ways, 2, some .int, 10, false), (cX11_happened, 3, some .int, 10, false), (cX11_isWay, 2, some .boolean, 10, false), (cX8_go, 5, none, 7, false), (cJ9_max_7cf53, 2, some .int, 14, true), (cX11_view, 4, some .int, 10, false), (cX11_isPlayer, 1, some .boolean, 10, true), (cX8_sight, 6, some .int, 7, false), (cX11_worlds, 4, some .int, 10, false), (cX8_alike, 6, some .int, 7, false), (cX8_sightOf, 4, some .int, 7, false), (cX11_world, 6, some .int, 10, false), (cX8_alikeAt, 7, some .int, 7, false), (cX11_odds, 8, some .long, 10, false), (cX11_isPart, 1, some .boolean, 10, true), (cX4_follow, 5, none, 3, false), (cX4_step, 11, none, 3, false), (cX8_at, 2, some (.object "VeiledTable$Stage"), 7, false), (cX2_isChoice, 1, some .boolean, 12, false), (cX1_choice, 6, some .int, 1, false), (cX3_find, 6, some .int, 2, false), (cX3_key, 3, some .int, 2, true), (cX4_alike, 7, some .int, 3, false), (cX4_alikeWith, 9, some .int, 3, false), (cX11_share, 7, some .long, 10, true), (cJ9_abs_067f4, 2, some .long, 14, true), (cX11_divisor, 11, some .long, 10, true), (cJ9_max_f86c9, 4, some .long, 14, true), (cX11_sets, 2, some .int, 10, false)]
def ax_mt1 : List (ByteArray × Nat × Option FieldType × Nat × Bool) := [(cX5_gather, 4, none, 4, false), (cX8_picks, 4, some .boolean, 7, false), (cX5_gatherAt, 6, none, 4, false), (cX5_sort, 6, none, 4, false), (cX11_setOf, 4, some .int, 10, false), (cX11_plan, 6, some .int, 10, false), (cX3_tell, 7, some .boolean, 2, false), (cX11_pay, 5, some .long, 10, false), (cX1_won, 4, some .int, 1, false), (cX1_due, 4, some .int, 1, false), (cX1_testAt, 2, some (.object "VeiledTable$Test"), 1, false), (cX1_amountAt, 2, some (.object "VeiledTable$Amount"), 1, false), (cX10_isSo, 5, some .boolean, 9, false), (cX10_isSoByItself, 4, some .boolean, 9, false), (cX0_comesTo, 5, some .int, 0, false), (cX0_byItself, 3, some .int, 0, false), (cX11_isProduct, 4, some .boolean, 10, true), (cX11_mean, 13, some .long, 10, false), (cX4_together, 5, some .int, 3, false), (cX8_chances, 4, some .int, 7, false), (cX8_isChanceAt, 3, some .boolean, 7, false), (cX2_isChance, 1, some .boolean, 12, false), (cX2_isCard, 1, some .boolean, 12, false), (cX11_reply, 3, some .long, 10, false), (cX11_isMuchFor, 4, some .boolean, 10, false), (cX4_best, 8, some .int, 3, false), (cX4_gatherCourses, 8, none, 3, false), (cX4_courseOf, 8, some .long, 3, false), (cX5_find, 6, some .int, 4, false), (cX4_sumTried, 3, some .int, 3, false), (cX4_isTried, 7, some .boolean, 3, false), (cX4_tryNext, 4, some .boolean, 3, false), (cJ9_min_7cf53, 2, some .int, 14, true), (cX11_better, 5, some .int, 10, false), (cX11_untold, 4, some .int, 10, false), (cX4_first, 2, some .int, 3, false), (cX11_settled, 2, some .int, 10, false), (cX11_count, 2, some .long, 10, false), (cX12_ways, 6, some (.array (.array .int)), 11, false), (cX12_goes, 10, some .int, 11, false)]
def ax_mt2 : List (ByteArray × Nat × Option FieldType × Nat × Bool) := [(cL_has, 2, some .boolean, 18, true), (cX12_view, 7, some .int, 11, false), (cX12_seen, 5, some (.array .int), 11, false), (cL_cell, 2, some .int, 18, true), (cL_made, 11, some (.object "VeiledTableLaw$Own"), 18, true), (cX12_init, 1, none, 11, false), (cX11_pack, 3, some .int, 10, false), (cX1_open, 2, none, 1, false), (cX8_open, 3, none, 7, false), (cX11_worth, 4, some .int, 10, false), (cX12_left, 3, some .int, 11, false), (cX11_stage, 4, some .int, 10, false), (cX11_isStageToBe, 5, some .boolean, 10, true), (cX8_hasRoom, 1, some .boolean, 7, false), (cX8_hasCardFor, 2, some .boolean, 7, false), (cX8_cardsLeft, 3, some .int, 7, false), (cX8_isCardAt, 3, some .boolean, 7, false), (cX7_init, 4, none, 6, false), (cX8_put, 3, none, 7, false), (cX8_branch, 8, none, 7, false), (cX8_cardsGone, 5, some .int, 7, false), (cX8_letSee, 6, none, 7, false), (cX2_isSecret, 1, some .boolean, 12, false), (cX11_rule, 8, some .int, 10, false), (cX10_init, 5, none, 9, false), (cX0_init, 6, none, 0, false), (cL_lots, 11, some .boolean, 18, true), (cX12_sets, 13, some (.array (.array .int)), 11, false), (cX12_chooses, 3, some .boolean, 11, false), (cX12_tell, 6, some .boolean, 11, false), (cX11_lot, 7, some .int, 10, false), (cL_same, 4, some .boolean, 18, true), (cL_law, 15, some .boolean, 18, true)]
def ax_mt : List (ByteArray × Nat × Option FieldType × Nat × Bool) := ax_mt0 ++ (ax_mt1 ++ (ax_mt2))
def ax_yt0 : List MethodName := [⟨"VeiledTable", "<init>", "()V"⟩, ⟨"VeiledTable$Game", "<init>", "()V"⟩, ⟨"VeiledTable$Table", "<init>", "()V"⟩, ⟨"VeiledTable$Plans", "<init>", "()V"⟩, ⟨"VeiledTable$Sets", "<init>", "()V"⟩, ⟨"VeiledTable$Play", "<init>", "()V"⟩, ⟨"VeiledTable$Tape", "<init>", "()V"⟩, ⟨"VeiledTable$Sheet", "<init>", "()V"⟩, ⟨"VeiledTable", "seen", "(II)I"⟩, ⟨"VeiledTable", "isAhead", "(II)Z"⟩, ⟨"VeiledTable", "isPoint", "(I)Z"⟩, ⟨"VeiledTable", "ways", "(I)I"⟩, ⟨"VeiledTable", "happened", "(II)I"⟩, ⟨"VeiledTable", "isWay", "(I)Z"⟩, ⟨"VeiledTable$Table", "go", "(II)V"⟩, ⟨"java/lang/Math", "max", "(II)I"⟩, ⟨"VeiledTable", "view", "(III)I"⟩, ⟨"VeiledTable", "isPlayer", "(I)Z"⟩, ⟨"VeiledTable$Table", "sight", "(II)I"⟩, ⟨"VeiledTable", "worlds", "(III)I"⟩, ⟨"VeiledTable$Table", "alike", "(III)I"⟩, ⟨"VeiledTable$Table", "sightOf", "(III)I"⟩, ⟨"VeiledTable", "world", "(IIII)I"⟩, ⟨"VeiledTable$Table", "alikeAt", "(IIII)I"⟩, ⟨"VeiledTable", "odds", "(IIIIII)J"⟩, ⟨"VeiledTable", "isPart", "(I)Z"⟩, ⟨"VeiledTable$Play", "follow", "(LVeiledTable$Game;II)V"⟩, ⟨"VeiledTable$Play", "step", "(LVeiledTable$Game;II)V"⟩, ⟨"VeiledTable$Table", "at", "(I)LVeiledTable$Stage;"⟩, ⟨"VeiledTable$Kind", "isChoice", "()Z"⟩, ⟨"VeiledTable$Game", "choice", "(III)I"⟩, ⟨"VeiledTable$Plans", "find", "(III)I"⟩, ⟨"VeiledTable$Plans", "key", "(III)I"⟩, ⟨"VeiledTable$Play", "alike", "(LVeiledTable$Table;III)I"⟩, ⟨"VeiledTable$Play", "alikeWith", "(LVeiledTable$Table;IIIII)I"⟩, ⟨"VeiledTable", "share", "(JJI)J"⟩, ⟨"java/lang/Math", "abs", "(J)J"⟩, ⟨"VeiledTable", "divisor", "(JJ)J"⟩, ⟨"java/lang/Math", "max", "(JJ)J"⟩, ⟨"VeiledTable", "sets", "(I)I"⟩]
def ax_yt1 : List MethodName := [⟨"VeiledTable$Sets", "gather", "(LVeiledTable$Table;I)V"⟩, ⟨"VeiledTable$Table", "picks", "(II)Z"⟩, ⟨"VeiledTable$Sets", "gatherAt", "(LVeiledTable$Table;II)V"⟩, ⟨"VeiledTable$Sets", "sort", "(I)V"⟩, ⟨"VeiledTable", "setOf", "(III)I"⟩, ⟨"VeiledTable", "plan", "(IIII)I"⟩, ⟨"VeiledTable$Plans", "tell", "(IIII)Z"⟩, ⟨"VeiledTable", "pay", "(II)J"⟩, ⟨"VeiledTable$Game", "won", "(I)I"⟩, ⟨"VeiledTable$Game", "due", "(I)I"⟩, ⟨"VeiledTable$Game", "testAt", "(I)LVeiledTable$Test;"⟩, ⟨"VeiledTable$Game", "amountAt", "(I)LVeiledTable$Amount;"⟩, ⟨"VeiledTable$Test", "isSo", "(LVeiledTable$Table;)Z"⟩, ⟨"VeiledTable$Test", "isSoByItself", "(LVeiledTable$Table;)Z"⟩, ⟨"VeiledTable$Amount", "comesTo", "(LVeiledTable$Table;)I"⟩, ⟨"VeiledTable$Amount", "byItself", "(LVeiledTable$Table;)I"⟩, ⟨"VeiledTable", "isProduct", "(JJ)Z"⟩, ⟨"VeiledTable", "mean", "(II)J"⟩, ⟨"VeiledTable$Play", "together", "(LVeiledTable$Game;I)I"⟩, ⟨"VeiledTable$Table", "chances", "(I)I"⟩, ⟨"VeiledTable$Table", "isChanceAt", "(I)Z"⟩, ⟨"VeiledTable$Kind", "isChance", "()Z"⟩, ⟨"VeiledTable$Kind", "isCard", "()Z"⟩, ⟨"VeiledTable", "reply", "(II)J"⟩, ⟨"VeiledTable", "isMuchFor", "(I)Z"⟩, ⟨"VeiledTable$Play", "best", "(LVeiledTable$Game;LVeiledTable$Sets;I)I"⟩, ⟨"VeiledTable$Play", "gatherCourses", "(LVeiledTable$Game;LVeiledTable$Sets;I)V"⟩, ⟨"VeiledTable$Play", "courseOf", "(LVeiledTable$Table;LVeiledTable$Sets;I)J"⟩, ⟨"VeiledTable$Sets", "find", "(II)I"⟩, ⟨"VeiledTable$Play", "sumTried", "()I"⟩, ⟨"VeiledTable$Play", "isTried", "(J)Z"⟩, ⟨"VeiledTable$Play", "tryNext", "(LVeiledTable$Table;LVeiledTable$Sets;)Z"⟩, ⟨"java/lang/Math", "min", "(II)I"⟩, ⟨"VeiledTable", "better", "(I)I"⟩, ⟨"VeiledTable", "untold", "(I)I"⟩, ⟨"VeiledTable$Play", "first", "(I)I"⟩, ⟨"VeiledTable", "settled", "()I"⟩, ⟨"VeiledTable", "count", "(I)J"⟩, ⟨"VeiledTableLaw$Own", "ways", "(I)[[I"⟩, ⟨"VeiledTableLaw$Own", "goes", "([[I[IIIII)I"⟩]
def ax_yt2 : List MethodName := [⟨"VeiledTableLaw", "has", "(II)Z"⟩, ⟨"VeiledTableLaw$Own", "view", "(I[II)I"⟩, ⟨"VeiledTableLaw$Own", "seen", "(I)[I"⟩, ⟨"VeiledTableLaw", "cell", "([II)I"⟩, ⟨"VeiledTableLaw", "made", "(LVeiledTable;[II)LVeiledTableLaw$Own;"⟩, ⟨"VeiledTableLaw$Own", "<init>", "()V"⟩, ⟨"VeiledTable", "pack", "(I)I"⟩, ⟨"VeiledTable$Game", "open", "(I)V"⟩, ⟨"VeiledTable$Table", "open", "(I)V"⟩, ⟨"VeiledTable", "worth", "(II)I"⟩, ⟨"VeiledTableLaw$Own", "left", "()I"⟩, ⟨"VeiledTable", "stage", "(III)I"⟩, ⟨"VeiledTable", "isStageToBe", "(III)Z"⟩, ⟨"VeiledTable$Table", "hasRoom", "()Z"⟩, ⟨"VeiledTable$Table", "hasCardFor", "(LVeiledTable$Kind;)Z"⟩, ⟨"VeiledTable$Table", "cardsLeft", "()I"⟩, ⟨"VeiledTable$Table", "isCardAt", "(I)Z"⟩, ⟨"VeiledTable$Stage", "<init>", "(LVeiledTable$Kind;II)V"⟩, ⟨"VeiledTable$Table", "put", "(LVeiledTable$Stage;)V"⟩, ⟨"VeiledTable$Table", "branch", "(LVeiledTable$Kind;I)V"⟩, ⟨"VeiledTable$Table", "cardsGone", "(II)I"⟩, ⟨"VeiledTable$Table", "letSee", "(LVeiledTable$Stage;I)V"⟩, ⟨"VeiledTable$Kind", "isSecret", "()Z"⟩, ⟨"VeiledTable", "rule", "(IIIIIII)I"⟩, ⟨"VeiledTable$Test", "<init>", "(IIILVeiledTable$Test;)V"⟩, ⟨"VeiledTable$Amount", "<init>", "(IIIILVeiledTable$Amount;)V"⟩, ⟨"VeiledTableLaw", "lots", "(LVeiledTable;LVeiledTableLaw$Own;I)Z"⟩, ⟨"VeiledTableLaw$Own", "sets", "(I)[[I"⟩, ⟨"VeiledTableLaw$Own", "chooses", "(II)Z"⟩, ⟨"VeiledTableLaw$Own", "tell", "(IIII)Z"⟩, ⟨"VeiledTable", "lot", "(I)I"⟩, ⟨"VeiledTableLaw", "same", "([I[II)Z"⟩, ⟨"VeiledTableLaw", "law", "([I)Z"⟩]
def ax_yt : List MethodName := ax_yt0 ++ (ax_yt1 ++ (ax_yt2))
def ax_m0 : ByteArray × Nat × Option FieldType × Nat × Bool := (⟨#[]⟩, 0, none, 19, false)
def ax_mi (m : Nat) : ByteArray × Nat × Option FieldType × Nat × Bool := ax_mt.getD m ax_m0
def ax_code (m : Nat) : ByteArray := (ax_mi m).1
def ax_L (m : Nat) : Nat := (ax_mi m).2.1
def ax_ret (m : Nat) : Option FieldType := (ax_mi m).2.2.1
def ax_cp : List Nat := [41, 49, 55, 112, 168, 199, 234, 261, 317, 321, 325, 329, 333, 337, 341, 344, 348, 351, 355, 359, 363, 367, 373, 377, 381, 384, 389, 393, 397, 401, 410, 415, 418, 422, 427, 430, 433, 436, 439, 443, 447, 451, 457, 462, 466, 471, 476, 480, 484, 488, 492, 496, 500, 505, 509, 514, 517, 524, 528, 535, 539, 543, 547, 559, 563, 567, 571, 576, 581, 585, 589, 594, 597, 601, 605, 610, 614, 618, 622, 627, 636, 640, 644, 647, 652, 657, 704, 708, 712, 716, 720, 724, 727, 733, 737, 742, 746, 750, 771, 777, 781, 785, 793, 798, 803, 821, 841, 845, 849, 856, 860, 865, 0]
def ax_own (m : Nat) : Nat := (ax_mi m).2.2.2.1
def ax_stt (m : Nat) : Bool := (ax_mi m).2.2.2.2
def ax_y (m : Nat) : MethodName := ax_yt.getD m ⟨"", "", ""⟩
def ax_law : Nat := 112
/-- the class and the place of the field that a link names: own class, index, class, place -/
def ax_fldT : List ((Nat × Nat) × (Nat × Nat)) := [((7, 9), (7, 0)), ((10, 81), (7, 0)), ((0, 41), (7, 0)), ((7, 15), (7, 1)), ((10, 91), (7, 1)), ((0, 44), (7, 1)), ((7, 21), (7, 2)), ((7, 25), (7, 3)), ((4, 31), (7, 3)), ((9, 29), (7, 3)), ((0, 32), (7, 3)), ((10, 117), (7, 3)), ((3, 85), (7, 3)), ((7, 28), (7, 4)), ((3, 57), (7, 4)), ((10, 231), (7, 4)), ((7, 31), (7, 5)), ((4, 44), (7, 5)), ((10, 151), (7, 5)), ((7, 36), (7, 6)), ((10, 139), (7, 6)), ((7, 39), (7, 7)), ((7, 42), (7, 8)), ((0, 37), (7, 8)), ((9, 34), (7, 8)), ((3, 82), (7, 8)), ((10, 161), (7, 8)), ((2, 9), (2, 0)), ((2, 15), (2, 1)), ((2, 18), (2, 2)), ((1, 56), (2, 2)), ((10, 250), (2, 2)), ((1, 12), (1, 0)), ((10, 77), (1, 0)), ((3, 45), (1, 0)), ((1, 21), (1, 1)), ((10, 234), (1, 1)), ((1, 27), (1, 2)), ((10, 256), (1, 2)), ((1, 33), (1, 3)), ((10, 267), (1, 3)), ((1, 37), (1, 4)), ((10, 277), (1, 4)), ((1, 41), (1, 5)), ((10, 280), (1, 5)), ((1, 44), (1, 6)), ((10, 253), (1, 6)), ((1, 48), (1, 7)), ((10, 289), (1, 7)), ((4, 9), (4, 0)), ((3, 140), (4, 0)), ((10, 212), (4, 0)), ((4, 15), (4, 1)), ((10, 215), (4, 1)), ((4, 18), (4, 2)), ((10, 218), (4, 2)), ((4, 21), (4, 3)), ((3, 134), (4, 3)), ((10, 209), (4, 3)), ((4, 25), (4, 4)), ((4, 28), (4, 5)), ((3, 9), (3, 0)), ((3, 15), (3, 1)), ((3, 18), (3, 2)), ((3, 22), (3, 3)), ((3, 26), (3, 4)), ((3, 29), (3, 5)), ((3, 32), (3, 6)), ((3, 35), (3, 7)), ((3, 38), (3, 8)), ((8, 9), (8, 0)), ((8, 15), (8, 1)), ((8, 19), (8, 2)), ((8, 22), (8, 3)), ((8, 25), (8, 4)), ((8, 28), (8, 5)), ((5, 9), (5, 0)), ((5, 15), (5, 1)), ((5, 18), (5, 2)), ((10, 10), (10, 0)), ((10, 16), (10, 1)), ((10, 19), (10, 2)), ((10, 26), (10, 3)), ((10, 33), (10, 4)), ((10, 40), (10, 5)), ((10, 46), (10, 6)), ((10, 50), (10, 7)), ((10, 57), (10, 8)), ((10, 61), (10, 9)), ((10, 64), (10, 10)), ((10, 69), (10, 11)), ((10, 73), (10, 12)), ((11, 7), (11, 0)), ((18, 27), (11, 0)), ((11, 53), (11, 1)), ((18, 52), (11, 1)), ((18, 74), (11, 2)), ((11, 13), (11, 3)), ((18, 37), (11, 3)), ((11, 17), (11, 4)), ((18, 55), (11, 4)), ((11, 20), (11, 5)), ((18, 58), (11, 5)), ((11, 23), (11, 6)), ((18, 61), (11, 6)), ((11, 28), (11, 7)), ((18, 71), (11, 7)), ((11, 32), (11, 8)), ((11, 60), (11, 9)), ((11, 35), (11, 10)), ((6, 7), (6, 0)), ((3, 60), (6, 0)), ((7, 71), (6, 0)), ((6, 13), (6, 1)), ((3, 72), (6, 1)), ((7, 81), (6, 1)), ((6, 17), (6, 2)), ((1, 74), (6, 2)), ((7, 91), (6, 2)), ((9, 9), (9, 0)), ((9, 15), (9, 1)), ((9, 18), (9, 2)), ((9, 21), (9, 3)), ((0, 9), (0, 0)), ((0, 15), (0, 1)), ((0, 18), (0, 2)), ((0, 21), (0, 3)), ((0, 24), (0, 4)), ((10, 372), (12, 1)), ((10, 375), (12, 2))]
def ax_fld (o i : Nat) : Option (Nat × Nat) := ax_fldT.lookup (o, i)
/-- of each class' fields the sort: 0 int, 1 long, 2 a reference, 3 boolean; and whether it is final -/
def ax_fcL : List (List (Nat × Bool)) := [[(0, true), (0, true), (0, true), (0, true), (2, true)], [(2, true), (2, true), (2, true), (2, true), (2, true), (2, true), (0, false), (1, false)], [(2, true), (2, true), (0, false)], [(2, false), (2, false), (0, false), (2, true), (2, true), (0, false), (0, false), (2, true), (2, true)], [(2, true), (2, true), (2, true), (0, false), (2, true), (2, true)], [(0, false), (0, false), (2, true)], [(2, true), (0, true), (0, true)], [(0, false), (2, true), (2, true), (0, false), (2, true), (2, true), (2, true), (2, true), (2, true)], [(2, true), (0, false), (0, false), (0, false), (0, false), (0, false)], [(0, true), (0, true), (0, true), (2, true)], [(2, true), (2, true), (3, false), (2, true), (2, true), (2, true), (2, true), (2, true), (2, true), (2, true), (2, true), (2, true), (2, true)], [(0, false), (0, false), (0, false), (2, true), (2, true), (2, true), (2, true), (2, true), (2, true), (0, false), (1, false)], [(0, true), (3, true), (3, true)], []]
def ax_fT (c k : Nat) : String × String × String × Bool := if c < 12 then (ax_cl.getD c ("", fun _ => ("", "", "", false), 0)).2.1 k else (match k with | 0 => ("VeiledTable$Kind", "number", "I", true) | 1 => ("VeiledTable$Kind", "hasPlayer", "Z", true) | _ => ("VeiledTable$Kind", "hasNumber", "Z", true))
def ax_fc (c j : Nat) : Nat := ((ax_fcL.getD c []).getD j (0, false)).1
def ax_ff (c j : Nat) : Bool := ((ax_fcL.getD c []).getD j (0, false)).2
def ax_nf (c : Nat) : Nat := (ax_fcL.getD c []).length
/-- static cells: class (20 int[], 21 long[], 24 int[][], 30 + c an array of class c) and how long -/
def ax_styL : List (Nat × Nat) := [(10, 13), (1, 8), (7, 9), (20, 5), (36, 6), (20, 6), (20, 7), (24, 7), (20, 6), (20, 6), (20, 6), (20, 6), (20, 6), (20, 6), (20, 6), (24, 6), (20, 1620), (20, 1620), (20, 1620), (20, 1620), (20, 1620), (20, 1620), (20, 6), (2, 3), (20, 40), (20, 40), (39, 8), (30, 8), (20, 8), (20, 8), (1, 8), (7, 9), (20, 5), (36, 6), (20, 6), (20, 7), (24, 7), (20, 6), (20, 6), (20, 6), (20, 6), (20, 6), (20, 6), (20, 6), (24, 6), (20, 1620), (20, 1620), (20, 1620), (20, 1620), (20, 1620), (20, 1620), (20, 6), (2, 3), (20, 40), (20, 40), (39, 8), (30, 8), (20, 8), (20, 8), (4, 6), (20, 806), (20, 806), (20, 806), (20, 1620), (20, 806), (3, 9), (20, 1620), (20, 1620), (21, 1620), (20, 1620), (20, 63), (20, 9), (8, 6), (20, 120), (36, 12), (20, 2), (35, 4), (5, 3), (20, 40), (5, 3), (20, 40), (5, 3), (20, 40), (5, 3), (20, 40), (20, 4), (36, 4), (30, 4), (21, 4), (11, 11), (20, 5), (20, 6), (20, 6), (20, 6), (24, 8), (20, 7), (20, 7), (20, 7), (20, 7), (20, 7), (20, 7), (20, 7), (20, 7), (24, 40)]
/-- what the final references of static cells hold, once all is made -/
def ax_cfL : List (List (Option Nat)) := [[some 65, some 94, none, some 123, some 129, some 136, some 138, some 139, some 140, some 149, some 150, some 151, some 152], [some 66, some 87, some 90, some 91, some 92, some 93, none, none], [none, some 67, some 68, none, some 69, some 70, some 71, some 79, some 86], [], [], [], [], [some 72, some 73, some 74, some 75, some 76, some 77, some 78], [], [], [], [], [], [], [], [some 80, some 81, some 82, some 83, some 84, some 85], [], [], [], [], [], [], [], [some 88, some 89, none], [], [], [], [], [], [], [some 95, some 116, some 119, some 120, some 121, some 122, none, none], [none, some 96, some 97, none, some 98, some 99, some 100, some 108, some 115], [], [], [], [], [some 101, some 102, some 103, some 104, some 105, some 106, some 107], [], [], [], [], [], [], [], [some 109, some 110, some 111, some 112, some 113, some 114], [], [], [], [], [], [], [], [some 117, some 118, none], [], [], [], [], [], [], [some 124, some 125, some 126, none, some 127, some 128], [], [], [], [], [], [none, none, none, some 132, some 133, none, none, some 134, some 135], [], [], [], [], [], [], [some 137, none, none, none, none, none], [], [], [], [some 141, some 143, some 145, some 147], [none, none, some 142], [], [none, none, some 144], [], [none, none, some 146], [], [none, none, some 148], [], [], [], [], [], [none, none, none, some 154, some 155, some 156, some 157, some 158, some 167, none, none], [], [], [], [], [], [], [], [], [], [], [], [], [], []]
/-- kinds, KINDS, the formatter, texts, their bytes -/
def ax_ctyL : List (Nat × Nat) := [(12, 3), (12, 3), (12, 3), (12, 3), (12, 3), (12, 3), (12, 3), (12, 3), (42, 8)]
def ax_ccL : List (List Value) := [[.int 0, .int 1, .int 0], [.int 1, .int 0, .int 0], [.int 2, .int 1, .int 1], [.int 3, .int 1, .int 1], [.int 4, .int 1, .int 0], [.int 5, .int 1, .int 0], [.int 6, .int 0, .int 1], [.int 7, .int 1, .int 1], [.ref 0, .ref 1, .ref 2, .ref 3, .ref 4, .ref 5, .ref 6, .ref 7]]
/-- class named by a link: own class, index, class (an array of it for anewarray) -/
def ax_newT : List ((Nat × Nat) × Nat) := [((18, 32), 10), ((10, 7), 1), ((1, 9), 7), ((7, 19), 6), ((1, 18), 2), ((1, 25), 9), ((1, 31), 0), ((10, 23), 4), ((10, 30), 3), ((10, 37), 8), ((10, 44), 6), ((10, 54), 5), ((10, 67), 0), ((11, 31), 17), ((18, 20), 11), ((10, 251), 9)]
def ax_new (o i : Nat) : Option Nat := ax_newT.lookup (o, i)
def ax_mna (o i : Nat) : Bool := decide ((o, i) ∈ ([(7, 34), (11, 26)] : List (Nat × Nat)))
def ax_stT : List ((Nat × Nat) × Value) := [((12, 10), .ref 2), ((12, 13), .ref 3), ((12, 3), .ref 0), ((12, 7), .ref 1), ((12, 22), .ref 6), ((12, 25), .ref 7), ((10, 102), .ref 8), ((7, 115), .ref 4), ((7, 118), .ref 5)]
def ax_stN : List ((Nat × Nat) × (String × String × String)) := [((12, 10), ("VeiledTable$Kind", "ASK", "LVeiledTable$Kind;")), ((12, 13), ("VeiledTable$Kind", "VEIL", "LVeiledTable$Kind;")), ((12, 3), ("VeiledTable$Kind", "DEAL", "LVeiledTable$Kind;")), ((12, 7), ("VeiledTable$Kind", "TURN", "LVeiledTable$Kind;")), ((12, 22), ("VeiledTable$Kind", "TOSS", "LVeiledTable$Kind;")), ((12, 25), ("VeiledTable$Kind", "PEEK", "LVeiledTable$Kind;")), ((10, 102), ("VeiledTable", "KINDS", "[LVeiledTable$Kind;")), ((7, 115), ("VeiledTable$Kind", "SHOW", "LVeiledTable$Kind;")), ((7, 118), ("VeiledTable$Kind", "FORGET", "LVeiledTable$Kind;"))]
def ax_sta (o i : Nat) : Option Value := ax_stT.lookup (o, i)
def ax_ldT : List ((Nat × Nat) × Value) := [((10, 167), .long (-4611686018427387906)), ((10, 195), .long (-4611686018427387905)), ((10, 387), .long (9223372036854775807)), ((10, 389), .long (-9223372036854775808)), ((10, 297), .long (-4611686018427387909)), ((3, 132), .long (63)), ((18, 7), .int (2147483647)), ((18, 81), .int (1103515245)), ((10, 244), .int (1103515245)), ((18, 160), .long (-4611686018427387905)), ((18, 162), .double (4607182409792818153)), ((18, 164), .double (4607182423303617035)), ((18, 169), .long (-4611686018427387909)), ((18, 174), .double (4517329193108106637))]
def ax_ldc (o i : Nat) : Option Value := ax_ldT.lookup (o, i)
def ax_caT0 : List ((Nat × Nat) × (Nat × Nat × Nat)) := [((18, 107), (2, 0, 0)), ((10, 1), (4, 0, 0)), ((10, 9), (3, 1, 0)), ((1, 3), (4, 0, 0)), ((1, 11), (2, 2, 0)), ((7, 3), (4, 0, 0)), ((1, 20), (3, 3, 0)), ((2, 3), (4, 0, 0)), ((10, 25), (3, 4, 0)), ((4, 3), (4, 0, 0)), ((10, 32), (3, 5, 0)), ((3, 3), (4, 0, 0)), ((10, 39), (3, 6, 0)), ((8, 3), (4, 0, 0)), ((10, 56), (3, 7, 0)), ((5, 3), (4, 0, 0)), ((18, 119), (0, 8, 2)), ((10, 143), (0, 9, 2)), ((10, 147), (0, 10, 1)), ((18, 116), (0, 11, 1)), ((18, 125), (0, 12, 2)), ((10, 154), (0, 13, 1)), ((10, 157), (0, 14, 2)), ((7, 94), (5, 15, 2)), ((18, 128), (0, 16, 3)), ((10, 173), (1, 17, 1)), ((10, 176), (0, 18, 2)), ((18, 131), (0, 19, 3)), ((10, 180), (0, 20, 3)), ((7, 127), (0, 21, 3)), ((7, 111), (0, 14, 2)), ((7, 124), (0, 18, 2)), ((18, 143), (0, 22, 4)), ((10, 184), (0, 23, 4)), ((18, 156), (0, 24, 6)), ((10, 164), (1, 25, 1)), ((10, 188), (0, 26, 3)), ((3, 41), (0, 27, 3)), ((3, 51), (0, 28, 1)), ((3, 66), (0, 29, 0)), ((3, 75), (0, 21, 3)), ((3, 79), (0, 30, 3)), ((1, 66), (0, 28, 1)), ((1, 70), (0, 31, 3)), ((2, 22), (1, 32, 3)), ((10, 192), (0, 33, 4)), ((10, 197), (0, 34, 6)), ((10, 201), (1, 35, 3)), ((10, 381), (7, 36, 1)), ((10, 303), (1, 37, 2)), ((10, 385), (8, 38, 2)), ((18, 151), (0, 39, 1)), ((10, 205), (0, 40, 2)), ((4, 36), (0, 41, 2)), ((7, 67), (0, 28, 1)), ((7, 78), (0, 29, 0)), ((4, 40), (0, 42, 3)), ((4, 47), (0, 21, 3)), ((4, 51), (0, 43, 1)), ((18, 153), (0, 44, 3))]
def ax_caT1 : List ((Nat × Nat) × (Nat × Nat × Nat)) := [((10, 221), (0, 30, 3)), ((18, 182), (0, 45, 4)), ((10, 228), (0, 41, 2)), ((10, 238), (0, 46, 4)), ((18, 134), (0, 47, 2)), ((10, 286), (0, 48, 1)), ((1, 95), (0, 49, 1)), ((1, 79), (0, 50, 1)), ((1, 83), (0, 51, 1)), ((1, 87), (0, 52, 1)), ((9, 25), (0, 53, 1)), ((1, 91), (0, 54, 1)), ((0, 28), (0, 55, 1)), ((10, 293), (1, 56, 2)), ((18, 171), (0, 57, 2)), ((10, 299), (0, 58, 2)), ((3, 88), (0, 26, 3)), ((3, 91), (0, 14, 2)), ((3, 95), (0, 48, 1)), ((10, 169), (0, 59, 1)), ((7, 131), (0, 60, 1)), ((7, 75), (0, 61, 0)), ((12, 62), (0, 62, 0)), ((18, 166), (0, 63, 2)), ((10, 307), (0, 64, 1)), ((10, 310), (0, 65, 3)), ((3, 99), (0, 66, 3)), ((3, 111), (0, 41, 2)), ((3, 115), (0, 67, 3)), ((3, 119), (0, 18, 2)), ((3, 123), (0, 68, 2)), ((3, 103), (0, 69, 0)), ((3, 128), (0, 70, 1)), ((3, 107), (0, 71, 2)), ((3, 135), (6, 72, 2)), ((18, 179), (0, 73, 1)), ((10, 314), (0, 74, 1)), ((10, 378), (0, 31, 3)), ((10, 317), (0, 75, 1)), ((18, 176), (0, 76, 0)), ((18, 96), (0, 77, 1)), ((18, 138), (0, 78, 1)), ((11, 39), (0, 79, 6)), ((11, 43), (9, 0, 0)), ((11, 47), (10, 80, 2)), ((18, 140), (0, 81, 3)), ((11, 56), (0, 82, 1)), ((18, 23), (1, 83, 2)), ((18, 121), (1, 80, 2)), ((18, 108), (1, 84, 3)), ((18, 22), (3, 85, 0)), ((11, 1), (4, 0, 0)), ((18, 31), (0, 86, 1)), ((10, 87), (0, 87, 1)), ((1, 52), (0, 88, 1)), ((18, 41), (0, 89, 2)), ((18, 44), (0, 90, 0)), ((18, 48), (0, 91, 3)), ((10, 94), (1, 92, 3)), ((10, 98), (0, 93, 0))]
def ax_caT2 : List ((Nat × Nat) × (Nat × Nat × Nat)) := [((10, 106), (0, 94, 1)), ((7, 53), (0, 62, 0)), ((7, 59), (0, 95, 0)), ((7, 63), (0, 96, 1)), ((10, 110), (2, 97, 3)), ((6, 1), (4, 0, 0)), ((10, 113), (0, 98, 1)), ((7, 84), (0, 93, 0)), ((7, 87), (0, 94, 1)), ((7, 100), (0, 99, 2)), ((7, 108), (0, 100, 2)), ((7, 104), (0, 101, 2)), ((7, 121), (0, 102, 0)), ((18, 64), (5, 15, 2)), ((18, 67), (0, 103, 7)), ((10, 260), (0, 50, 1)), ((10, 264), (2, 104, 4)), ((9, 3), (4, 0, 0)), ((10, 270), (0, 51, 1)), ((10, 274), (2, 105, 5)), ((0, 3), (4, 0, 0)), ((18, 112), (1, 106, 3)), ((18, 77), (0, 107, 1)), ((11, 63), (0, 108, 2)), ((11, 74), (0, 78, 1)), ((11, 66), (0, 81, 3)), ((18, 82), (0, 109, 4)), ((18, 86), (0, 110, 1)), ((10, 245), (5, 15, 2)), ((18, 147), (1, 111, 3))]
/-- calls: own class, index; how (0 virtual, 1 static, 2 constructor, 3 constructor of a nest mate, 4 Object's), which method, how many arguments -/
def ax_caT : List ((Nat × Nat) × (Nat × Nat × Nat)) := ax_caT0 ++ (ax_caT1 ++ (ax_caT2))
def ax_cal (o i : Nat) : Option (Nat × Nat × Nat) := ax_caT.lookup (o, i)
end
section
/-! THE SMALL MACHINE: the program run over a heap of numbered cells, as a function; all cells of the program's own have fixed numbers (64 .. 167), but for those that it makes later (168 ..). -/
/-- what the cells hold; of those made later the class; the next number; slots used; how long the script is -/
abbrev AH : Type := (Nat → Nat → Value) × (Nat → Nat) × Nat × Nat × Nat
def toI : Value → Int32
  | .int x => x
  | _ => 0
def toL : Value → Int64
  | .long x => x
  | _ => 0
def toR : Value → Value
  | .ref a => .ref a
  | _ => .null
def toD : Value → UInt64
  | .double x => x
  | _ => 0
/-- what a later cell is: below 100 an object's class, above an array and how long -/
def ax_dty (c : Nat) : Nat × Nat := if c < 100 then (c, 0) else if c % 2 = 0 then (20, (c - 100) / 2) else (24, (c - 101) / 2)
def ax_dcd (c len : Nat) : Nat := if c = 20 then 100 + 2 * len else if c = 24 then 101 + 2 * len else c
def ax_dok (c : Nat) : Prop := c < 12 ∨ (100 ≤ c ∧ c < 40000)
/-- a slot's content as its sort has it -/
def ax_tv (c : Nat) (v : Value) : Value := if c = 1 then .long (toL v) else if c = 2 then toR v else .int (toI v)
def ax_fk (c : Nat) : Nat := if c = 3 then 0 else c
def ax_df (c : Nat) : Value := if c = 1 then .long 0 else if c = 2 then .null else .int 0
def ax_ty (h : AH) (k : Nat) : Nat × Nat := if k < 48 then ax_ctyL.getD k (99, 0) else if k = 48 then (20, h.2.2.2.2) else if k < 64 then (99, 0) else if k < 168 then ax_styL.getD (k - 64) (99, 0) else ax_dty (h.2.1 k)
/-- what a cell holds at a place: constants; when all is made (ph) the final references; else the heap's own -/
def ax_rd (ph : Bool) (h : AH) (a j : Nat) : Value := if a < 48 then (ax_ccL.getD a []).getD j .null else if ph && decide (64 ≤ a) then (match (ax_cfL.getD (a - 64) []).getD j none with | some q => .ref q | none => h.1 a j) else h.1 a j
def ax_wok (ph : Bool) (a j : Nat) : Bool := decide (64 ≤ a) && (!ph || ((ax_cfL.getD (a - 64) []).getD j none).isNone)
/-- a cell that is there -/
def ax_ok (ph : Bool) (h : AH) (a : Nat) : Bool := decide (a < 64) || (ph && decide (a < 168)) || decide (a < h.2.2.1)
def ax_wr (h : AH) (a j : Nat) (v : Value) : AH := (fun b k => if b = a ∧ k = j then v else h.1 b k, h.2)
def ax_mk (h : AH) (c len : Nat) (f : Nat → Value) : AH := (fun b k => if b = h.2.2.1 then f k else h.1 b k, fun b => if b = h.2.2.1 then c else h.2.1 b, h.2.2.1 + 1, h.2.2.2.1 + len, h.2.2.2.2)
/-- a new object of class c -/
def ax_mkO (h : AH) (c : Nat) : Option AH := if 64 ≤ h.2.2.1 ∧ c < 12 ∧ (h.2.2.1 < 168 → ax_styL.getD (h.2.2.1 - 64) (99, 0) = (c, ax_nf c)) then some (ax_mk h c (ax_nf c) (fun j => ax_df (ax_fc c j))) else none
/-- a new array -/
def ax_mkA (h : AH) (c len : Nat) (v : Value) : Option AH := if 64 ≤ h.2.2.1 ∧ len < 19900 ∧ (h.2.2.1 < 168 → ax_styL.getD (h.2.2.1 - 64) (99, 0) = (c, len)) ∧ (¬ h.2.2.1 < 168 → c = 20 ∨ c = 24) then some (ax_mk h (ax_dcd c len) len (fun _ => v)) else none
/-- a copy of an int[] -/
def ax_mkC (h : AH) (a len : Nat) : Option AH := if 168 ≤ h.2.2.1 ∧ len < 19900 then some (ax_mk h (ax_dcd 20 len) len (fun j => .int (toI (h.1 a j)))) else none
def ax_junk : Value := .retAddr 0
def ax_isL : Value → Bool
  | .long _ => true
  | .double _ => true
  | _ => false
/-- 0 int, 1 long, 2 a reference or null, 4 double, 3 none of these -/
def ax_kd : Value → Nat
  | .int _ => 0
  | .long _ => 1
  | .null => 2
  | .ref _ => 2
  | .double _ => 4
  | _ => 3
def ax_put (ls : List Value) (i : Nat) (v : Value) : List Value :=
  (fun l : List Value => if ax_isL v then l.set (i + 1) ax_junk else l) ((if i = 0 then ls else if ax_isL (ls.getD (i - 1) ax_junk) then ls.set (i - 1) ax_junk else ls).set i v)
/-- a method's locals at its entry -/
def ax_ent0 : List Value → List Value
  | [] => []
  | v :: vs => if ax_isL v then v :: ax_junk :: ax_ent0 vs else v :: ax_ent0 vs
def ax_ent (vs : List Value) (n : Nat) : List Value := ax_ent0 vs ++ List.replicate (n - (ax_ent0 vs).length) ax_junk
def ax_lod (c : Nat) (ls : List Value) (n : Nat) : Option Value := if ax_kd (ls.getD n ax_junk) = c then some (ls.getD n ax_junk) else none
def ax_sto (c m : Nat) (ls st : List Value) (n : Nat) : Option (List Value × List Value) := match st with
  | [] => none
  | v :: r => if ax_kd v = c ∧ (if c = 1 ∨ c = 4 then n + 1 else n) < ls.length ∧ ls.length = ax_L m then some (ax_put ls n v, r) else none
def ax_ii (st : List Value) (f : Int32 → Int32 → Option Value) : Option (List Value) := match st with
  | .int y :: .int x :: r => (f x y).map (· :: r)
  | _ => none
def ax_ll (st : List Value) (f : Int64 → Int64 → Option Value) : Option (List Value) := match st with
  | .long y :: .long x :: r => (f x y).map (· :: r)
  | _ => none
def ax_dd (st : List Value) (f : UInt64 → UInt64 → Option Value) : Option (List Value) := match st with
  | .double y :: .double x :: r => (f x y).map (· :: r)
  | _ => none
def ax_li (st : List Value) (f : Int64 → Int32 → Option Value) : Option (List Value) := match st with
  | .int y :: .long x :: r => (f x y).map (· :: r)
  | _ => none
def ax_i (st : List Value) (f : Int32 → Value) : Option (List Value) := match st with
  | .int x :: r => some (f x :: r)
  | _ => none
def ax_l (st : List Value) (f : Int64 → Value) : Option (List Value) := match st with
  | .long x :: r => some (f x :: r)
  | _ => none
def ax_tg (pc : Nat) (off : Int) : Option Nat := if 0 ≤ (pc : Int) + off then some ((pc : Int) + off).toNat else none
def ax_c0 (c : Jvm.ClassFile.Cond) (x : Int32) : Bool := match c with
  | .eq => decide (x = 0)
  | .ne => !decide (x = 0)
  | .lt => decide (x < 0)
  | .ge => decide (0 ≤ x)
  | .gt => decide (0 < x)
  | .le => decide (x ≤ 0)
def ax_c2 (c : Jvm.ClassFile.Cond) (x y : Int32) : Bool := match c with
  | .eq => decide (x = y)
  | .ne => !decide (x = y)
  | .lt => decide (x < y)
  | .ge => decide (y ≤ x)
  | .gt => decide (y < x)
  | .le => decide (x ≤ y)
/-- an array's place -/
def ax_in (i : Int32) (n : Nat) : Bool := !(decide (i < 0) || decide (n ≤ i.toNatClampNeg))
/-- a new int[n][w] -/
def ax_mkM (h : AH) (n w : Nat) : Option AH := if 64 ≤ h.2.2.1 ∧ h.2.2.1 + n < 168 ∧ n ≤ 100 ∧ w ≤ 20000 ∧ ax_styL.getD (h.2.2.1 - 64) (99, 0) = (24, n) ∧ (List.range n).all (fun i => decide (ax_styL.getD (h.2.2.1 + 1 + i - 64) (99, 0) = (20, w))) = true then
    some (fun b k => if b = h.2.2.1 then .ref (h.2.2.1 + 1 + k) else if h.2.2.1 < b ∧ b < h.2.2.1 + 1 + n then .int 0 else h.1 b k, h.2.1, h.2.2.1 + 1 + n, h.2.2.2.1 + n + n * w, h.2.2.2.2) else none
/-- how long an instruction is, of those that are run -/
def ax_len (i : Instr) : Nat := match i with
  | .iload _ => 2 | .lload _ => 2 | .aload _ => 2 | .istore _ => 2 | .lstore _ => 2 | .astore _ => 2 | .dload _ => 2 | .dstore _ => 2 | .bipush _ => 2 | .ldc _ => 2 | .newarray _ => 2
  | .iinc _ _ => 3 | .sipush _ => 3 | .ldc_w _ => 3 | .ldc2_w _ => 3 | .goto _ => 3 | .ifCond _ _ => 3 | .if_icmp _ _ => 3 | .ifnull _ => 3 | .ifnonnull _ => 3 | .if_acmp _ _ => 3
  | .getfield _ => 3 | .putfield _ => 3 | .invokestatic _ => 3 | .getstatic _ => 3 | .new _ => 3 | .anewarray _ => 3 | .multianewarray _ _ => 4 | .checkcast _ => 3 | .invokevirtual _ => 3
  | _ => 1
def ax_tsw (i : Instr) : Bool := match i with
  | .tableswitch _ _ _ _ => true
  | _ => false
abbrev AX : Type := Nat × List Value × List Value × AH
def ax_wt (st : List Value) : Nat := (st.map fun v => if ax_isL v then 2 else 1).sum
/-- one instruction, but calls and returns -/
def ax_step (ph : Bool) (m : Nat) (i : Instr) (pc : Nat) (ls st : List Value) (h : AH) : Option AX := match i with
  | .iload n => (ax_lod 0 ls n).map fun v => (pc + 2, ls, v :: st, h)
  | .iload_n n => (ax_lod 0 ls n.val).map fun v => (pc + 1, ls, v :: st, h)
  | .lload n => (ax_lod 1 ls n).map fun v => (pc + 2, ls, v :: st, h)
  | .lload_n n => (ax_lod 1 ls n.val).map fun v => (pc + 1, ls, v :: st, h)
  | .aload n => (ax_lod 2 ls n).map fun v => (pc + 2, ls, v :: st, h)
  | .aload_n n => (ax_lod 2 ls n.val).map fun v => (pc + 1, ls, v :: st, h)
  | .istore n => (ax_sto 0 m ls st n).map fun q => (pc + 2, q.1, q.2, h)
  | .istore_n n => (ax_sto 0 m ls st n.val).map fun q => (pc + 1, q.1, q.2, h)
  | .lstore n => (ax_sto 1 m ls st n).map fun q => (pc + 2, q.1, q.2, h)
  | .lstore_n n => (ax_sto 1 m ls st n.val).map fun q => (pc + 1, q.1, q.2, h)
  | .astore n => (ax_sto 2 m ls st n).map fun q => (pc + 2, q.1, q.2, h)
  | .astore_n n => (ax_sto 2 m ls st n.val).map fun q => (pc + 1, q.1, q.2, h)
  | .dload n => (ax_lod 4 ls n).map fun v => (pc + 2, ls, v :: st, h)
  | .dload_n n => (ax_lod 4 ls n.val).map fun v => (pc + 1, ls, v :: st, h)
  | .dstore n => (ax_sto 4 m ls st n).map fun q => (pc + 2, q.1, q.2, h)
  | .dstore_n n => (ax_sto 4 m ls st n.val).map fun q => (pc + 1, q.1, q.2, h)
  | .dconst k => if k.val = 0 then some (pc + 1, ls, .double 0 :: st, h) else none
  | .iinc n k => (match ls.getD n ax_junk with
    | .int x => if n < ls.length ∧ ls.length = ax_L m then some (pc + 3, ax_put ls n (.int (x + Int32.ofInt k)), st, h) else none
    | _ => none)
  | .iconst k => some (pc + 1, ls, .int (Int32.ofInt k) :: st, h)
  | .bipush k => some (pc + 2, ls, .int (Int8.ofInt k).toInt32 :: st, h)
  | .sipush k => some (pc + 3, ls, .int (Int16.ofInt k).toInt32 :: st, h)
  | .lconst k => some (pc + 1, ls, .long (Int64.ofNat k.val) :: st, h)
  | .aconst_null => some (pc + 1, ls, .null :: st, h)
  | .ldc k => (match ax_ldc (ax_own m) k with
    | some (.int v) => some (pc + 2, ls, .int v :: st, h)
    | some (.ref v) => some (pc + 2, ls, .ref v :: st, h)
    | _ => none)
  | .ldc_w k => (match ax_ldc (ax_own m) k with
    | some (.int v) => some (pc + 3, ls, .int v :: st, h)
    | some (.ref v) => some (pc + 3, ls, .ref v :: st, h)
    | _ => none)
  | .ldc2_w k => (match ax_ldc (ax_own m) k with
    | some (.long v) => some (pc + 3, ls, .long v :: st, h)
    | some (.double v) => some (pc + 3, ls, .double v :: st, h)
    | _ => none)
  | .iadd => (ax_ii st fun x y => some (.int (x + y))).map fun r => (pc + 1, ls, r, h)
  | .isub => (ax_ii st fun x y => some (.int (x - y))).map fun r => (pc + 1, ls, r, h)
  | .imul => (ax_ii st fun x y => some (.int (x * y))).map fun r => (pc + 1, ls, r, h)
  | .iand => (ax_ii st fun x y => some (.int (x &&& y))).map fun r => (pc + 1, ls, r, h)
  | .ior => (ax_ii st fun x y => some (.int (x ||| y))).map fun r => (pc + 1, ls, r, h)
  | .ixor => (ax_ii st fun x y => some (.int (x ^^^ y))).map fun r => (pc + 1, ls, r, h)
  | .idiv => (ax_ii st fun x y => if y = 0 then none else some (.int (x / y))).map fun r => (pc + 1, ls, r, h)
  | .irem => (ax_ii st fun x y => if y = 0 then none else some (.int (x - x / y * y))).map fun r => (pc + 1, ls, r, h)
  | .ishl => (ax_ii st fun x y => some (.int (x <<< (y &&& 31)))).map fun r => (pc + 1, ls, r, h)
  | .ishr => (ax_ii st fun x y => some (.int (x >>> (y &&& 31)))).map fun r => (pc + 1, ls, r, h)
  | .iushr => (ax_ii st fun x y => some (.int (x.toUInt32 >>> (y.toUInt32 &&& Int32.toUInt32 31)).toInt32)).map fun r => (pc + 1, ls, r, h)
  | .ladd => (ax_ll st fun x y => some (.long (x + y))).map fun r => (pc + 1, ls, r, h)
  | .lmul => (ax_ll st fun x y => some (.long (x * y))).map fun r => (pc + 1, ls, r, h)
  | .land => (ax_ll st fun x y => some (.long (x &&& y))).map fun r => (pc + 1, ls, r, h)
  | .lor => (ax_ll st fun x y => some (.long (x ||| y))).map fun r => (pc + 1, ls, r, h)
  | .ldiv => (ax_ll st fun x y => if y = 0 then none else some (.long (x / y))).map fun r => (pc + 1, ls, r, h)
  | .lrem => (ax_ll st fun x y => if y = 0 then none else some (.long (x - x / y * y))).map fun r => (pc + 1, ls, r, h)
  | .lcmp => (ax_ll st fun x y => some (.int (lg_cmp x y))).map fun r => (pc + 1, ls, r, h)
  | .lshl => (ax_li st fun x y => some (.long (x <<< (y.toInt64 &&& 63)))).map fun r => (pc + 1, ls, r, h)
  | .lshr => (ax_li st fun x y => some (.long (x >>> (y.toInt64 &&& 63)))).map fun r => (pc + 1, ls, r, h)
  | .lneg => (ax_l st fun x => .long (-x)).map fun r => (pc + 1, ls, r, h)
  | .i2l => (ax_i st fun x => .long x.toInt64).map fun r => (pc + 1, ls, r, h)
  | .l2i => (ax_l st fun x => .int x.toInt32).map fun r => (pc + 1, ls, r, h)
  | .l2d => (ax_l st fun x => .double (FP.l2d x)).map fun r => (pc + 1, ls, r, h)
  | .ddiv => (ax_dd st fun x y => if FP.ddiv x y &&& 0x7fffffffffffffff ≤ 0x7ff0000000000000 then some (.double (FP.ddiv x y)) else none).map fun r => (pc + 1, ls, r, h)
  | .dadd => (ax_dd st fun x y => if FP.dadd x y &&& 0x7fffffffffffffff ≤ 0x7ff0000000000000 then some (.double (FP.dadd x y)) else none).map fun r => (pc + 1, ls, r, h)
  | .dsub => (ax_dd st fun x y => if FP.dsub x y &&& 0x7fffffffffffffff ≤ 0x7ff0000000000000 then some (.double (FP.dsub x y)) else none).map fun r => (pc + 1, ls, r, h)
  | .dcmp op => (ax_dd st fun x y => some (.int (Op.cmpValue (FP.dcmp x y) op))).map fun r => (pc + 1, ls, r, h)
  | .i2c => (ax_i st fun x => .int (x.toUInt32 % 65536).toInt32).map fun r => (pc + 1, ls, r, h)
  | .dup => (match st with
    | v :: r => if ax_kd v = 0 ∨ ax_kd v = 2 then some (pc + 1, ls, v :: v :: r, h) else none
    | [] => none)
  | .pop => (match st with
    | v :: r => if ax_kd v = 0 ∨ ax_kd v = 2 then some (pc + 1, ls, r, h) else none
    | [] => none)
  | .dup2 => (match st with
    | v :: w :: r => if (ax_kd v = 0 ∨ ax_kd v = 2) ∧ (ax_kd w = 0 ∨ ax_kd w = 2) then some (pc + 1, ls, v :: w :: v :: w :: r, h) else none
    | _ => none)
  | .dup_x1 => (match st with
    | v :: w :: r => if (ax_kd v = 0 ∨ ax_kd v = 2) ∧ (ax_kd w = 0 ∨ ax_kd w = 2) then some (pc + 1, ls, v :: w :: v :: r, h) else none
    | _ => none)
  | .checkcast k => (match st with
    | .ref a :: r => if ax_new (ax_own m) k = some 17 ∧ (ax_ty h a).1 = 20 ∧ 64 ≤ a ∧ ax_ok ph h a = true then some (pc + 3, ls, .ref a :: r, h) else none
    | _ => none)
  | .invokevirtual k => (match ax_cal (ax_own m) k with
    | some (9, _, _) => (match st with
      | .ref a :: r => if (ax_ty h a).1 = 20 ∧ 64 ≤ a ∧ ax_ok ph h a = true ∧ ax_wt r ≤ 8 ∧ ls.length = ax_L m then (ax_mkC h a (ax_ty h a).2).map fun h1 => (pc + 3, ls, .ref h.2.2.1 :: r, h1) else none
      | _ => none)
    | _ => none)
  | .goto off => (ax_tg pc off).map fun t => (t, ls, st, h)
  | .ifCond c off => (match st with
    | .int x :: r => (ax_tg pc off).map fun t => (if ax_c0 c x = true then t else pc + 3, ls, r, h)
    | _ => none)
  | .if_icmp c off => (match st with
    | .int y :: .int x :: r => (ax_tg pc off).map fun t => (if ax_c2 c x y = true then t else pc + 3, ls, r, h)
    | _ => none)
  | .ifnull off => (match st with
    | .null :: r => (ax_tg pc off).map fun t => (t, ls, r, h)
    | .ref k :: r => if k = 9 then none else some (pc + 3, ls, r, h)
    | _ => none)
  | .ifnonnull off => (match st with
    | .null :: r => some (pc + 3, ls, r, h)
    | .ref k :: r => if k = 9 then none else (ax_tg pc off).map fun t => (t, ls, r, h)
    | _ => none)
  | .if_acmp c off => (match st with
    | .ref y :: .ref x :: r => if x < 8 ∧ y < 8 then (ax_tg pc off).map fun t => (if (x = y ↔ c = .eq) then t else pc + 3, ls, r, h) else none
    | _ => none)
  | .tableswitch d lo hi offs => (match st with
    | .int x :: r => if x.toInt < lo ∨ hi < x.toInt then (ax_tg pc d).map fun t => (t, ls, r, h) else (match offs[(x.toInt - lo).toNat]? with
      | some off => (ax_tg pc off).map fun t => (t, ls, r, h)
      | none => none)
    | _ => none)
  | .getfield k => (match st with
    | .ref a :: r => (match ax_fld (ax_own m) k with
      | some q => if (ax_ty h a).1 = q.1 ∧ q.1 < 14 ∧ ax_ok ph h a = true then some (pc + 3, ls, ax_tv (ax_fc q.1 q.2) (ax_rd ph h a q.2) :: r, h) else none
      | none => none)
    | _ => none)
  | .putfield k => (match st with
    | v :: .ref a :: r => (match ax_fld (ax_own m) k with
      | some q => if (ax_ty h a).1 = q.1 ∧ q.1 < 12 ∧ ax_wok ph a q.2 = true ∧ ax_ok ph h a = true ∧ (ax_ff q.1 q.2 = true → (ax_y m).name = "<init>" ∧ q.1 = ax_own m) ∧ ax_kd v = ax_fk (ax_fc q.1 q.2) ∧ (ax_fc q.1 q.2 = 3 → toI v = 0 ∨ toI v = 1) then some (pc + 3, ls, r, ax_wr h a q.2 v) else none
      | none => none)
    | _ => none)
  | .getstatic k => (match ax_sta (ax_own m) k with
    | some v => some (pc + 3, ls, v :: st, h)
    | none => none)
  | .arraylength => (match st with
    | .ref a :: r => if 20 ≤ (ax_ty h a).1 ∧ (ax_ty h a).1 ≠ 99 ∧ ax_ok ph h a = true then some (pc + 1, ls, .int (Int32.ofNat (ax_ty h a).2) :: r, h) else none
    | _ => none)
  | .iaload => (match st with
    | .int j :: .ref a :: r => if (ax_ty h a).1 = 20 ∧ ax_in j (ax_ty h a).2 = true ∧ ax_ok ph h a = true then some (pc + 1, ls, .int (toI (ax_rd ph h a j.toNatClampNeg)) :: r, h) else none
    | _ => none)
  | .baload => (match st with
    | .int j :: .ref a :: r => if (ax_ty h a).1 = 22 ∧ ax_in j (ax_ty h a).2 = true ∧ ax_ok ph h a = true then some (pc + 1, ls, .int (toI (ax_rd ph h a j.toNatClampNeg)) :: r, h) else none
    | _ => none)
  | .laload => (match st with
    | .int j :: .ref a :: r => if (ax_ty h a).1 = 21 ∧ ax_in j (ax_ty h a).2 = true ∧ ax_ok ph h a = true then some (pc + 1, ls, .long (toL (ax_rd ph h a j.toNatClampNeg)) :: r, h) else none
    | _ => none)
  | .aaload => (match st with
    | .int j :: .ref a :: r => if ((ax_ty h a).1 = 24 ∨ 30 ≤ (ax_ty h a).1) ∧ (ax_ty h a).1 ≠ 99 ∧ ax_in j (ax_ty h a).2 = true ∧ ax_ok ph h a = true then some (pc + 1, ls, toR (ax_rd ph h a j.toNatClampNeg) :: r, h) else none
    | _ => none)
  | .iastore => (match st with
    | .int x :: .int j :: .ref a :: r => if (ax_ty h a).1 = 20 ∧ ax_in j (ax_ty h a).2 = true ∧ ax_wok ph a j.toNatClampNeg = true ∧ ax_ok ph h a = true then some (pc + 1, ls, r, ax_wr h a j.toNatClampNeg (.int x)) else none
    | _ => none)
  | .lastore => (match st with
    | .long x :: .int j :: .ref a :: r => if (ax_ty h a).1 = 21 ∧ ax_in j (ax_ty h a).2 = true ∧ ax_wok ph a j.toNatClampNeg = true ∧ ax_ok ph h a = true then some (pc + 1, ls, r, ax_wr h a j.toNatClampNeg (.long x)) else none
    | _ => none)
  | .aastore => (match st with
    | .null :: .int j :: .ref a :: r => if (30 ≤ (ax_ty h a).1 ∧ (ax_ty h a).1 < 44) ∧ ax_in j (ax_ty h a).2 = true ∧ ax_wok ph a j.toNatClampNeg = true ∧ ax_ok ph h a = true then some (pc + 1, ls, r, ax_wr h a j.toNatClampNeg .null) else none
    | .ref v :: .int j :: .ref a :: r => if ((30 ≤ (ax_ty h a).1 ∧ (ax_ty h a).1 < 42 ∧ (ax_ty h v).1 + 30 = (ax_ty h a).1) ∨ ((ax_ty h a).1 = 24 ∧ (ax_ty h v).1 = 20)) ∧ 64 ≤ v ∧ ax_ok ph h v = true ∧ ax_in j (ax_ty h a).2 = true ∧ ax_wok ph a j.toNatClampNeg = true ∧ ax_ok ph h a = true then some (pc + 1, ls, r, ax_wr h a j.toNatClampNeg (.ref v)) else none
    | _ => none)
  | .invokestatic k => (match ax_cal (ax_own m) k with
    | some (5, _, _) => if ax_wt (st.drop 2) ≤ 8 ∧ ls.length = ax_L m then (ax_ii st fun x y => some (.int (if x < y then y else x))).map fun r => (pc + 3, ls, r, h) else none
    | some (6, _, _) => if ax_wt (st.drop 2) ≤ 8 ∧ ls.length = ax_L m then (ax_ii st fun x y => some (.int (if y < x then y else x))).map fun r => (pc + 3, ls, r, h) else none
    | some (7, _, _) => if ax_wt (st.drop 1) ≤ 8 ∧ ls.length = ax_L m then (ax_l st fun x => .long (if 0 < x then x else -x)).map fun r => (pc + 3, ls, r, h) else none
    | some (8, _, _) => if ax_wt (st.drop 2) ≤ 8 ∧ ls.length = ax_L m then (ax_ll st fun x y => some (.long (if y < x then x else y))).map fun r => (pc + 3, ls, r, h) else none
    | _ => none)
  | .new k => (match ax_new (ax_own m) k with
    | some c => (ax_mkO h c).map fun h1 => (pc + 3, ls, .ref h.2.2.1 :: st, h1)
    | none => none)
  | .newarray t => (match st with
    | .int n :: r => if n < 0 then none else (match t with
      | .int => (ax_mkA h 20 n.toNatClampNeg (.int 0)).map fun h1 => (pc + 2, ls, .ref h.2.2.1 :: r, h1)
      | .long => (ax_mkA h 21 n.toNatClampNeg (.long 0)).map fun h1 => (pc + 2, ls, .ref h.2.2.1 :: r, h1)
      | _ => none)
    | _ => none)
  | .anewarray k => (match st with
    | .int n :: r => if n < 0 then none else (match ax_new (ax_own m) k with
      | some c => (ax_mkA h (if c = 17 then 24 else 30 + c) n.toNatClampNeg .null).map fun h1 => (pc + 3, ls, .ref h.2.2.1 :: r, h1)
      | none => none)
    | _ => none)
  | .multianewarray k d => (match st with
    | .int w :: .int n :: r => if n < 0 ∨ w < 0 ∨ ¬ d = 2 ∨ ax_mna (ax_own m) k = false then none else (ax_mkM h n.toNatClampNeg w.toNatClampNeg).map fun h1 => (pc + 4, ls, .ref h.2.2.1 :: r, h1)
    | _ => none)
  | _ => none
/-- what a method returns -/
def ax_retv (m : Nat) (i : Instr) (st : List Value) : Option (Option Value) := match i with
  | .ireturn => (match st with
    | [.int v] => if ax_ret m = some .int ∨ (ax_ret m = some .boolean ∧ (v = 0 ∨ v = 1)) ∨ (ax_ret m = some .char ∧ v.toUInt32.toUInt16.toUInt32.toInt32 = v) ∨ (ax_ret m = some .byte ∧ v.toInt8.toInt32 = v) then some (some (.int v)) else none
    | _ => none)
  | .lreturn => (match st with
    | [.long v] => if ax_ret m = some .long then some (some (.long v)) else none
    | _ => none)
  | .areturn => (match st with
    | [v] => if ax_kd v = 2 then (match ax_ret m with
      | some (.object _) => some (some v)
      | some (.array _) => some (some v)
      | _ => none) else none
    | _ => none)
  | .return_ => (match st with
    | [] => if ax_ret m = none then some none else none
    | _ => none)
  | _ => none
/-- a call: which method, its arguments, what is left on the stack -/
def ax_callv (ph : Bool) (m : Nat) (i : Instr) (st : List Value) (h : AH) : Option (Option Nat × List Value × List Value) := match i with
  | .invokevirtual k => (match ax_cal (ax_own m) k with
    | some (0, q, n) => (match st.drop n with
      | .ref a :: r => if (st.take n).length = n ∧ ax_wt r ≤ 8 ∧ (ax_ty h a).1 = ax_own q ∧ ax_own q < 14 ∧ ax_ok ph h a = true then some (some q, .ref a :: (st.take n).reverse, r) else none
      | _ => none)
    | _ => none)
  | .invokestatic k => (match ax_cal (ax_own m) k with
    | some (1, q, n) => if (st.take n).length = n ∧ ax_wt (st.drop n) ≤ 8 then some (some q, (st.take n).reverse, st.drop n) else none
    | some (10, q, n) => if (st.take n).length = n ∧ ax_wt (st.drop n) ≤ 8 then some (some q, (st.take n).reverse, st.drop n) else none
    | _ => none)
  | .invokespecial k => (match ax_cal (ax_own m) k with
    | some (2, q, n) => (match st.drop n with
      | .ref a :: r => if (st.take n).length = n ∧ ax_wt r ≤ 8 ∧ 64 ≤ a then some (some q, .ref a :: (st.take n).reverse, r) else none
      | _ => none)
    | some (3, q, n) => (match st.drop n with
      | .ref a :: r => if (st.take n).length = n ∧ ax_wt r ≤ 8 ∧ 64 ≤ a then some (some q, .ref a :: (st.take n).reverse, r) else none
      | _ => none)
    | some (4, _, _) => (match st with
      | .ref a :: r => if ax_wt r ≤ 8 ∧ 64 ≤ a then some (none, [], r) else none
      | _ => none)
    | _ => none)
  | _ => none
/-- the run: fuel, how many calls deep it may still go, the method, the place, locals, stack, heap -/
def ax_ex (ph : Bool) : Nat → Nat → Nat → Nat → List Value → List Value → AH → Option (Option Value × AH)
  | 0, _, _, _, _, _, _ => none
  | f + 1, d, m, pc, ls, st, h => match decode (ax_code m) pc with
    | .error _ => none
    | .ok (i, len) => match ax_step ph m i pc ls st h with
      | some (pc1, ls1, st1, h1) => if len = ax_len i ∨ ax_tsw i = true then ax_ex ph f d m pc1 ls1 st1 h1 else none
      | none => match ax_retv m i st with
        | some r => if len = ax_len i then some (r, h) else none
        | none => match ax_callv ph m i st h with
          | some (none, _, r) => if len = 3 then ax_ex ph f d m (pc + 3) ls r h else none
          | some (some q, as, r) => if len = 3 ∧ (ax_ent0 as).length ≤ ax_L q then (match d with
            | 0 => none
            | d1 + 1 => match ax_ex ph f d1 q 0 (ax_ent as (ax_L q)) [] h with
              | some (v, h1) => ax_ex ph f d m (pc + 3) ls (v.toList ++ r) h1
              | none => none) else none
          | none => none
/-- it comes to this end -/
def XX (ph : Bool) (d m pc : Nat) (ls st : List Value) (h : AH) (R : Option Value × AH) : Prop := ∃ f, ax_ex ph f d m pc ls st h = some R
end
section
/-! THE SMALL MACHINE AND THE REAL ONE: what a state of the small one says of a state of the real one -/
/-- a reference of the small machine in the real one: constants where they lie; the program's own behind each other -/
def ax_adr (base : Nat) (av : Nat → Value) (k : Nat) : Value := if k < 64 then av k else .ref (base + (k - 64))
def ax_cv (base : Nat) (av : Nat → Value) : Value → Value
  | .ref k => ax_adr base av k
  | v => v
def ax_nm (o : Nat) : String := ax_cn.getD o ""
/-- of an array's class the element -/
def ax_aty (c : Nat) : Option FieldType := if c = 20 then some .int else if c = 21 then some .long else if c = 24 then some (.array .int) else if c = 30 then some (.object RX0) else if c = 35 then some (.object RX6) else if c = 36 then some (.object RX7) else if c = 39 then some (.object RX10) else none
def ax_ev (c : Nat) (v : Value) : Value := if c = 20 then .int (toI v) else if c = 21 then .long (toL v) else if c = 22 then .int (toI v) else toR v
def ax_cty (Ls k : Nat) : Nat × Nat := if k = 48 then (20, Ls) else ax_ctyL.getD k (99, 0)
def ax_cc (xs : Nat → Int32) (k j : Nat) : Value := if k = 48 then .int (xs j) else (ax_ccL.getD k []).getD j .null
def ax_cel (c : Nat) : FieldType := if c = 20 then .int else if c = 22 then .byte else .object "VeiledTable$Kind"
def ax_A (base : Nat) : Nat → Prop := fun q => base ≤ q
/-- the constants, in the heap at the law's start -/
def ax_CK (base : Nat) (av : Nat → Value) (Hs : Heap) (Ls : Nat) (xs : Nat → Int32) (U : State) : Prop :=
  (∀ k, k < 49 → (ax_cty Ls k).1 < 14 → ∃ a, av k = .ref a ∧ va_O (ax_nm (ax_cty Ls k).1) a (ax_A base) U Hs ∧ ∀ j, j < ax_nf (ax_cty Ls k).1 → va_OF (ax_fT (ax_cty Ls k).1 j).1 (ax_fT (ax_cty Ls k).1 j).2.1 (ax_fT (ax_cty Ls k).1 j).2.2.1 (ax_cv base av (ax_tv (ax_fc (ax_cty Ls k).1 j) (ax_cc xs k j))) a (ax_A base) U Hs) ∧
  (∀ k, k < 49 → 20 ≤ (ax_cty Ls k).1 → (ax_cty Ls k).1 ≠ 99 → ∃ a, av k = .ref a ∧ va_T (ax_cel (ax_cty Ls k).1) a (ax_cty Ls k).2 (fun j => ax_cv base av (ax_ev (ax_cty Ls k).1 (ax_cc xs k j))) (ax_A base) U Hs) ∧
  (∀ i j, i < 8 → j < 8 → av i = av j → i = j) ∧
  (∃ r, av 9 = va_rf r) ∧
  (∀ q ∈ ax_stT, ∀ n, ax_stN.lookup q.1 = some n → va_Z n.1 n.2.1 n.2.2 (ax_cv base av q.2) (ax_A base) U Hs) ∧
  (∀ q ∈ ax_ldT, ∀ k, q.2 = .ref k → ∃ a tx, av k = .ref a ∧ vk_R (ax_nm q.1.1) q.1.2 tx a U)
/-- words that hold as they are, but are no 'good' ones -/
def ax_AOA (U : State) : Prop := (Cond.arrayOver (.array .int)).before #[] U = true
theorem ax_AOA.moved {u U : State} (hvm : u.vm.Alike U.vm) (h : ax_AOA u) : ax_AOA U := by
  obtain ⟨comp, c, k, h1, h2, h3, h4, h5⟩ := arrayOver_specB h
  obtain ⟨k', hk', he⟩ := hvm.2.2 _ _ h3
  have hi : (U.vm.classes.findIdx? fun (x : Class) => match x.kind with | .array component _ => component == comp | _ => false) = some c := by
    have e3 : U.vm.bare = u.vm.bare := by first | exact hvm.bare_eq | exact hvm.bare_eq.symm
    have e1 := va_idx_bare U.vm comp
    rw [e3] at e1
    exact e1.symm.trans ((va_idx_bare u.vm comp).trans h2)
  have hkind : k'.kind = .array comp (.array .int) := by rw [he]; exact h4
  have f1 : U.vm.findClass (FieldType.array .int).toString = some comp := by rw [hvm.findClass]; exact h1
  have f2 : U.vm.findClass ("[" ++ (FieldType.array .int).toString) = some c := by rw [hvm.findClass]; exact h5
  unfold ax_AOA Cond.before Cond.holds
  simp only [Cond.value]
  rw [f1, Option.bind_some]
  refine (congrArg (fun o : Option Nat => (o.bind (fun c => (U.vm.classes[c]?).map fun (k : Class) => match k.kind with | .array _ ty => decide (ty = FieldType.array .int) && decide (U.vm.findClass ("[" ++ (FieldType.array .int).toString) = some c) | _ => false) == some true)) hi).trans ?_
  simp [hk', hkind, f2]
def ax_aoL : List String := [RX0, RX6, RX7, RX10]
def ax_host (o : Nat) : String := if o = 11 ∨ o = 18 then "VeiledTableLaw" else "VeiledTable"
def ax_NW (U : State) : Prop := (∀ C ∈ ax_aoL, va_AO C U) ∧ ax_AOA U ∧ va_Nw (.castable "[I" "java/lang/Cloneable") U ∧ ∀ q ∈ ax_caT, q.2.1 = 3 ∨ q.2.1 = 10 → va_Nw (.methodLinkNest (ax_nm q.1.1) q.1.2 (ax_y q.2.2.1) (ax_host q.1.1)) U
theorem ax_NW.warm {u U : State} (hW : u.WarmedH U.vm) (h : ax_NW u) : ax_NW U := ⟨fun C hC => (h.1 C hC).moved hW.alike, h.2.1.moved hW.alike, va_Nw.warmC hW h.2.2.1, fun q hq hk => va_Nw.warmM hW (h.2.2.2 q hq hk)⟩
theorem ax_NW.same {u U : State} (hv : U.vm = u.vm) (h : ax_NW u) : ax_NW U := by
  have hA : u.vm.Alike U.vm := by rw [hv]; exact Vm.Alike.refl u.vm
  exact ⟨fun C hC => (h.1 C hC).moved hA, h.2.1.moved hA, va_tabs rfl hv.symm h.2.2.1, fun q hq hk => va_tabs rfl hv.symm (h.2.2.2 q hq hk)⟩
def ax_KC (base : Nat) (av : Nat → Value) (D : va_G) (cA : Nat → ClassId) (Hs : Heap) (Ls : Nat) (xs : Nat → Int32) (U : State) : Prop :=
  (∀ (c : Nat) (q : vw_C), ax_cl[c]? = some q → u_Kn U q.1 q.2.1 q.2.2 (D.1 c) (D.2 c)) ∧ (∀ (c : Nat) (ty : FieldType), ax_aty c = some ty → ArrOfT U (cA c) ty ∧ va_RA U (cA c) ty) ∧ True ∧ ax_NW U ∧ ax_CK base av Hs Ls xs U
/-- one cell of the program's own -/
def ax_at (base : Nat) (av : Nat → Value) (D : va_G) (cA : Nat → ClassId) (h : AH) (k : Nat) (H : Heap) : Prop :=
  ((ax_ty h k).1 < 12 → t_OB (base + (k - 64)) (D.1 (ax_ty h k).1) (ax_nf (ax_ty h k).1) (D.2 (ax_ty h k).1) H (fun j => ax_cv base av (ax_tv (ax_fc (ax_ty h k).1 j) (h.1 k j)))) ∧
  (20 ≤ (ax_ty h k).1 → H[base + (k - 64)]? = some (arrV (cA (ax_ty h k).1) (ax_ty h k).2 (fun j => ax_cv base av (ax_ev (ax_ty h k).1 (h.1 k j)))))
/-- the real heap holds the small one -/
def ax_Rep (base : Nat) (av : Nat → Value) (D : va_G) (cA : Nat → ClassId) (Hs : Heap) (Ls : Nat) (xs : Nat → Int32) (ph : Bool) (h : AH) (H : Heap) : Prop :=
  Hs.size = base ∧ 64 ≤ h.2.2.1 ∧ H.size + 64 = base + h.2.2.1 ∧ (∀ q, q < base → H[q]? = Hs[q]?) ∧ (∀ k, 64 ≤ k → k < h.2.2.1 → ax_at base av D cA h k H) ∧ (∀ k, 168 ≤ k → k < h.2.2.1 → ax_dok (h.2.1 k)) ∧ (∀ j, h.1 48 j = .int (xs j)) ∧ h.2.2.2.2 = Ls ∧ (ph = true → 168 ≤ h.2.2.1) ∧ (ph = true → ∀ a j q, 64 ≤ a → (ax_cfL.getD (a - 64) []).getD j none = some q → h.1 a j = .ref q)
/-- the locals -/
def ax_Lr (base : Nat) (av : Nat → Value) (ls : List Value) (cls : Array Slot) : Prop := cls.size = ls.length ∧ lv_wf cls ∧ ∀ (i : Nat) (v : Value), ls[i]? = some v → ax_kd v ≠ 3 → cls[i]? = some (.val (ax_cv base av v))
/-- the method that runs -/
def ax_Cx (base : Nat) (av : Nat → Value) (D : va_G) (cA : Nat → ClassId) (Hs : Heap) (Ls : Nat) (xs : Nat → Int32) (p : Program) (s : State) (mth : MethodId) (args : Array Value) (meth : Method) (c : Code) (m : Nat) : Prop :=
  p.tables.exec = Jvm.exec ∧ c.code = ax_code m ∧ c.maxLocals = ax_L m ∧ s.vm.findClass (ax_nm (ax_own m)) = some mth.cls ∧ (∀ w ∈ lw_tbl, goodWord w = true → w.before args s = true) ∧ meth.name = (ax_y m).name ∧ ax_KC base av D cA Hs Ls xs s
-- moved states
theorem ax_CK.warm {base : Nat} {av : Nat → Value} {Hs : Heap} {Ls : Nat} {xs : Nat → Int32} {u U : State} (hW : u.WarmedH U.vm) (h : ax_CK base av Hs Ls xs u) : ax_CK base av Hs Ls xs U := by
  obtain ⟨h1, h2, h3, h4, h5, h6⟩ := h
  refine ⟨fun k hk hc => ?_, fun k hk hc hc2 => ?_, h3, h4, fun q hq n hn => va_Z.moved hW.alike (h5 q hq n hn), fun q hq k hk => ?_⟩
  · obtain ⟨a, e, o, f⟩ := h1 k hk hc
    exact ⟨a, e, va_O.moved hW.alike o, fun j hj => va_OF.moved hW.alike (f j hj)⟩
  · obtain ⟨a, e, t⟩ := h2 k hk hc hc2
    exact ⟨a, e, va_T.moved hW.alike t⟩
  · obtain ⟨a, tx, e, r⟩ := h6 q hq k hk
    exact ⟨a, tx, e, vk_R.warm hW r⟩
theorem ax_KC.warm {base : Nat} {av : Nat → Value} {D : va_G} {cA : Nat → ClassId} {Hs : Heap} {Ls : Nat} {xs : Nat → Int32} {u U : State} (hW : u.WarmedH U.vm) (h : ax_KC base av D cA Hs Ls xs u) : ax_KC base av D cA Hs Ls xs U :=
  ⟨fun c q hq => u_Kn_moved hW.alike (h.1 c q hq), fun c ty hc => ⟨arrOfT_moved hW.alike (h.2.1 c ty hc).1, (h.2.1 c ty hc).2.moved hW.alike⟩, trivial, h.2.2.2.1.warm hW, ax_CK.warm hW h.2.2.2.2⟩
theorem ax_KC.same {base : Nat} {av : Nat → Value} {D : va_G} {cA : Nat → ClassId} {Hs : Heap} {Ls : Nat} {xs : Nat → Int32} {u U : State} (hv : U.vm = u.vm) (h : ax_KC base av D cA Hs Ls xs u) : ax_KC base av D cA Hs Ls xs U := by
  have hA : u.vm.Alike U.vm := by rw [hv]; exact Vm.Alike.refl u.vm
  obtain ⟨h1, h2, h3, h4, c1, c2, c3, c4, c5, c6⟩ := h
  refine ⟨fun c q hq => u_Kn_moved hA (h1 c q hq), fun c ty hc => ⟨arrOfT_moved hA (h2 c ty hc).1, (h2 c ty hc).2.moved hA⟩, trivial, h4.same hv, fun k hk hc => ?_, fun k hk hc hc2 => ?_, c3, c4, fun q hq n hn => va_Z.moved hA (c5 q hq n hn), fun q hq k hk => ?_⟩
  · obtain ⟨a, e, o, f⟩ := c1 k hk hc
    exact ⟨a, e, va_O.moved hA o, fun j hj => va_OF.moved hA (f j hj)⟩
  · obtain ⟨a, e, t⟩ := c2 k hk hc hc2
    exact ⟨a, e, va_T.moved hA t⟩
  · obtain ⟨a, tx, e, r⟩ := c6 q hq k hk
    exact ⟨a, tx, e, vk_R.same hv r⟩
-- values
theorem ax_kd_int {v : Value} (h : ax_kd v = 0) : ∃ x, v = .int x := by cases v <;> first | exact ⟨_, rfl⟩ | (simp [ax_kd] at h)
theorem ax_kd_long {v : Value} (h : ax_kd v = 1) : ∃ x, v = .long x := by cases v <;> first | exact ⟨_, rfl⟩ | (simp [ax_kd] at h)
theorem ax_kd_ref {v : Value} (h : ax_kd v = 2) : v = .null ∨ ∃ x, v = .ref x := by cases v <;> first | exact Or.inl rfl | exact Or.inr ⟨_, rfl⟩ | (simp [ax_kd] at h)
theorem ax_kd_double {v : Value} (h : ax_kd v = 4) : ∃ x, v = .double x := by cases v <;> first | exact ⟨_, rfl⟩ | (simp [ax_kd] at h)
theorem ax_isL_cat {v : Value} (h : ax_isL v = true) : v.category = 2 := by cases v <;> first | rfl | (simp [ax_isL] at h)
theorem ax_nL_cat {v : Value} (h : ax_isL v = false) : v.category = 1 := by cases v <;> first | rfl | (simp [ax_isL] at h)
/-- the constants that may stand on a stack are references or null in the real machine -/
def ax_vok (av : Nat → Value) : Prop := ∀ k, k < 64 → ∃ r, av k = va_rf r
theorem ax_cv_rf {base : Nat} {av : Nat → Value} (hv : ax_vok av) {v : Value} (h : ax_kd v = 2) : ∃ r, ax_cv base av v = va_rf r := by
  rcases ax_kd_ref h with rfl | ⟨x, rfl⟩
  · exact ⟨none, rfl⟩
  · show ∃ r, ax_adr base av x = va_rf r
    unfold ax_adr
    by_cases hx : x < 64
    · rw [if_pos hx]; exact hv x hx
    · rw [if_neg hx]; exact ⟨some _, rfl⟩
theorem ax_cv_cat {base : Nat} {av : Nat → Value} (hv : ax_vok av) (v : Value) : (ax_cv base av v).category = if ax_isL v then 2 else 1 := by
  cases v <;> try rfl
  rename_i k
  obtain ⟨r, hr⟩ := ax_cv_rf (base := base) hv (v := .ref k) rfl
  rw [hr]
  cases r <;> rfl
theorem ax_wt_le {base : Nat} {av : Nat → Value} (hv : ax_vok av) (st : List Value) : ((st.map (ax_cv base av)).map fun v => v.category).sum = ax_wt st := by
  unfold ax_wt
  rw [List.map_map]
  congr 1
  apply List.map_congr_left
  intro v _
  exact ax_cv_cat hv v
-- locals
theorem ax_getD {ls : List Value} {n : Nat} (h : ax_kd (ls.getD n ax_junk) ≠ 3) : ls[n]? = some (ls.getD n ax_junk) := by
  rw [List.getD_eq_getElem?_getD] at h ⊢
  cases hx : ls[n]? with
  | none => rw [hx] at h; exact absurd rfl h
  | some v => rfl
theorem ax_lod_inv {c : Nat} {ls : List Value} {n : Nat} {v : Value} (h : ax_lod c ls n = some v) (hc : c ≠ 3) : ls[n]? = some v ∧ ax_kd v = c := by
  unfold ax_lod at h
  split at h
  · rename_i hk
    cases h
    exact ⟨ax_getD (by rw [hk]; exact hc), hk⟩
  · cases h
/-- the listed locals, as the kit's rows want them -/
def ax_ll_of (base : Nat) (av : Nat → Value) (ls : List Value) : List (Nat × Value) := (List.range ls.length).filterMap fun i => if ax_kd (ls.getD i ax_junk) = 3 then none else some (i, ax_cv base av (ls.getD i ax_junk))
theorem ax_Lr_has {base : Nat} {av : Nat → Value} {ls : List Value} {cls : Array Slot} (h : ax_Lr base av ls cls) : lv_has cls ls.length (ax_ll_of base av ls) := by
  refine ⟨h.1, h.2.1, fun q hq => ?_⟩
  obtain ⟨i, hi, he⟩ := List.mem_filterMap.mp hq
  split at he
  · cases he
  · rename_i hk
    cases he
    exact h.2.2 i _ (ax_getD hk) hk
theorem ax_ll_mem {base : Nat} {av : Nat → Value} {ls : List Value} {i : Nat} {v : Value} (h : ls[i]? = some v) (hk : ax_kd v ≠ 3) : (i, ax_cv base av v) ∈ ax_ll_of base av ls := by
  refine List.mem_filterMap.mpr ⟨i, List.mem_range.mpr (List.getElem?_eq_some_iff.mp h).1, ?_⟩
  have e : ls.getD i ax_junk = v := by rw [List.getD_eq_getElem?_getD, h]; rfl
  rw [e, if_neg hk]
theorem ax_put_len (ls : List Value) (i : Nat) (v : Value) : (ax_put ls i v).length = ls.length := by
  unfold ax_put
  dsimp only
  split <;> split <;> (try split) <;> simp
/-- what stands in the locals behind a store -/
theorem ax_put_get {ls : List Value} {i j : Nat} {v w : Value} (h : (ax_put ls i v)[j]? = some w) (hk : ax_kd w ≠ 3) : (j = i ∧ w = v) ∨ (j ≠ i ∧ ls[j]? = some w ∧ (j + 1 = i → ax_isL w = false) ∧ (ax_isL v = true → j ≠ i + 1)) := by
  unfold ax_put at h
  dsimp only at h
  have hj : ∀ l : List Value, (l.set (i + 1) ax_junk)[j]? = some w → j ≠ i + 1 ∧ l[j]? = some w := by
    intro l hl
    by_cases e : j = i + 1
    · subst e
      rw [List.getElem?_set] at hl
      split at hl
      · split at hl
        · cases hl; exact absurd rfl hk
        · cases hl
      · rename_i q; exact absurd rfl q
    · rw [List.getElem?_set_ne (fun q => e q.symm)] at hl
      exact ⟨e, hl⟩
  have hp : ∀ l : List Value, l = (if i = 0 then ls else if ax_isL (ls.getD (i - 1) ax_junk) = true then ls.set (i - 1) ax_junk else ls) → (l.set i v)[j]? = some w → (j = i ∧ w = v) ∨ (j ≠ i ∧ ls[j]? = some w ∧ (j + 1 = i → ax_isL w = false)) := by
    intro l hl h
    by_cases e : j = i
    · subst e
      rw [List.getElem?_set] at h
      rw [if_pos rfl] at h
      split at h
      · cases h; exact Or.inl ⟨rfl, rfl⟩
      · cases h
    · rw [List.getElem?_set_ne (fun q => e q.symm)] at h
      refine Or.inr ⟨e, ?_⟩
      subst hl
      split at h
      · rename_i h0
        exact ⟨h, fun q => by omega⟩
      · split at h
        · rename_i h0 h1
          by_cases e2 : j = i - 1
          · subst e2
            rw [List.getElem?_set] at h
            rw [if_pos rfl] at h
            split at h
            · cases h; exact absurd rfl hk
            · cases h
          · rw [List.getElem?_set_ne (fun q => e2 q.symm)] at h
            exact ⟨h, fun q => by omega⟩
        · rename_i h0 h1
          refine ⟨h, fun q => ?_⟩
          have e3 : i - 1 = j := by omega
          rw [e3, List.getD_eq_getElem?_getD, h] at h1
          simpa using h1
  split at h
  · rename_i hL
    obtain ⟨e, h⟩ := hj _ h
    rcases hp _ rfl h with q | ⟨q1, q2, q3⟩
    · exact Or.inl q
    · exact Or.inr ⟨q1, q2, q3, fun _ => e⟩
  · rename_i hL
    rcases hp _ rfl h with q | ⟨q1, q2, q3⟩
    · exact Or.inl q
    · exact Or.inr ⟨q1, q2, q3, fun z => absurd z hL⟩
theorem ax_put1 {base : Nat} {av : Nat → Value} (hv : ax_vok av) {ls : List Value} {i : Nat} {v : Value} {cls : Array Slot} (hL : ax_isL v = false) (h : lv_has cls ls.length ((i, ax_cv base av v) :: (ax_ll_of base av ls).filter (fun q => !(q.1 == i) && !(q.1 + 1 == i && q.2.category == 2)))) : ax_Lr base av (ax_put ls i v) cls := by
  refine ⟨by rw [ax_put_len]; exact h.1, h.2.1, fun j w hj hk => ?_⟩
  rcases ax_put_get hj hk with ⟨rfl, rfl⟩ | ⟨h1, h2, h3, h4⟩
  · exact h.2.2 (j, _) List.mem_cons_self
  · refine h.2.2 (j, _) (List.mem_cons_of_mem _ (List.mem_filter.mpr ⟨ax_ll_mem h2 hk, ?_⟩))
    have e1 : (j == i) = false := by simpa using h1
    by_cases e2 : j + 1 = i
    · have e4 : ((ax_cv base av w).category == 2) = false := by rw [ax_cv_cat hv, h3 e2]; rfl
      show (!(j == i) && !(j + 1 == i && (ax_cv base av w).category == 2)) = true
      rw [e1, e4]
      simp
    · have e5 : (j + 1 == i) = false := by simpa using e2
      show (!(j == i) && !(j + 1 == i && (ax_cv base av w).category == 2)) = true
      rw [e1, e5]
      simp
theorem ax_put2 {base : Nat} {av : Nat → Value} (hv : ax_vok av) {ls : List Value} {i : Nat} {v : Value} {cls : Array Slot} (hL : ax_isL v = true) (h : lv_has cls ls.length ((i, ax_cv base av v) :: (ax_ll_of base av ls).filter (fun q => !(q.1 == i) && (!(q.1 == i + 1) && !(q.1 + 1 == i && q.2.category == 2))))) : ax_Lr base av (ax_put ls i v) cls := by
  refine ⟨by rw [ax_put_len]; exact h.1, h.2.1, fun j w hj hk => ?_⟩
  rcases ax_put_get hj hk with ⟨rfl, rfl⟩ | ⟨h1, h2, h3, h4⟩
  · exact h.2.2 (j, _) List.mem_cons_self
  · refine h.2.2 (j, _) (List.mem_cons_of_mem _ (List.mem_filter.mpr ⟨ax_ll_mem h2 hk, ?_⟩))
    have e1 : (j == i) = false := by simpa using h1
    have e3 : (j == i + 1) = false := by simpa using h4 hL
    by_cases e2 : j + 1 = i
    · have e4 : ((ax_cv base av w).category == 2) = false := by rw [ax_cv_cat hv, h3 e2]; rfl
      show (!(j == i) && (!(j == i + 1) && !(j + 1 == i && (ax_cv base av w).category == 2))) = true
      rw [e1, e3, e4]
      simp
    · have e5 : (j + 1 == i) = false := by simpa using e2
      show (!(j == i) && (!(j == i + 1) && !(j + 1 == i && (ax_cv base av w).category == 2))) = true
      rw [e1, e3, e5]
      simp
-- stacks
theorem ax_ii_inv {st r1 : List Value} {f : Int32 → Int32 → Option Value} (h : ax_ii st f = some r1) : ∃ x y r v, st = .int y :: .int x :: r ∧ f x y = some v ∧ r1 = v :: r := by
  unfold ax_ii at h
  split at h
  · obtain ⟨v, h1, h2⟩ := Option.map_eq_some_iff.mp h
    exact ⟨_, _, _, v, rfl, h1, h2.symm⟩
  · cases h
theorem ax_ll_inv {st r1 : List Value} {f : Int64 → Int64 → Option Value} (h : ax_ll st f = some r1) : ∃ x y r v, st = .long y :: .long x :: r ∧ f x y = some v ∧ r1 = v :: r := by
  unfold ax_ll at h
  split at h
  · obtain ⟨v, h1, h2⟩ := Option.map_eq_some_iff.mp h
    exact ⟨_, _, _, v, rfl, h1, h2.symm⟩
  · cases h
theorem ax_dd_inv {st r1 : List Value} {f : UInt64 → UInt64 → Option Value} (h : ax_dd st f = some r1) : ∃ x y r v, st = .double y :: .double x :: r ∧ f x y = some v ∧ r1 = v :: r := by
  unfold ax_dd at h
  split at h
  · obtain ⟨v, h1, h2⟩ := Option.map_eq_some_iff.mp h
    exact ⟨_, _, _, v, rfl, h1, h2.symm⟩
  · cases h
theorem ax_li_inv {st r1 : List Value} {f : Int64 → Int32 → Option Value} (h : ax_li st f = some r1) : ∃ x y r v, st = .int y :: .long x :: r ∧ f x y = some v ∧ r1 = v :: r := by
  unfold ax_li at h
  split at h
  · obtain ⟨v, h1, h2⟩ := Option.map_eq_some_iff.mp h
    exact ⟨_, _, _, v, rfl, h1, h2.symm⟩
  · cases h
theorem ax_i_inv {st r1 : List Value} {f : Int32 → Value} (h : ax_i st f = some r1) : ∃ x r, st = .int x :: r ∧ r1 = f x :: r := by
  unfold ax_i at h
  split at h
  · cases h; exact ⟨_, _, rfl, rfl⟩
  · cases h
theorem ax_l_inv {st r1 : List Value} {f : Int64 → Value} (h : ax_l st f = some r1) : ∃ x r, st = .long x :: r ∧ r1 = f x :: r := by
  unfold ax_l at h
  split at h
  · cases h; exact ⟨_, _, rfl, rfl⟩
  · cases h
theorem ax_tg_inv {pc t : Nat} {off : Int} (h : ax_tg pc off = some t) : (pc : Int) + off = (t : Int) := by
  unfold ax_tg at h
  split at h
  · rename_i h0
    cases h
    exact (Int.toNat_of_nonneg h0).symm
  · cases h
theorem ax_sto_inv {c m n : Nat} {ls st : List Value} {q : List Value × List Value} (h : ax_sto c m ls st n = some q) : ∃ v r, st = v :: r ∧ ax_kd v = c ∧ (if c = 1 ∨ c = 4 then n + 1 else n) < ls.length ∧ ls.length = ax_L m ∧ q = (ax_put ls n v, r) := by
  cases st with
  | nil => cases h
  | cons v r =>
    have h' : (if ax_kd v = c ∧ (if c = 1 ∨ c = 4 then n + 1 else n) < ls.length ∧ ls.length = ax_L m then some (ax_put ls n v, r) else none) = some q := h
    by_cases hh : ax_kd v = c ∧ (if c = 1 ∨ c = 4 then n + 1 else n) < ls.length ∧ ls.length = ax_L m
    · rw [if_pos hh] at h'
      exact ⟨_, _, rfl, hh.1, hh.2.1, hh.2.2, (Option.some.inj h').symm⟩
    · rw [if_neg hh] at h'
      exact absurd h' (by simp)
theorem ax_uws_good {C : String} {T : u_T} {N : Nat} : ∀ w ∈ u_ws C T N, goodWord w = true := by
  intro w hw
  obtain ⟨k, -, rfl⟩ := List.mem_map.mp hw
  unfold u_lay
  split <;> rfl
end
section
/-! ONE INSTRUCTION: of the small machine, and of the real one -/
section AxA
variable {base : Nat} {av : Nat → Value} {D : va_G} {cA : Nat → ClassId} {Hs : Heap} {Ls : Nat} {xs : Nat → Int32} {ph : Bool}
variable {p : Program} {l : Launch} {e : Env} {R : Room} {s : State} {mth : MethodId} {args : Array Value} {below : List Frame} {meth : Method} {c : Code} {H : Heap} {locs : List Loc} {cells slots : Nat} {Q : State → Prop} {m pc : Nat} {cls : Array Slot}
/-- the goal at a place of the method -/
def ax_W (base : Nat) (av : Nat → Value) (p : Program) (l : Launch) (e : Env) (R : Room) (s : State) (mth : MethodId) (args : Array Value) (below : List Frame) (meth : Method) (c : Code) (H : Heap) (locs : List Loc) (cells slots : Nat) (Q : State → Prop) (pc : Nat) (cls : Array Slot) (st : List Value) : Prop := W p l e R s mth args below meth c H locs cells slots Q (F0 mth pc cls (st.map (ax_cv base av)))
/-- an instruction that leaves the heap alone -/
def ax_nh (i : Instr) : Bool := match i with
  | .getfield _ => false | .putfield _ => false | .getstatic _ => false | .arraylength => false | .iaload => false | .baload => false | .laload => false | .aaload => false | .iastore => false | .lastore => false | .aastore => false
  | .new _ => false | .newarray _ => false | .anewarray _ => false | .multianewarray _ _ => false | .ldc _ => false | .ldc_w _ => false | .ldc2_w _ => false | .invokevirtual _ => false
  | _ => true
theorem ax_s_iload (hx : p.tables.exec = Jvm.exec) (hb : c.code = ax_code m) (hv : ax_vok av) {n : Nat} {ls st ls1 st1 : List Value} {h h1 : AH} {pc1 : Nat} (hs : ax_step ph m (.iload n) pc ls st h = some (pc1, ls1, st1, h1)) (hd : decode (ax_code m) pc = .ok (.iload n, 2)) (hl : ax_Lr base av ls cls) (K : ∀ cls1, ax_Lr base av ls1 cls1 → ax_W base av p l e R s mth args below meth c H locs cells slots Q pc1 cls1 st1) : ax_W base av p l e R s mth args below meth c H locs cells slots Q pc cls st := by
  obtain ⟨v, hv1, e1⟩ := Option.map_eq_some_iff.mp hs
  cases e1
  obtain ⟨h3, h4⟩ := ax_lod_inv hv1 (by decide)
  have h5 := hl.2.2 _ _ h3 (by rw [h4]; decide)
  have K1 := K cls hl
  obtain ⟨x, rfl⟩ := ax_kd_int h4
  exact lv_iload hx hb hd h5 K1
theorem ax_s_iload_n (hx : p.tables.exec = Jvm.exec) (hb : c.code = ax_code m) (hv : ax_vok av) {n : Fin 4} {ls st ls1 st1 : List Value} {h h1 : AH} {pc1 : Nat} (hs : ax_step ph m (.iload_n n) pc ls st h = some (pc1, ls1, st1, h1)) (hd : decode (ax_code m) pc = .ok (.iload_n n, 1)) (hl : ax_Lr base av ls cls) (K : ∀ cls1, ax_Lr base av ls1 cls1 → ax_W base av p l e R s mth args below meth c H locs cells slots Q pc1 cls1 st1) : ax_W base av p l e R s mth args below meth c H locs cells slots Q pc cls st := by
  obtain ⟨v, hv1, e1⟩ := Option.map_eq_some_iff.mp hs
  cases e1
  obtain ⟨h3, h4⟩ := ax_lod_inv hv1 (by decide)
  have h5 := hl.2.2 _ _ h3 (by rw [h4]; decide)
  have K1 := K cls hl
  obtain ⟨x, rfl⟩ := ax_kd_int h4
  exact lv_iload_n hx hb hd rfl h5 K1
theorem ax_s_lload (hx : p.tables.exec = Jvm.exec) (hb : c.code = ax_code m) (hv : ax_vok av) {n : Nat} {ls st ls1 st1 : List Value} {h h1 : AH} {pc1 : Nat} (hs : ax_step ph m (.lload n) pc ls st h = some (pc1, ls1, st1, h1)) (hd : decode (ax_code m) pc = .ok (.lload n, 2)) (hl : ax_Lr base av ls cls) (K : ∀ cls1, ax_Lr base av ls1 cls1 → ax_W base av p l e R s mth args below meth c H locs cells slots Q pc1 cls1 st1) : ax_W base av p l e R s mth args below meth c H locs cells slots Q pc cls st := by
  obtain ⟨v, hv1, e1⟩ := Option.map_eq_some_iff.mp hs
  cases e1
  obtain ⟨h3, h4⟩ := ax_lod_inv hv1 (by decide)
  have h5 := hl.2.2 _ _ h3 (by rw [h4]; decide)
  have K1 := K cls hl
  obtain ⟨x, rfl⟩ := ax_kd_long h4
  exact lv_lload hx hb hd h5 K1
theorem ax_s_lload_n (hx : p.tables.exec = Jvm.exec) (hb : c.code = ax_code m) (hv : ax_vok av) {n : Fin 4} {ls st ls1 st1 : List Value} {h h1 : AH} {pc1 : Nat} (hs : ax_step ph m (.lload_n n) pc ls st h = some (pc1, ls1, st1, h1)) (hd : decode (ax_code m) pc = .ok (.lload_n n, 1)) (hl : ax_Lr base av ls cls) (K : ∀ cls1, ax_Lr base av ls1 cls1 → ax_W base av p l e R s mth args below meth c H locs cells slots Q pc1 cls1 st1) : ax_W base av p l e R s mth args below meth c H locs cells slots Q pc cls st := by
  obtain ⟨v, hv1, e1⟩ := Option.map_eq_some_iff.mp hs
  cases e1
  obtain ⟨h3, h4⟩ := ax_lod_inv hv1 (by decide)
  have h5 := hl.2.2 _ _ h3 (by rw [h4]; decide)
  have K1 := K cls hl
  obtain ⟨x, rfl⟩ := ax_kd_long h4
  exact lv_lload_n hx hb hd rfl h5 K1
theorem ax_s_aload (hx : p.tables.exec = Jvm.exec) (hb : c.code = ax_code m) (hv : ax_vok av) {n : Nat} {ls st ls1 st1 : List Value} {h h1 : AH} {pc1 : Nat} (hs : ax_step ph m (.aload n) pc ls st h = some (pc1, ls1, st1, h1)) (hd : decode (ax_code m) pc = .ok (.aload n, 2)) (hl : ax_Lr base av ls cls) (K : ∀ cls1, ax_Lr base av ls1 cls1 → ax_W base av p l e R s mth args below meth c H locs cells slots Q pc1 cls1 st1) : ax_W base av p l e R s mth args below meth c H locs cells slots Q pc cls st := by
  obtain ⟨v, hv1, e1⟩ := Option.map_eq_some_iff.mp hs
  cases e1
  obtain ⟨h3, h4⟩ := ax_lod_inv hv1 (by decide)
  have h5 := hl.2.2 _ _ h3 (by rw [h4]; decide)
  have K1 := K cls hl
  obtain ⟨r, hr⟩ := ax_cv_rf (base := base) hv h4
  unfold ax_W at K1 ⊢
  rw [List.map_cons, hr] at K1
  rw [hr] at h5
  cases r with
  | none => exact lv_aloadN hx hb hd h5 K1
  | some a => exact lv_aload hx hb hd h5 K1
theorem ax_s_aload_n (hx : p.tables.exec = Jvm.exec) (hb : c.code = ax_code m) (hv : ax_vok av) {n : Fin 4} {ls st ls1 st1 : List Value} {h h1 : AH} {pc1 : Nat} (hs : ax_step ph m (.aload_n n) pc ls st h = some (pc1, ls1, st1, h1)) (hd : decode (ax_code m) pc = .ok (.aload_n n, 1)) (hl : ax_Lr base av ls cls) (K : ∀ cls1, ax_Lr base av ls1 cls1 → ax_W base av p l e R s mth args below meth c H locs cells slots Q pc1 cls1 st1) : ax_W base av p l e R s mth args below meth c H locs cells slots Q pc cls st := by
  obtain ⟨v, hv1, e1⟩ := Option.map_eq_some_iff.mp hs
  cases e1
  obtain ⟨h3, h4⟩ := ax_lod_inv hv1 (by decide)
  have h5 := hl.2.2 _ _ h3 (by rw [h4]; decide)
  have K1 := K cls hl
  obtain ⟨r, hr⟩ := ax_cv_rf (base := base) hv h4
  unfold ax_W at K1 ⊢
  rw [List.map_cons, hr] at K1
  rw [hr] at h5
  cases r with
  | none => exact lv_aload_nN hx hb hd rfl h5 K1
  | some a => exact lv_aload_n hx hb hd rfl h5 K1
theorem ax_s_dload (hx : p.tables.exec = Jvm.exec) (hb : c.code = ax_code m) (hv : ax_vok av) {n : Nat} {ls st ls1 st1 : List Value} {h h1 : AH} {pc1 : Nat} (hs : ax_step ph m (.dload n) pc ls st h = some (pc1, ls1, st1, h1)) (hd : decode (ax_code m) pc = .ok (.dload n, 2)) (hl : ax_Lr base av ls cls) (K : ∀ cls1, ax_Lr base av ls1 cls1 → ax_W base av p l e R s mth args below meth c H locs cells slots Q pc1 cls1 st1) : ax_W base av p l e R s mth args below meth c H locs cells slots Q pc cls st := by
  obtain ⟨v, hv1, e1⟩ := Option.map_eq_some_iff.mp hs
  cases e1
  obtain ⟨h3, h4⟩ := ax_lod_inv hv1 (by decide)
  have h5 := hl.2.2 _ _ h3 (by rw [h4]; decide)
  have K1 := K cls hl
  obtain ⟨x, rfl⟩ := ax_kd_double h4
  exact lv_dload hx hb hd h5 K1
theorem ax_s_dload_n (hx : p.tables.exec = Jvm.exec) (hb : c.code = ax_code m) (hv : ax_vok av) {n : Fin 4} {ls st ls1 st1 : List Value} {h h1 : AH} {pc1 : Nat} (hs : ax_step ph m (.dload_n n) pc ls st h = some (pc1, ls1, st1, h1)) (hd : decode (ax_code m) pc = .ok (.dload_n n, 1)) (hl : ax_Lr base av ls cls) (K : ∀ cls1, ax_Lr base av ls1 cls1 → ax_W base av p l e R s mth args below meth c H locs cells slots Q pc1 cls1 st1) : ax_W base av p l e R s mth args below meth c H locs cells slots Q pc cls st := by
  obtain ⟨v, hv1, e1⟩ := Option.map_eq_some_iff.mp hs
  cases e1
  obtain ⟨h3, h4⟩ := ax_lod_inv hv1 (by decide)
  have h5 := hl.2.2 _ _ h3 (by rw [h4]; decide)
  have K1 := K cls hl
  obtain ⟨x, rfl⟩ := ax_kd_double h4
  exact lv_dload_n hx hb hd rfl h5 K1
theorem ax_s_istore (hx : p.tables.exec = Jvm.exec) (hb : c.code = ax_code m) (hv : ax_vok av) {n : Nat} {ls st ls1 st1 : List Value} {h h1 : AH} {pc1 : Nat} (hs : ax_step ph m (.istore n) pc ls st h = some (pc1, ls1, st1, h1)) (hd : decode (ax_code m) pc = .ok (.istore n, 2)) (hl : ax_Lr base av ls cls) (K : ∀ cls1, ax_Lr base av ls1 cls1 → ax_W base av p l e R s mth args below meth c H locs cells slots Q pc1 cls1 st1) : ax_W base av p l e R s mth args below meth c H locs cells slots Q pc cls st := by
  obtain ⟨q, hq, e1⟩ := Option.map_eq_some_iff.mp hs
  cases e1
  obtain ⟨v, r, rfl, h4, h5, h6, rfl⟩ := ax_sto_inv hq
  have h7 := ax_Lr_has hl
  obtain ⟨x, rfl⟩ := ax_kd_int h4
  exact lv_istore hx hb hd h7 h5 rfl fun cls1 hl1 => K cls1 (ax_put1 (v := .int x) hv rfl hl1)
theorem ax_s_istore_n (hx : p.tables.exec = Jvm.exec) (hb : c.code = ax_code m) (hv : ax_vok av) {n : Fin 4} {ls st ls1 st1 : List Value} {h h1 : AH} {pc1 : Nat} (hs : ax_step ph m (.istore_n n) pc ls st h = some (pc1, ls1, st1, h1)) (hd : decode (ax_code m) pc = .ok (.istore_n n, 1)) (hl : ax_Lr base av ls cls) (K : ∀ cls1, ax_Lr base av ls1 cls1 → ax_W base av p l e R s mth args below meth c H locs cells slots Q pc1 cls1 st1) : ax_W base av p l e R s mth args below meth c H locs cells slots Q pc cls st := by
  obtain ⟨q, hq, e1⟩ := Option.map_eq_some_iff.mp hs
  cases e1
  obtain ⟨v, r, rfl, h4, h5, h6, rfl⟩ := ax_sto_inv hq
  have h7 := ax_Lr_has hl
  obtain ⟨x, rfl⟩ := ax_kd_int h4
  exact lv_istore_n hx hb hd rfl h7 h5 rfl fun cls1 hl1 => K cls1 (ax_put1 (v := .int x) hv rfl hl1)
theorem ax_s_lstore (hx : p.tables.exec = Jvm.exec) (hb : c.code = ax_code m) (hv : ax_vok av) {n : Nat} {ls st ls1 st1 : List Value} {h h1 : AH} {pc1 : Nat} (hs : ax_step ph m (.lstore n) pc ls st h = some (pc1, ls1, st1, h1)) (hd : decode (ax_code m) pc = .ok (.lstore n, 2)) (hl : ax_Lr base av ls cls) (K : ∀ cls1, ax_Lr base av ls1 cls1 → ax_W base av p l e R s mth args below meth c H locs cells slots Q pc1 cls1 st1) : ax_W base av p l e R s mth args below meth c H locs cells slots Q pc cls st := by
  obtain ⟨q, hq, e1⟩ := Option.map_eq_some_iff.mp hs
  cases e1
  obtain ⟨v, r, rfl, h4, h5, h6, rfl⟩ := ax_sto_inv hq
  have h7 := ax_Lr_has hl
  obtain ⟨x, rfl⟩ := ax_kd_long h4
  exact lv_lstore hx hb hd h7 h5 rfl fun cls1 hl1 => K cls1 (ax_put2 (v := .long x) hv rfl hl1)
theorem ax_s_lstore_n (hx : p.tables.exec = Jvm.exec) (hb : c.code = ax_code m) (hv : ax_vok av) {n : Fin 4} {ls st ls1 st1 : List Value} {h h1 : AH} {pc1 : Nat} (hs : ax_step ph m (.lstore_n n) pc ls st h = some (pc1, ls1, st1, h1)) (hd : decode (ax_code m) pc = .ok (.lstore_n n, 1)) (hl : ax_Lr base av ls cls) (K : ∀ cls1, ax_Lr base av ls1 cls1 → ax_W base av p l e R s mth args below meth c H locs cells slots Q pc1 cls1 st1) : ax_W base av p l e R s mth args below meth c H locs cells slots Q pc cls st := by
  obtain ⟨q, hq, e1⟩ := Option.map_eq_some_iff.mp hs
  cases e1
  obtain ⟨v, r, rfl, h4, h5, h6, rfl⟩ := ax_sto_inv hq
  have h7 := ax_Lr_has hl
  obtain ⟨x, rfl⟩ := ax_kd_long h4
  exact lv_lstore_n hx hb hd rfl h7 h5 rfl fun cls1 hl1 => K cls1 (ax_put2 (v := .long x) hv rfl hl1)
theorem ax_s_astore (hx : p.tables.exec = Jvm.exec) (hb : c.code = ax_code m) (hv : ax_vok av) {n : Nat} {ls st ls1 st1 : List Value} {h h1 : AH} {pc1 : Nat} (hs : ax_step ph m (.astore n) pc ls st h = some (pc1, ls1, st1, h1)) (hd : decode (ax_code m) pc = .ok (.astore n, 2)) (hl : ax_Lr base av ls cls) (K : ∀ cls1, ax_Lr base av ls1 cls1 → ax_W base av p l e R s mth args below meth c H locs cells slots Q pc1 cls1 st1) : ax_W base av p l e R s mth args below meth c H locs cells slots Q pc cls st := by
  obtain ⟨q, hq, e1⟩ := Option.map_eq_some_iff.mp hs
  cases e1
  obtain ⟨v, r, rfl, h4, h5, h6, rfl⟩ := ax_sto_inv hq
  have h7 := ax_Lr_has hl
  have hL : ax_isL v = false := by rcases ax_kd_ref h4 with rfl | ⟨z, rfl⟩ <;> rfl
  have K1 := fun cls1 hl1 => K cls1 (ax_put1 hv (v := v) hL hl1)
  obtain ⟨r1, hr⟩ := ax_cv_rf (base := base) hv h4
  unfold ax_W at K1 ⊢
  rw [List.map_cons, hr]
  rw [hr] at K1
  cases r1 with
  | none => exact lv_astoreN hx hb hd h7 h5 rfl K1
  | some a => exact lv_astore hx hb hd h7 h5 rfl K1
theorem ax_s_astore_n (hx : p.tables.exec = Jvm.exec) (hb : c.code = ax_code m) (hv : ax_vok av) {n : Fin 4} {ls st ls1 st1 : List Value} {h h1 : AH} {pc1 : Nat} (hs : ax_step ph m (.astore_n n) pc ls st h = some (pc1, ls1, st1, h1)) (hd : decode (ax_code m) pc = .ok (.astore_n n, 1)) (hl : ax_Lr base av ls cls) (K : ∀ cls1, ax_Lr base av ls1 cls1 → ax_W base av p l e R s mth args below meth c H locs cells slots Q pc1 cls1 st1) : ax_W base av p l e R s mth args below meth c H locs cells slots Q pc cls st := by
  obtain ⟨q, hq, e1⟩ := Option.map_eq_some_iff.mp hs
  cases e1
  obtain ⟨v, r, rfl, h4, h5, h6, rfl⟩ := ax_sto_inv hq
  have h7 := ax_Lr_has hl
  have hL : ax_isL v = false := by rcases ax_kd_ref h4 with rfl | ⟨z, rfl⟩ <;> rfl
  have K1 := fun cls1 hl1 => K cls1 (ax_put1 hv (v := v) hL hl1)
  obtain ⟨r1, hr⟩ := ax_cv_rf (base := base) hv h4
  unfold ax_W at K1 ⊢
  rw [List.map_cons, hr]
  rw [hr] at K1
  cases r1 with
  | none => exact lv_astore_nN hx hb hd rfl h7 h5 rfl K1
  | some a => exact lv_astore_n hx hb hd rfl h7 h5 rfl K1
theorem ax_s_dstore (hx : p.tables.exec = Jvm.exec) (hb : c.code = ax_code m) (hv : ax_vok av) {n : Nat} {ls st ls1 st1 : List Value} {h h1 : AH} {pc1 : Nat} (hs : ax_step ph m (.dstore n) pc ls st h = some (pc1, ls1, st1, h1)) (hd : decode (ax_code m) pc = .ok (.dstore n, 2)) (hl : ax_Lr base av ls cls) (K : ∀ cls1, ax_Lr base av ls1 cls1 → ax_W base av p l e R s mth args below meth c H locs cells slots Q pc1 cls1 st1) : ax_W base av p l e R s mth args below meth c H locs cells slots Q pc cls st := by
  obtain ⟨q, hq, e1⟩ := Option.map_eq_some_iff.mp hs
  cases e1
  obtain ⟨v, r, rfl, h4, h5, h6, rfl⟩ := ax_sto_inv hq
  have h7 := ax_Lr_has hl
  obtain ⟨x, rfl⟩ := ax_kd_double h4
  exact lv_dstore hx hb hd h7 h5 rfl fun cls1 hl1 => K cls1 (ax_put2 (v := .double x) hv rfl hl1)
theorem ax_s_dstore_n (hx : p.tables.exec = Jvm.exec) (hb : c.code = ax_code m) (hv : ax_vok av) {n : Fin 4} {ls st ls1 st1 : List Value} {h h1 : AH} {pc1 : Nat} (hs : ax_step ph m (.dstore_n n) pc ls st h = some (pc1, ls1, st1, h1)) (hd : decode (ax_code m) pc = .ok (.dstore_n n, 1)) (hl : ax_Lr base av ls cls) (K : ∀ cls1, ax_Lr base av ls1 cls1 → ax_W base av p l e R s mth args below meth c H locs cells slots Q pc1 cls1 st1) : ax_W base av p l e R s mth args below meth c H locs cells slots Q pc cls st := by
  obtain ⟨q, hq, e1⟩ := Option.map_eq_some_iff.mp hs
  cases e1
  obtain ⟨v, r, rfl, h4, h5, h6, rfl⟩ := ax_sto_inv hq
  have h7 := ax_Lr_has hl
  obtain ⟨x, rfl⟩ := ax_kd_double h4
  exact lv_dstore_n hx hb hd rfl h7 h5 rfl fun cls1 hl1 => K cls1 (ax_put2 (v := .double x) hv rfl hl1)
theorem ax_s_iinc {n : Nat} {k : Int} (hx : p.tables.exec = Jvm.exec) (hb : c.code = ax_code m) (hv : ax_vok av) {ls st ls1 st1 : List Value} {h h1 : AH} {pc1 : Nat} (hs : ax_step ph m (.iinc n k) pc ls st h = some (pc1, ls1, st1, h1)) (hd : decode (ax_code m) pc = .ok (.iinc n k, 3)) (hl : ax_Lr base av ls cls) (K : ∀ cls1, ax_Lr base av ls1 cls1 → ax_W base av p l e R s mth args below meth c H locs cells slots Q pc1 cls1 st1) : ax_W base av p l e R s mth args below meth c H locs cells slots Q pc cls st := by
  have hs1 : (match ls.getD n ax_junk with
    | .int x => if n < ls.length ∧ ls.length = ax_L m then some (pc + 3, ax_put ls n (.int (x + Int32.ofInt k)), st, h) else none
    | _ => none) = some (pc1, ls1, st1, h1) := hs
  split at hs1
  · rename_i x hx1
    split at hs1
    · rename_i h0
      cases hs1
      have h3 : ls[n]? = some (.int x) := by rw [← hx1]; exact ax_getD (by rw [hx1]; exact fun q => by cases q)
      have h4 : (n, Value.int x) ∈ ax_ll_of base av ls := ax_ll_mem (base := base) (av := av) h3 (fun q => by cases q)
      obtain ⟨k0, hk0⟩ := List.getElem?_of_mem h4
      exact lv_iinc (k := k0) (v := x + Int32.ofInt k) hx hb hd (ax_Lr_has hl) hk0 rfl h0.1 rfl fun cls1 hl1 => K cls1 (ax_put1 hv (v := .int (x + Int32.ofInt k)) rfl hl1)
    · cases hs1
  · cases hs1
theorem ax_s_iconst {n : Int} (hx : p.tables.exec = Jvm.exec) (hb : c.code = ax_code m) (hv : ax_vok av) {ls st ls1 st1 : List Value} {h h1 : AH} {pc1 : Nat} (hs : ax_step ph m (.iconst n) pc ls st h = some (pc1, ls1, st1, h1)) (hd : decode (ax_code m) pc = .ok (.iconst n, 1)) (hl : ax_Lr base av ls cls) (K : ∀ cls1, ax_Lr base av ls1 cls1 → ax_W base av p l e R s mth args below meth c H locs cells slots Q pc1 cls1 st1) : ax_W base av p l e R s mth args below meth c H locs cells slots Q pc cls st := by
  cases hs
  exact lv_iconst hx hb hd rfl (K cls hl)
theorem ax_s_bipush {n : Int} (hx : p.tables.exec = Jvm.exec) (hb : c.code = ax_code m) (hv : ax_vok av) {ls st ls1 st1 : List Value} {h h1 : AH} {pc1 : Nat} (hs : ax_step ph m (.bipush n) pc ls st h = some (pc1, ls1, st1, h1)) (hd : decode (ax_code m) pc = .ok (.bipush n, 2)) (hl : ax_Lr base av ls cls) (K : ∀ cls1, ax_Lr base av ls1 cls1 → ax_W base av p l e R s mth args below meth c H locs cells slots Q pc1 cls1 st1) : ax_W base av p l e R s mth args below meth c H locs cells slots Q pc cls st := by
  cases hs
  exact lv_bipush hx hb hd rfl (K cls hl)
theorem ax_s_sipush {n : Int} (hx : p.tables.exec = Jvm.exec) (hb : c.code = ax_code m) (hv : ax_vok av) {ls st ls1 st1 : List Value} {h h1 : AH} {pc1 : Nat} (hs : ax_step ph m (.sipush n) pc ls st h = some (pc1, ls1, st1, h1)) (hd : decode (ax_code m) pc = .ok (.sipush n, 3)) (hl : ax_Lr base av ls cls) (K : ∀ cls1, ax_Lr base av ls1 cls1 → ax_W base av p l e R s mth args below meth c H locs cells slots Q pc1 cls1 st1) : ax_W base av p l e R s mth args below meth c H locs cells slots Q pc cls st := by
  cases hs
  exact lv_sipush hx hb hd rfl (K cls hl)
theorem ax_s_lconst {n : Fin 2} (hx : p.tables.exec = Jvm.exec) (hb : c.code = ax_code m) (hv : ax_vok av) {ls st ls1 st1 : List Value} {h h1 : AH} {pc1 : Nat} (hs : ax_step ph m (.lconst n) pc ls st h = some (pc1, ls1, st1, h1)) (hd : decode (ax_code m) pc = .ok (.lconst n, 1)) (hl : ax_Lr base av ls cls) (K : ∀ cls1, ax_Lr base av ls1 cls1 → ax_W base av p l e R s mth args below meth c H locs cells slots Q pc1 cls1 st1) : ax_W base av p l e R s mth args below meth c H locs cells slots Q pc cls st := by
  cases hs
  exact lv_lconst hx hb hd rfl (K cls hl)
theorem ax_s_null (hx : p.tables.exec = Jvm.exec) (hb : c.code = ax_code m) (hv : ax_vok av) {ls st ls1 st1 : List Value} {h h1 : AH} {pc1 : Nat} (hs : ax_step ph m .aconst_null pc ls st h = some (pc1, ls1, st1, h1)) (hd : decode (ax_code m) pc = .ok (.aconst_null, 1)) (hl : ax_Lr base av ls cls) (K : ∀ cls1, ax_Lr base av ls1 cls1 → ax_W base av p l e R s mth args below meth c H locs cells slots Q pc1 cls1 st1) : ax_W base av p l e R s mth args below meth c H locs cells slots Q pc cls st := by
  cases hs
  exact lv_null hx hb hd (K cls hl)
theorem ax_s_dconst {k : Fin 2} (hx : p.tables.exec = Jvm.exec) (hb : c.code = ax_code m) (hv : ax_vok av) {ls st ls1 st1 : List Value} {h h1 : AH} {pc1 : Nat} (hs : ax_step ph m (.dconst k) pc ls st h = some (pc1, ls1, st1, h1)) (hd : decode (ax_code m) pc = .ok (.dconst k, 1)) (hl : ax_Lr base av ls cls) (K : ∀ cls1, ax_Lr base av ls1 cls1 → ax_W base av p l e R s mth args below meth c H locs cells slots Q pc1 cls1 st1) : ax_W base av p l e R s mth args below meth c H locs cells slots Q pc cls st := by
  have hs1 : (if k.val = 0 then some (pc + 1, ls, Value.double 0 :: st, h) else none) = some (pc1, ls1, st1, h1) := hs
  split at hs1
  · rename_i h0
    cases hs1
    have hk : k = 0 := Fin.ext h0
    subst hk
    exact lv_dconst0 hx hb hd (K cls hl)
  · cases hs1
theorem ax_s_ddiv (hx : p.tables.exec = Jvm.exec) (hb : c.code = ax_code m) (hv : ax_vok av) {ls st ls1 st1 : List Value} {h h1 : AH} {pc1 : Nat} (hs : ax_step ph m .ddiv pc ls st h = some (pc1, ls1, st1, h1)) (hd : decode (ax_code m) pc = .ok (.ddiv, 1)) (hl : ax_Lr base av ls cls) (K : ∀ cls1, ax_Lr base av ls1 cls1 → ax_W base av p l e R s mth args below meth c H locs cells slots Q pc1 cls1 st1) : ax_W base av p l e R s mth args below meth c H locs cells slots Q pc cls st := by
  obtain ⟨r1, hr, e1⟩ := Option.map_eq_some_iff.mp hs
  cases e1
  obtain ⟨x, y, r, v, rfl, h2, rfl⟩ := ax_dd_inv hr
  split at h2
  · rename_i h0
    cases h2
    exact lv_ddiv hx hb hd h0 (K cls hl)
  · cases h2
theorem ax_s_dadd (hx : p.tables.exec = Jvm.exec) (hb : c.code = ax_code m) (hv : ax_vok av) {ls st ls1 st1 : List Value} {h h1 : AH} {pc1 : Nat} (hs : ax_step ph m .dadd pc ls st h = some (pc1, ls1, st1, h1)) (hd : decode (ax_code m) pc = .ok (.dadd, 1)) (hl : ax_Lr base av ls cls) (K : ∀ cls1, ax_Lr base av ls1 cls1 → ax_W base av p l e R s mth args below meth c H locs cells slots Q pc1 cls1 st1) : ax_W base av p l e R s mth args below meth c H locs cells slots Q pc cls st := by
  obtain ⟨r1, hr, e1⟩ := Option.map_eq_some_iff.mp hs
  cases e1
  obtain ⟨x, y, r, v, rfl, h2, rfl⟩ := ax_dd_inv hr
  split at h2
  · rename_i h0
    cases h2
    exact lv_dadd hx hb hd h0 (K cls hl)
  · cases h2
theorem ax_s_dsub (hx : p.tables.exec = Jvm.exec) (hb : c.code = ax_code m) (hv : ax_vok av) {ls st ls1 st1 : List Value} {h h1 : AH} {pc1 : Nat} (hs : ax_step ph m .dsub pc ls st h = some (pc1, ls1, st1, h1)) (hd : decode (ax_code m) pc = .ok (.dsub, 1)) (hl : ax_Lr base av ls cls) (K : ∀ cls1, ax_Lr base av ls1 cls1 → ax_W base av p l e R s mth args below meth c H locs cells slots Q pc1 cls1 st1) : ax_W base av p l e R s mth args below meth c H locs cells slots Q pc cls st := by
  obtain ⟨r1, hr, e1⟩ := Option.map_eq_some_iff.mp hs
  cases e1
  obtain ⟨x, y, r, v, rfl, h2, rfl⟩ := ax_dd_inv hr
  split at h2
  · rename_i h0
    cases h2
    exact lv_dsub hx hb hd h0 (K cls hl)
  · cases h2
theorem ax_s_dcmp {op : CmpOp} (hx : p.tables.exec = Jvm.exec) (hb : c.code = ax_code m) (hv : ax_vok av) {ls st ls1 st1 : List Value} {h h1 : AH} {pc1 : Nat} (hs : ax_step ph m (.dcmp op) pc ls st h = some (pc1, ls1, st1, h1)) (hd : decode (ax_code m) pc = .ok (.dcmp op, 1)) (hl : ax_Lr base av ls cls) (K : ∀ cls1, ax_Lr base av ls1 cls1 → ax_W base av p l e R s mth args below meth c H locs cells slots Q pc1 cls1 st1) : ax_W base av p l e R s mth args below meth c H locs cells slots Q pc cls st := by
  obtain ⟨r1, hr, e1⟩ := Option.map_eq_some_iff.mp hs
  cases e1
  obtain ⟨x, y, r, v, rfl, h2, rfl⟩ := ax_dd_inv hr
  cases h2
  exact lv_dcmp hx hb hd (K cls hl)
theorem ax_s_iadd (hx : p.tables.exec = Jvm.exec) (hb : c.code = ax_code m) (hv : ax_vok av) {ls st ls1 st1 : List Value} {h h1 : AH} {pc1 : Nat} (hs : ax_step ph m .iadd pc ls st h = some (pc1, ls1, st1, h1)) (hd : decode (ax_code m) pc = .ok (.iadd, 1)) (hl : ax_Lr base av ls cls) (K : ∀ cls1, ax_Lr base av ls1 cls1 → ax_W base av p l e R s mth args below meth c H locs cells slots Q pc1 cls1 st1) : ax_W base av p l e R s mth args below meth c H locs cells slots Q pc cls st := by
  obtain ⟨r1, hr, e1⟩ := Option.map_eq_some_iff.mp hs
  cases e1
  obtain ⟨x, y, r, v, rfl, h2, rfl⟩ := ax_ii_inv hr
  cases h2
  exact lv_iadd hx hb hd (K cls hl)
theorem ax_s_isub (hx : p.tables.exec = Jvm.exec) (hb : c.code = ax_code m) (hv : ax_vok av) {ls st ls1 st1 : List Value} {h h1 : AH} {pc1 : Nat} (hs : ax_step ph m .isub pc ls st h = some (pc1, ls1, st1, h1)) (hd : decode (ax_code m) pc = .ok (.isub, 1)) (hl : ax_Lr base av ls cls) (K : ∀ cls1, ax_Lr base av ls1 cls1 → ax_W base av p l e R s mth args below meth c H locs cells slots Q pc1 cls1 st1) : ax_W base av p l e R s mth args below meth c H locs cells slots Q pc cls st := by
  obtain ⟨r1, hr, e1⟩ := Option.map_eq_some_iff.mp hs
  cases e1
  obtain ⟨x, y, r, v, rfl, h2, rfl⟩ := ax_ii_inv hr
  cases h2
  exact lv_isub hx hb hd (K cls hl)
theorem ax_s_imul (hx : p.tables.exec = Jvm.exec) (hb : c.code = ax_code m) (hv : ax_vok av) {ls st ls1 st1 : List Value} {h h1 : AH} {pc1 : Nat} (hs : ax_step ph m .imul pc ls st h = some (pc1, ls1, st1, h1)) (hd : decode (ax_code m) pc = .ok (.imul, 1)) (hl : ax_Lr base av ls cls) (K : ∀ cls1, ax_Lr base av ls1 cls1 → ax_W base av p l e R s mth args below meth c H locs cells slots Q pc1 cls1 st1) : ax_W base av p l e R s mth args below meth c H locs cells slots Q pc cls st := by
  obtain ⟨r1, hr, e1⟩ := Option.map_eq_some_iff.mp hs
  cases e1
  obtain ⟨x, y, r, v, rfl, h2, rfl⟩ := ax_ii_inv hr
  cases h2
  exact lv_imul hx hb hd (K cls hl)
theorem ax_s_iand (hx : p.tables.exec = Jvm.exec) (hb : c.code = ax_code m) (hv : ax_vok av) {ls st ls1 st1 : List Value} {h h1 : AH} {pc1 : Nat} (hs : ax_step ph m .iand pc ls st h = some (pc1, ls1, st1, h1)) (hd : decode (ax_code m) pc = .ok (.iand, 1)) (hl : ax_Lr base av ls cls) (K : ∀ cls1, ax_Lr base av ls1 cls1 → ax_W base av p l e R s mth args below meth c H locs cells slots Q pc1 cls1 st1) : ax_W base av p l e R s mth args below meth c H locs cells slots Q pc cls st := by
  obtain ⟨r1, hr, e1⟩ := Option.map_eq_some_iff.mp hs
  cases e1
  obtain ⟨x, y, r, v, rfl, h2, rfl⟩ := ax_ii_inv hr
  cases h2
  exact lv_iand hx hb hd (K cls hl)
theorem ax_s_ior (hx : p.tables.exec = Jvm.exec) (hb : c.code = ax_code m) (hv : ax_vok av) {ls st ls1 st1 : List Value} {h h1 : AH} {pc1 : Nat} (hs : ax_step ph m .ior pc ls st h = some (pc1, ls1, st1, h1)) (hd : decode (ax_code m) pc = .ok (.ior, 1)) (hl : ax_Lr base av ls cls) (K : ∀ cls1, ax_Lr base av ls1 cls1 → ax_W base av p l e R s mth args below meth c H locs cells slots Q pc1 cls1 st1) : ax_W base av p l e R s mth args below meth c H locs cells slots Q pc cls st := by
  obtain ⟨r1, hr, e1⟩ := Option.map_eq_some_iff.mp hs
  cases e1
  obtain ⟨x, y, r, v, rfl, h2, rfl⟩ := ax_ii_inv hr
  cases h2
  exact lv_ior hx hb hd (K cls hl)
theorem ax_s_ixor (hx : p.tables.exec = Jvm.exec) (hb : c.code = ax_code m) (hv : ax_vok av) {ls st ls1 st1 : List Value} {h h1 : AH} {pc1 : Nat} (hs : ax_step ph m .ixor pc ls st h = some (pc1, ls1, st1, h1)) (hd : decode (ax_code m) pc = .ok (.ixor, 1)) (hl : ax_Lr base av ls cls) (K : ∀ cls1, ax_Lr base av ls1 cls1 → ax_W base av p l e R s mth args below meth c H locs cells slots Q pc1 cls1 st1) : ax_W base av p l e R s mth args below meth c H locs cells slots Q pc cls st := by
  obtain ⟨r1, hr, e1⟩ := Option.map_eq_some_iff.mp hs
  cases e1
  obtain ⟨x, y, r, v, rfl, h2, rfl⟩ := ax_ii_inv hr
  cases h2
  exact lv_ixor hx hb hd (K cls hl)
theorem ax_s_idiv (hx : p.tables.exec = Jvm.exec) (hb : c.code = ax_code m) (hv : ax_vok av) {ls st ls1 st1 : List Value} {h h1 : AH} {pc1 : Nat} (hs : ax_step ph m .idiv pc ls st h = some (pc1, ls1, st1, h1)) (hd : decode (ax_code m) pc = .ok (.idiv, 1)) (hl : ax_Lr base av ls cls) (K : ∀ cls1, ax_Lr base av ls1 cls1 → ax_W base av p l e R s mth args below meth c H locs cells slots Q pc1 cls1 st1) : ax_W base av p l e R s mth args below meth c H locs cells slots Q pc cls st := by
  obtain ⟨r1, hr, e1⟩ := Option.map_eq_some_iff.mp hs
  cases e1
  obtain ⟨x, y, r, v, rfl, h2, rfl⟩ := ax_ii_inv hr
  split at h2
  · cases h2
  · rename_i h0
    cases h2
    exact lv_idiv hx hb hd h0 (K cls hl)
theorem ax_s_irem (hx : p.tables.exec = Jvm.exec) (hb : c.code = ax_code m) (hv : ax_vok av) {ls st ls1 st1 : List Value} {h h1 : AH} {pc1 : Nat} (hs : ax_step ph m .irem pc ls st h = some (pc1, ls1, st1, h1)) (hd : decode (ax_code m) pc = .ok (.irem, 1)) (hl : ax_Lr base av ls cls) (K : ∀ cls1, ax_Lr base av ls1 cls1 → ax_W base av p l e R s mth args below meth c H locs cells slots Q pc1 cls1 st1) : ax_W base av p l e R s mth args below meth c H locs cells slots Q pc cls st := by
  obtain ⟨r1, hr, e1⟩ := Option.map_eq_some_iff.mp hs
  cases e1
  obtain ⟨x, y, r, v, rfl, h2, rfl⟩ := ax_ii_inv hr
  split at h2
  · cases h2
  · rename_i h0
    cases h2
    exact lv_irem hx hb hd h0 (K cls hl)
theorem ax_s_ishl (hx : p.tables.exec = Jvm.exec) (hb : c.code = ax_code m) (hv : ax_vok av) {ls st ls1 st1 : List Value} {h h1 : AH} {pc1 : Nat} (hs : ax_step ph m .ishl pc ls st h = some (pc1, ls1, st1, h1)) (hd : decode (ax_code m) pc = .ok (.ishl, 1)) (hl : ax_Lr base av ls cls) (K : ∀ cls1, ax_Lr base av ls1 cls1 → ax_W base av p l e R s mth args below meth c H locs cells slots Q pc1 cls1 st1) : ax_W base av p l e R s mth args below meth c H locs cells slots Q pc cls st := by
  obtain ⟨r1, hr, e1⟩ := Option.map_eq_some_iff.mp hs
  cases e1
  obtain ⟨x, y, r, v, rfl, h2, rfl⟩ := ax_ii_inv hr
  cases h2
  exact lv_ishl hx hb hd (K cls hl)
theorem ax_s_ishr (hx : p.tables.exec = Jvm.exec) (hb : c.code = ax_code m) (hv : ax_vok av) {ls st ls1 st1 : List Value} {h h1 : AH} {pc1 : Nat} (hs : ax_step ph m .ishr pc ls st h = some (pc1, ls1, st1, h1)) (hd : decode (ax_code m) pc = .ok (.ishr, 1)) (hl : ax_Lr base av ls cls) (K : ∀ cls1, ax_Lr base av ls1 cls1 → ax_W base av p l e R s mth args below meth c H locs cells slots Q pc1 cls1 st1) : ax_W base av p l e R s mth args below meth c H locs cells slots Q pc cls st := by
  obtain ⟨r1, hr, e1⟩ := Option.map_eq_some_iff.mp hs
  cases e1
  obtain ⟨x, y, r, v, rfl, h2, rfl⟩ := ax_ii_inv hr
  cases h2
  exact lv_ishr hx hb hd (K cls hl)
theorem ax_s_iushr (hx : p.tables.exec = Jvm.exec) (hb : c.code = ax_code m) (hv : ax_vok av) {ls st ls1 st1 : List Value} {h h1 : AH} {pc1 : Nat} (hs : ax_step ph m .iushr pc ls st h = some (pc1, ls1, st1, h1)) (hd : decode (ax_code m) pc = .ok (.iushr, 1)) (hl : ax_Lr base av ls cls) (K : ∀ cls1, ax_Lr base av ls1 cls1 → ax_W base av p l e R s mth args below meth c H locs cells slots Q pc1 cls1 st1) : ax_W base av p l e R s mth args below meth c H locs cells slots Q pc cls st := by
  obtain ⟨r1, hr, e1⟩ := Option.map_eq_some_iff.mp hs
  cases e1
  obtain ⟨x, y, r, v, rfl, h2, rfl⟩ := ax_ii_inv hr
  cases h2
  exact lv_iushr hx hb hd rfl (K cls hl)
theorem ax_s_ladd (hx : p.tables.exec = Jvm.exec) (hb : c.code = ax_code m) (hv : ax_vok av) {ls st ls1 st1 : List Value} {h h1 : AH} {pc1 : Nat} (hs : ax_step ph m .ladd pc ls st h = some (pc1, ls1, st1, h1)) (hd : decode (ax_code m) pc = .ok (.ladd, 1)) (hl : ax_Lr base av ls cls) (K : ∀ cls1, ax_Lr base av ls1 cls1 → ax_W base av p l e R s mth args below meth c H locs cells slots Q pc1 cls1 st1) : ax_W base av p l e R s mth args below meth c H locs cells slots Q pc cls st := by
  obtain ⟨r1, hr, e1⟩ := Option.map_eq_some_iff.mp hs
  cases e1
  obtain ⟨x, y, r, v, rfl, h2, rfl⟩ := ax_ll_inv hr
  cases h2
  exact lv_ladd hx hb hd (K cls hl)
theorem ax_s_lmul (hx : p.tables.exec = Jvm.exec) (hb : c.code = ax_code m) (hv : ax_vok av) {ls st ls1 st1 : List Value} {h h1 : AH} {pc1 : Nat} (hs : ax_step ph m .lmul pc ls st h = some (pc1, ls1, st1, h1)) (hd : decode (ax_code m) pc = .ok (.lmul, 1)) (hl : ax_Lr base av ls cls) (K : ∀ cls1, ax_Lr base av ls1 cls1 → ax_W base av p l e R s mth args below meth c H locs cells slots Q pc1 cls1 st1) : ax_W base av p l e R s mth args below meth c H locs cells slots Q pc cls st := by
  obtain ⟨r1, hr, e1⟩ := Option.map_eq_some_iff.mp hs
  cases e1
  obtain ⟨x, y, r, v, rfl, h2, rfl⟩ := ax_ll_inv hr
  cases h2
  exact lv_lmul hx hb hd (K cls hl)
theorem ax_s_land (hx : p.tables.exec = Jvm.exec) (hb : c.code = ax_code m) (hv : ax_vok av) {ls st ls1 st1 : List Value} {h h1 : AH} {pc1 : Nat} (hs : ax_step ph m .land pc ls st h = some (pc1, ls1, st1, h1)) (hd : decode (ax_code m) pc = .ok (.land, 1)) (hl : ax_Lr base av ls cls) (K : ∀ cls1, ax_Lr base av ls1 cls1 → ax_W base av p l e R s mth args below meth c H locs cells slots Q pc1 cls1 st1) : ax_W base av p l e R s mth args below meth c H locs cells slots Q pc cls st := by
  obtain ⟨r1, hr, e1⟩ := Option.map_eq_some_iff.mp hs
  cases e1
  obtain ⟨x, y, r, v, rfl, h2, rfl⟩ := ax_ll_inv hr
  cases h2
  exact lv_land hx hb hd (K cls hl)
theorem ax_s_lor (hx : p.tables.exec = Jvm.exec) (hb : c.code = ax_code m) (hv : ax_vok av) {ls st ls1 st1 : List Value} {h h1 : AH} {pc1 : Nat} (hs : ax_step ph m .lor pc ls st h = some (pc1, ls1, st1, h1)) (hd : decode (ax_code m) pc = .ok (.lor, 1)) (hl : ax_Lr base av ls cls) (K : ∀ cls1, ax_Lr base av ls1 cls1 → ax_W base av p l e R s mth args below meth c H locs cells slots Q pc1 cls1 st1) : ax_W base av p l e R s mth args below meth c H locs cells slots Q pc cls st := by
  obtain ⟨r1, hr, e1⟩ := Option.map_eq_some_iff.mp hs
  cases e1
  obtain ⟨x, y, r, v, rfl, h2, rfl⟩ := ax_ll_inv hr
  cases h2
  exact lv_lor hx hb hd (K cls hl)
theorem ax_s_ldiv (hx : p.tables.exec = Jvm.exec) (hb : c.code = ax_code m) (hv : ax_vok av) {ls st ls1 st1 : List Value} {h h1 : AH} {pc1 : Nat} (hs : ax_step ph m .ldiv pc ls st h = some (pc1, ls1, st1, h1)) (hd : decode (ax_code m) pc = .ok (.ldiv, 1)) (hl : ax_Lr base av ls cls) (K : ∀ cls1, ax_Lr base av ls1 cls1 → ax_W base av p l e R s mth args below meth c H locs cells slots Q pc1 cls1 st1) : ax_W base av p l e R s mth args below meth c H locs cells slots Q pc cls st := by
  obtain ⟨r1, hr, e1⟩ := Option.map_eq_some_iff.mp hs
  cases e1
  obtain ⟨x, y, r, v, rfl, h2, rfl⟩ := ax_ll_inv hr
  split at h2
  · cases h2
  · rename_i h0
    cases h2
    exact lv_ldiv hx hb hd h0 (K cls hl)
theorem ax_s_lrem (hx : p.tables.exec = Jvm.exec) (hb : c.code = ax_code m) (hv : ax_vok av) {ls st ls1 st1 : List Value} {h h1 : AH} {pc1 : Nat} (hs : ax_step ph m .lrem pc ls st h = some (pc1, ls1, st1, h1)) (hd : decode (ax_code m) pc = .ok (.lrem, 1)) (hl : ax_Lr base av ls cls) (K : ∀ cls1, ax_Lr base av ls1 cls1 → ax_W base av p l e R s mth args below meth c H locs cells slots Q pc1 cls1 st1) : ax_W base av p l e R s mth args below meth c H locs cells slots Q pc cls st := by
  obtain ⟨r1, hr, e1⟩ := Option.map_eq_some_iff.mp hs
  cases e1
  obtain ⟨x, y, r, v, rfl, h2, rfl⟩ := ax_ll_inv hr
  split at h2
  · cases h2
  · rename_i h0
    cases h2
    exact lv_lrem hx hb hd h0 (K cls hl)
theorem ax_s_lcmp (hx : p.tables.exec = Jvm.exec) (hb : c.code = ax_code m) (hv : ax_vok av) {ls st ls1 st1 : List Value} {h h1 : AH} {pc1 : Nat} (hs : ax_step ph m .lcmp pc ls st h = some (pc1, ls1, st1, h1)) (hd : decode (ax_code m) pc = .ok (.lcmp, 1)) (hl : ax_Lr base av ls cls) (K : ∀ cls1, ax_Lr base av ls1 cls1 → ax_W base av p l e R s mth args below meth c H locs cells slots Q pc1 cls1 st1) : ax_W base av p l e R s mth args below meth c H locs cells slots Q pc cls st := by
  obtain ⟨r1, hr, e1⟩ := Option.map_eq_some_iff.mp hs
  cases e1
  obtain ⟨x, y, r, v, rfl, h2, rfl⟩ := ax_ll_inv hr
  cases h2
  exact W.lcmp hx hb hd (K cls hl)
theorem ax_s_lshl (hx : p.tables.exec = Jvm.exec) (hb : c.code = ax_code m) (hv : ax_vok av) {ls st ls1 st1 : List Value} {h h1 : AH} {pc1 : Nat} (hs : ax_step ph m .lshl pc ls st h = some (pc1, ls1, st1, h1)) (hd : decode (ax_code m) pc = .ok (.lshl, 1)) (hl : ax_Lr base av ls cls) (K : ∀ cls1, ax_Lr base av ls1 cls1 → ax_W base av p l e R s mth args below meth c H locs cells slots Q pc1 cls1 st1) : ax_W base av p l e R s mth args below meth c H locs cells slots Q pc cls st := by
  obtain ⟨r1, hr, e1⟩ := Option.map_eq_some_iff.mp hs
  cases e1
  obtain ⟨x, y, r, v, rfl, h2, rfl⟩ := ax_li_inv hr
  cases h2
  exact lv_lshl hx hb hd rfl (K cls hl)
theorem ax_s_lshr (hx : p.tables.exec = Jvm.exec) (hb : c.code = ax_code m) (hv : ax_vok av) {ls st ls1 st1 : List Value} {h h1 : AH} {pc1 : Nat} (hs : ax_step ph m .lshr pc ls st h = some (pc1, ls1, st1, h1)) (hd : decode (ax_code m) pc = .ok (.lshr, 1)) (hl : ax_Lr base av ls cls) (K : ∀ cls1, ax_Lr base av ls1 cls1 → ax_W base av p l e R s mth args below meth c H locs cells slots Q pc1 cls1 st1) : ax_W base av p l e R s mth args below meth c H locs cells slots Q pc cls st := by
  obtain ⟨r1, hr, e1⟩ := Option.map_eq_some_iff.mp hs
  cases e1
  obtain ⟨x, y, r, v, rfl, h2, rfl⟩ := ax_li_inv hr
  cases h2
  exact lv_lshr hx hb hd rfl (K cls hl)
theorem ax_s_lneg (hx : p.tables.exec = Jvm.exec) (hb : c.code = ax_code m) (hv : ax_vok av) {ls st ls1 st1 : List Value} {h h1 : AH} {pc1 : Nat} (hs : ax_step ph m .lneg pc ls st h = some (pc1, ls1, st1, h1)) (hd : decode (ax_code m) pc = .ok (.lneg, 1)) (hl : ax_Lr base av ls cls) (K : ∀ cls1, ax_Lr base av ls1 cls1 → ax_W base av p l e R s mth args below meth c H locs cells slots Q pc1 cls1 st1) : ax_W base av p l e R s mth args below meth c H locs cells slots Q pc cls st := by
  obtain ⟨r1, hr, e1⟩ := Option.map_eq_some_iff.mp hs
  cases e1
  obtain ⟨x, r, rfl, rfl⟩ := ax_l_inv hr
  exact lv_lneg hx hb hd (K cls hl)
theorem ax_s_i2l (hx : p.tables.exec = Jvm.exec) (hb : c.code = ax_code m) (hv : ax_vok av) {ls st ls1 st1 : List Value} {h h1 : AH} {pc1 : Nat} (hs : ax_step ph m .i2l pc ls st h = some (pc1, ls1, st1, h1)) (hd : decode (ax_code m) pc = .ok (.i2l, 1)) (hl : ax_Lr base av ls cls) (K : ∀ cls1, ax_Lr base av ls1 cls1 → ax_W base av p l e R s mth args below meth c H locs cells slots Q pc1 cls1 st1) : ax_W base av p l e R s mth args below meth c H locs cells slots Q pc cls st := by
  obtain ⟨r1, hr, e1⟩ := Option.map_eq_some_iff.mp hs
  cases e1
  obtain ⟨x, r, rfl, rfl⟩ := ax_i_inv hr
  exact lv_i2l hx hb hd rfl (K cls hl)
theorem ax_s_l2i (hx : p.tables.exec = Jvm.exec) (hb : c.code = ax_code m) (hv : ax_vok av) {ls st ls1 st1 : List Value} {h h1 : AH} {pc1 : Nat} (hs : ax_step ph m .l2i pc ls st h = some (pc1, ls1, st1, h1)) (hd : decode (ax_code m) pc = .ok (.l2i, 1)) (hl : ax_Lr base av ls cls) (K : ∀ cls1, ax_Lr base av ls1 cls1 → ax_W base av p l e R s mth args below meth c H locs cells slots Q pc1 cls1 st1) : ax_W base av p l e R s mth args below meth c H locs cells slots Q pc cls st := by
  obtain ⟨r1, hr, e1⟩ := Option.map_eq_some_iff.mp hs
  cases e1
  obtain ⟨x, r, rfl, rfl⟩ := ax_l_inv hr
  exact lv_l2i hx hb hd rfl (K cls hl)
theorem ax_s_l2d (hx : p.tables.exec = Jvm.exec) (hb : c.code = ax_code m) (hv : ax_vok av) {ls st ls1 st1 : List Value} {h h1 : AH} {pc1 : Nat} (hs : ax_step ph m .l2d pc ls st h = some (pc1, ls1, st1, h1)) (hd : decode (ax_code m) pc = .ok (.l2d, 1)) (hl : ax_Lr base av ls cls) (K : ∀ cls1, ax_Lr base av ls1 cls1 → ax_W base av p l e R s mth args below meth c H locs cells slots Q pc1 cls1 st1) : ax_W base av p l e R s mth args below meth c H locs cells slots Q pc cls st := by
  obtain ⟨r1, hr, e1⟩ := Option.map_eq_some_iff.mp hs
  cases e1
  obtain ⟨x, r, rfl, rfl⟩ := ax_l_inv hr
  exact lv_l2d hx hb hd (K cls hl)
theorem ax_s_i2c (hx : p.tables.exec = Jvm.exec) (hb : c.code = ax_code m) (hv : ax_vok av) {ls st ls1 st1 : List Value} {h h1 : AH} {pc1 : Nat} (hs : ax_step ph m .i2c pc ls st h = some (pc1, ls1, st1, h1)) (hd : decode (ax_code m) pc = .ok (.i2c, 1)) (hl : ax_Lr base av ls cls) (K : ∀ cls1, ax_Lr base av ls1 cls1 → ax_W base av p l e R s mth args below meth c H locs cells slots Q pc1 cls1 st1) : ax_W base av p l e R s mth args below meth c H locs cells slots Q pc cls st := by
  obtain ⟨r1, hr, e1⟩ := Option.map_eq_some_iff.mp hs
  cases e1
  obtain ⟨x, r, rfl, rfl⟩ := ax_i_inv hr
  exact lv_i2c hx hb hd rfl (K cls hl)
theorem ax_cat1 {base : Nat} {av : Nat → Value} (hv : ax_vok av) {v : Value} (h : ax_kd v = 0 ∨ ax_kd v = 2) : (ax_cv base av v).category = 1 := by
  rw [ax_cv_cat hv]
  have : ax_isL v = false := by cases v <;> first | rfl | (simp [ax_kd] at h)
  rw [this]; rfl
theorem ax_s_dup (hx : p.tables.exec = Jvm.exec) (hb : c.code = ax_code m) (hv : ax_vok av) {ls st ls1 st1 : List Value} {h h1 : AH} {pc1 : Nat} (hs : ax_step ph m .dup pc ls st h = some (pc1, ls1, st1, h1)) (hd : decode (ax_code m) pc = .ok (.dup, 1)) (hl : ax_Lr base av ls cls) (K : ∀ cls1, ax_Lr base av ls1 cls1 → ax_W base av p l e R s mth args below meth c H locs cells slots Q pc1 cls1 st1) : ax_W base av p l e R s mth args below meth c H locs cells slots Q pc cls st := by
  cases st with
  | nil => cases hs
  | cons v r =>
    have hs1 : (if ax_kd v = 0 ∨ ax_kd v = 2 then some (pc + 1, ls, v :: v :: r, h) else none) = some (pc1, ls1, st1, h1) := hs
    split at hs1
    · rename_i h0
      cases hs1
      exact lv_dup hx hb hd (ax_cat1 hv h0) (K cls hl)
    · cases hs1
theorem ax_s_pop (hx : p.tables.exec = Jvm.exec) (hb : c.code = ax_code m) (hv : ax_vok av) {ls st ls1 st1 : List Value} {h h1 : AH} {pc1 : Nat} (hs : ax_step ph m .pop pc ls st h = some (pc1, ls1, st1, h1)) (hd : decode (ax_code m) pc = .ok (.pop, 1)) (hl : ax_Lr base av ls cls) (K : ∀ cls1, ax_Lr base av ls1 cls1 → ax_W base av p l e R s mth args below meth c H locs cells slots Q pc1 cls1 st1) : ax_W base av p l e R s mth args below meth c H locs cells slots Q pc cls st := by
  cases st with
  | nil => cases hs
  | cons v r =>
    have hs1 : (if ax_kd v = 0 ∨ ax_kd v = 2 then some (pc + 1, ls, r, h) else none) = some (pc1, ls1, st1, h1) := hs
    split at hs1
    · rename_i h0
      cases hs1
      exact lv_pop hx hb hd (ax_cat1 hv h0) (K cls hl)
    · cases hs1
theorem ax_s_dup2 (hx : p.tables.exec = Jvm.exec) (hb : c.code = ax_code m) (hv : ax_vok av) {ls st ls1 st1 : List Value} {h h1 : AH} {pc1 : Nat} (hs : ax_step ph m .dup2 pc ls st h = some (pc1, ls1, st1, h1)) (hd : decode (ax_code m) pc = .ok (.dup2, 1)) (hl : ax_Lr base av ls cls) (K : ∀ cls1, ax_Lr base av ls1 cls1 → ax_W base av p l e R s mth args below meth c H locs cells slots Q pc1 cls1 st1) : ax_W base av p l e R s mth args below meth c H locs cells slots Q pc cls st := by
  rcases st with _ | ⟨v, _ | ⟨w, r⟩⟩
  · cases hs
  · cases hs
  · have hs1 : (if (ax_kd v = 0 ∨ ax_kd v = 2) ∧ (ax_kd w = 0 ∨ ax_kd w = 2) then some (pc + 1, ls, v :: w :: v :: w :: r, h) else none) = some (pc1, ls1, st1, h1) := hs
    split at hs1
    · rename_i h0
      cases hs1
      exact lv_dup2_11 hx hb hd (ax_cat1 hv h0.1) (ax_cat1 hv h0.2) (K cls hl)
    · cases hs1
theorem ax_s_dup_x1 (hx : p.tables.exec = Jvm.exec) (hb : c.code = ax_code m) (hv : ax_vok av) {ls st ls1 st1 : List Value} {h h1 : AH} {pc1 : Nat} (hs : ax_step ph m .dup_x1 pc ls st h = some (pc1, ls1, st1, h1)) (hd : decode (ax_code m) pc = .ok (.dup_x1, 1)) (hl : ax_Lr base av ls cls) (K : ∀ cls1, ax_Lr base av ls1 cls1 → ax_W base av p l e R s mth args below meth c H locs cells slots Q pc1 cls1 st1) : ax_W base av p l e R s mth args below meth c H locs cells slots Q pc cls st := by
  rcases st with _ | ⟨v, _ | ⟨w, r⟩⟩
  · cases hs
  · cases hs
  · have hs1 : (if (ax_kd v = 0 ∨ ax_kd v = 2) ∧ (ax_kd w = 0 ∨ ax_kd w = 2) then some (pc + 1, ls, v :: w :: v :: r, h) else none) = some (pc1, ls1, st1, h1) := hs
    split at hs1
    · rename_i h0
      cases hs1
      exact lv_dup_x1 hx hb hd (ax_cat1 hv h0.1) (ax_cat1 hv h0.2) (K cls hl)
    · cases hs1
theorem ax_s_goto {off : Int} (hx : p.tables.exec = Jvm.exec) (hb : c.code = ax_code m) (hv : ax_vok av) {ls st ls1 st1 : List Value} {h h1 : AH} {pc1 : Nat} (hs : ax_step ph m (.goto off) pc ls st h = some (pc1, ls1, st1, h1)) (hd : decode (ax_code m) pc = .ok (.goto off, 3)) (hl : ax_Lr base av ls cls) (K : ∀ cls1, ax_Lr base av ls1 cls1 → ax_W base av p l e R s mth args below meth c H locs cells slots Q pc1 cls1 st1) : ax_W base av p l e R s mth args below meth c H locs cells slots Q pc cls st := by
  obtain ⟨t, ht, e1⟩ := Option.map_eq_some_iff.mp hs
  cases e1
  exact lv_goto hx hb hd (ax_tg_inv ht) (K cls hl)
theorem ax_s_if {cd : Jvm.ClassFile.Cond} {off : Int} (hx : p.tables.exec = Jvm.exec) (hb : c.code = ax_code m) (hv : ax_vok av) {ls st ls1 st1 : List Value} {h h1 : AH} {pc1 : Nat} (hs : ax_step ph m (.ifCond cd off) pc ls st h = some (pc1, ls1, st1, h1)) (hd : decode (ax_code m) pc = .ok (.ifCond cd off, 3)) (hl : ax_Lr base av ls cls) (K : ∀ cls1, ax_Lr base av ls1 cls1 → ax_W base av p l e R s mth args below meth c H locs cells slots Q pc1 cls1 st1) : ax_W base av p l e R s mth args below meth c H locs cells slots Q pc cls st := by
  have hs1 := hs
  simp only [ax_step] at hs1
  split at hs1
  · rename_i x r
    obtain ⟨t, ht, e1⟩ := Option.map_eq_some_iff.mp hs1
    cases e1
    have ht := ax_tg_inv ht
    have K := K cls hl
    cases cd
    · exact lv_if_eq hx hb hd ht (fun q => by rw [if_pos (by simp [ax_c0, q])] at K; exact K) (fun q => by rw [if_neg (by simp [ax_c0, q])] at K; exact K)
    · exact lv_if_ne hx hb hd ht (fun q => by rw [if_pos (by simp [ax_c0, q])] at K; exact K) (fun q => by rw [if_neg (by simp [ax_c0, q])] at K; exact K)
    · exact lv_if_lt hx hb hd ht (fun q => by rw [if_pos (by simp [ax_c0, q])] at K; exact K) (fun q => by rw [if_neg (by simp [ax_c0, q])] at K; exact K)
    · exact lv_if_ge hx hb hd ht (fun q => by rw [if_pos (by simp [ax_c0, q])] at K; exact K) (fun q => by rw [if_neg (by simp [ax_c0, q])] at K; exact K)
    · exact lv_if_gt hx hb hd ht (fun q => by rw [if_pos (by simp [ax_c0, q])] at K; exact K) (fun q => by rw [if_neg (by simp [ax_c0, q])] at K; exact K)
    · exact lv_if_le hx hb hd ht (fun q => by rw [if_pos (by simp [ax_c0, q])] at K; exact K) (fun q => by rw [if_neg (by simp [ax_c0, q])] at K; exact K)
  · cases hs1
theorem ax_s_icmp {cd : Jvm.ClassFile.Cond} {off : Int} (hx : p.tables.exec = Jvm.exec) (hb : c.code = ax_code m) (hv : ax_vok av) {ls st ls1 st1 : List Value} {h h1 : AH} {pc1 : Nat} (hs : ax_step ph m (.if_icmp cd off) pc ls st h = some (pc1, ls1, st1, h1)) (hd : decode (ax_code m) pc = .ok (.if_icmp cd off, 3)) (hl : ax_Lr base av ls cls) (K : ∀ cls1, ax_Lr base av ls1 cls1 → ax_W base av p l e R s mth args below meth c H locs cells slots Q pc1 cls1 st1) : ax_W base av p l e R s mth args below meth c H locs cells slots Q pc cls st := by
  have hs1 := hs
  simp only [ax_step] at hs1
  split at hs1
  · rename_i y x r
    obtain ⟨t, ht, e1⟩ := Option.map_eq_some_iff.mp hs1
    cases e1
    have ht := ax_tg_inv ht
    have K := K cls hl
    cases cd
    · exact lv_icmp_eq hx hb hd ht (fun q => by rw [if_pos (by simp [ax_c2, q])] at K; exact K) (fun q => by rw [if_neg (by simp [ax_c2, q])] at K; exact K)
    · exact lv_icmp_ne hx hb hd ht (fun q => by rw [if_pos (by simp [ax_c2, q])] at K; exact K) (fun q => by rw [if_neg (by simp [ax_c2, q])] at K; exact K)
    · exact lv_icmp_lt hx hb hd ht (fun q => by rw [if_pos (by simp [ax_c2, q])] at K; exact K) (fun q => by rw [if_neg (by simp [ax_c2, q])] at K; exact K)
    · exact lv_icmp_ge hx hb hd ht (fun q => by rw [if_pos (by simp [ax_c2, q])] at K; exact K) (fun q => by rw [if_neg (by simp [ax_c2, q])] at K; exact K)
    · exact lv_icmp_gt hx hb hd ht (fun q => by rw [if_pos (by simp [ax_c2, q])] at K; exact K) (fun q => by rw [if_neg (by simp [ax_c2, q])] at K; exact K)
    · exact lv_icmp_le hx hb hd ht (fun q => by rw [if_pos (by simp [ax_c2, q])] at K; exact K) (fun q => by rw [if_neg (by simp [ax_c2, q])] at K; exact K)
  · cases hs1
/-- no constant that stands on a stack, but the ninth, is null -/
def ax_vnn (av : Nat → Value) : Prop := ∀ k, k < 64 → k ≠ 9 → ∃ a, av k = .ref a
theorem ax_cv_nn {base : Nat} {av : Nat → Value} (hn : ax_vnn av) {k : Nat} (h : k ≠ 9) : ∃ a, ax_cv base av (.ref k) = .ref a := by
  show ∃ a, ax_adr base av k = .ref a
  unfold ax_adr
  by_cases hk : k < 64
  · rw [if_pos hk]; exact hn k hk h
  · rw [if_neg hk]; exact ⟨_, rfl⟩
theorem ax_s_ifnull {off : Int} (hn : ax_vnn av) (hx : p.tables.exec = Jvm.exec) (hb : c.code = ax_code m) (hv : ax_vok av) {ls st ls1 st1 : List Value} {h h1 : AH} {pc1 : Nat} (hs : ax_step ph m (.ifnull off) pc ls st h = some (pc1, ls1, st1, h1)) (hd : decode (ax_code m) pc = .ok (.ifnull off, 3)) (hl : ax_Lr base av ls cls) (K : ∀ cls1, ax_Lr base av ls1 cls1 → ax_W base av p l e R s mth args below meth c H locs cells slots Q pc1 cls1 st1) : ax_W base av p l e R s mth args below meth c H locs cells slots Q pc cls st := by
  have hs1 := hs
  simp only [ax_step] at hs1
  split at hs1
  · obtain ⟨t, ht, e1⟩ := Option.map_eq_some_iff.mp hs1
    cases e1
    exact lv_ifnullN hx hb hd (ax_tg_inv ht) (K cls hl)
  · split at hs1
    · cases hs1
    · rename_i h0
      cases hs1
      obtain ⟨a, ha⟩ := ax_cv_nn (base := base) hn h0
      unfold ax_W at K ⊢
      rw [List.map_cons, ha]
      exact lv_ifnull hx hb hd (K cls hl)
  · cases hs1
theorem ax_s_ifnonnull {off : Int} (hn : ax_vnn av) (hx : p.tables.exec = Jvm.exec) (hb : c.code = ax_code m) (hv : ax_vok av) {ls st ls1 st1 : List Value} {h h1 : AH} {pc1 : Nat} (hs : ax_step ph m (.ifnonnull off) pc ls st h = some (pc1, ls1, st1, h1)) (hd : decode (ax_code m) pc = .ok (.ifnonnull off, 3)) (hl : ax_Lr base av ls cls) (K : ∀ cls1, ax_Lr base av ls1 cls1 → ax_W base av p l e R s mth args below meth c H locs cells slots Q pc1 cls1 st1) : ax_W base av p l e R s mth args below meth c H locs cells slots Q pc cls st := by
  have hs1 := hs
  simp only [ax_step] at hs1
  split at hs1
  · cases hs1
    exact lv_ifnonnullN hx hb hd (K cls hl)
  · split at hs1
    · cases hs1
    · rename_i h0
      obtain ⟨t, ht, e1⟩ := Option.map_eq_some_iff.mp hs1
      cases e1
      obtain ⟨a, ha⟩ := ax_cv_nn (base := base) hn h0
      unfold ax_W at K ⊢
      rw [List.map_cons, ha]
      exact lv_ifnonnull hx hb hd (ax_tg_inv ht) (K cls hl)
  · cases hs1
theorem ax_lt8 {x : Nat} (h : x < 8) : x ≠ 9 ∧ x < 64 := by omega
theorem ax_cv_c {base : Nat} {av : Nat → Value} {k : Nat} (h : k < 64) : ax_cv base av (.ref k) = av k := if_pos h
theorem ax_s_acmp {cd : ACond} {off : Int} (hn : ax_vnn av) (hi : ∀ i j, i < 8 → j < 8 → av i = av j → i = j) (hx : p.tables.exec = Jvm.exec) (hb : c.code = ax_code m) (hv : ax_vok av) {ls st ls1 st1 : List Value} {h h1 : AH} {pc1 : Nat} (hs : ax_step ph m (.if_acmp cd off) pc ls st h = some (pc1, ls1, st1, h1)) (hd : decode (ax_code m) pc = .ok (.if_acmp cd off, 3)) (hl : ax_Lr base av ls cls) (K : ∀ cls1, ax_Lr base av ls1 cls1 → ax_W base av p l e R s mth args below meth c H locs cells slots Q pc1 cls1 st1) : ax_W base av p l e R s mth args below meth c H locs cells slots Q pc cls st := by
  have hs1 := hs
  simp only [ax_step] at hs1
  split at hs1
  · rename_i y x r
    split at hs1
    · rename_i h0
      obtain ⟨t, ht, e1⟩ := Option.map_eq_some_iff.mp hs1
      cases e1
      have ht := ax_tg_inv ht
      have K := K cls hl
      obtain ⟨ay, hay⟩ := ax_cv_nn (base := base) hn (k := y) (ax_lt8 h0.2).1
      obtain ⟨ax, hax⟩ := ax_cv_nn (base := base) hn (k := x) (ax_lt8 h0.1).1
      have hxy : ((some ax : Option Nat) = some ay) ↔ x = y := by
        constructor
        · intro q
          have q1 : ax = ay := Option.some.inj q
          refine hi x y h0.1 h0.2 ?_
          have e1 : av x = .ref ax := (ax_cv_c (base := base) (ax_lt8 h0.1).2).symm.trans hax
          have e2 : av y = .ref ay := (ax_cv_c (base := base) (ax_lt8 h0.2).2).symm.trans hay
          rw [e1, e2, q1]
        · intro q
          subst q
          rw [hax] at hay
          cases hay
          rfl
      unfold ax_W at K ⊢
      rw [List.map_cons, List.map_cons, hay, hax]
      cases cd
      · exact lv_acmp_eq (rx := some ax) (ry := some ay) hx hb hd ht (fun q => by rw [if_pos (by simp [hxy.mp q])] at K; exact K) (fun q => by rw [if_neg (by simp; exact fun z => q (hxy.mpr z))] at K; exact K)
      · exact lv_acmp_ne (rx := some ax) (ry := some ay) hx hb hd ht (fun q => by rw [if_pos (by simp; exact fun z => q (hxy.mpr z))] at K; exact K) (fun q => by rw [if_neg (by simp [hxy.mp q])] at K; exact K)
    · cases hs1
  · cases hs1
theorem ax_s_tsw {d lo hi : Int} {offs : Array Int} {len : Nat} (hx : p.tables.exec = Jvm.exec) (hb : c.code = ax_code m) (hv : ax_vok av) {ls st ls1 st1 : List Value} {h h1 : AH} {pc1 : Nat} (hs : ax_step ph m (.tableswitch d lo hi offs) pc ls st h = some (pc1, ls1, st1, h1)) (hd : decode (ax_code m) pc = .ok (.tableswitch d lo hi offs, len)) (hl : ax_Lr base av ls cls) (K : ∀ cls1, ax_Lr base av ls1 cls1 → ax_W base av p l e R s mth args below meth c H locs cells slots Q pc1 cls1 st1) : ax_W base av p l e R s mth args below meth c H locs cells slots Q pc cls st := by
  have hs1 := hs
  simp only [ax_step] at hs1
  split at hs1
  · rename_i x r
    split at hs1
    · rename_i h0
      obtain ⟨t, ht, e1⟩ := Option.map_eq_some_iff.mp hs1
      cases e1
      exact lv_tableOut hx hb hd h0 (ax_tg_inv ht) (K cls hl)
    · rename_i h0
      split at hs1
      · rename_i off ho
        obtain ⟨t, ht, e1⟩ := Option.map_eq_some_iff.mp hs1
        cases e1
        exact lv_tableIn hx hb hd (fun q => h0 (Or.inl q)) (fun q => h0 (Or.inr q)) ho (ax_tg_inv ht) (K cls hl)
      · cases hs1
  · cases hs1
end AxA
end
section
/-! THE TABLES ARE THE STATEMENT's: each link of ax_* is a word of lw_tbl -/
/-- the words of the first list stand in the second, in this order -/
def ax_sub : List Cond → List Cond → Bool
  | [], _ => true
  | _ :: _, [] => false
  | x :: l, y :: r => if x = y then ax_sub l r else ax_sub (x :: l) r
theorem ax_sub_mem : ∀ (r l : List Cond), ax_sub l r = true → ∀ w ∈ l, w ∈ r
  | _, [], _, w, hw => absurd hw List.not_mem_nil
  | [], _ :: _, h, _, _ => by cases h
  | y :: r, x :: l, h, w, hw => by
    unfold ax_sub at h
    split at h
    · rename_i he
      rcases List.mem_cons.mp hw with q | q
      · rw [q, he]; exact List.mem_cons_self
      · exact List.mem_cons_of_mem _ (ax_sub_mem r l h w q)
    · exact List.mem_cons_of_mem _ (ax_sub_mem r (x :: l) h w hw)
theorem ax_lookup_mem {α β : Type} [BEq α] [LawfulBEq α] {l : List (α × β)} {a : α} {b : β} (h : l.lookup a = some b) : (a, b) ∈ l := by
  induction l with
  | nil => cases h
  | cons x t ih =>
    obtain ⟨x1, x2⟩ := x
    simp only [List.lookup] at h
    split at h
    · rename_i he
      have := eq_of_beq he
      cases h
      subst this
      exact List.mem_cons_self
    · exact List.mem_cons_of_mem _ (ih h)
def ax_fldW (q : (Nat × Nat) × (Nat × Nat)) : Cond := .fieldLink (ax_nm q.1.1) q.1.2 (ax_fT q.2.1 q.2.2).1 (ax_fT q.2.1 q.2.2).2.1 (ax_fT q.2.1 q.2.2).2.2.1
set_option maxRecDepth 100000 in
theorem ax_fldT_ok : ax_sub (ax_fldT.map ax_fldW) lw_tbl = true := by decide +kernel
theorem ax_fldT_ok2 : (ax_fldT.all fun q => (decide (q.2.1 < 14) && decide (q.2.2 < ax_nf q.2.1))) = true := by decide +kernel
theorem ax_fld_in {o i : Nat} {q : Nat × Nat} (h : ax_fld o i = some q) : Cond.fieldLink (ax_nm o) i (ax_fT q.1 q.2).1 (ax_fT q.1 q.2).2.1 (ax_fT q.1 q.2).2.2.1 ∈ lw_tbl ∧ q.1 < 14 ∧ q.2 < ax_nf q.1 := by
  have hm := ax_lookup_mem h
  have h1 := List.all_eq_true.mp ax_fldT_ok2 _ hm
  simp only [Bool.and_eq_true, decide_eq_true_eq] at h1
  exact ⟨ax_sub_mem _ _ ax_fldT_ok _ (List.mem_map.mpr ⟨_, hm, rfl⟩), h1⟩
def ax_stW (q : (Nat × Nat) × (String × String × String)) : Cond := .fieldLink (ax_nm q.1.1) q.1.2 q.2.1 q.2.2.1 q.2.2.2
set_option maxRecDepth 100000 in
theorem ax_stN_ok : ax_sub (ax_stN.map ax_stW) lw_tbl = true := by decide +kernel
theorem ax_stT_ok : (ax_stT.all fun q => (ax_stN.lookup q.1).isSome) = true := by decide +kernel
theorem ax_sta_in {o i : Nat} {v : Value} (h : ax_sta o i = some v) : ((o, i), v) ∈ ax_stT ∧ ∃ n, ax_stN.lookup (o, i) = some n ∧ Cond.fieldLink (ax_nm o) i n.1 n.2.1 n.2.2 ∈ lw_tbl := by
  have hm := ax_lookup_mem h
  have h1 := List.all_eq_true.mp ax_stT_ok _ hm
  refine ⟨hm, ?_⟩
  obtain ⟨n, hn⟩ := Option.isSome_iff_exists.mp h1
  refine ⟨n, hn, ?_⟩
  have hm2 := ax_lookup_mem hn
  exact ax_sub_mem _ _ ax_stN_ok _ (List.mem_map.mpr ⟨_, hm2, rfl⟩)
def ax_ldW (q : (Nat × Nat) × Value) : Option Cond := match q.2 with
  | .int v => some (.constant (ax_nm q.1.1) q.1.2 v)
  | .long v => some (.constantLong (ax_nm q.1.1) q.1.2 v)
  | .double v => some (.constantDouble (ax_nm q.1.1) q.1.2 v)
  | _ => none
set_option maxRecDepth 100000 in
theorem ax_ldT_ok : ax_sub (ax_ldT.filterMap ax_ldW) lw_tbl = true := by decide +kernel
theorem ax_ldT_ok2 : (ax_ldT.all fun q => (match q.2 with
  | .ref k => decide (k < 49 ∧ k ≠ 9)
  | _ => true)) = true := by decide +kernel
theorem ax_ldc_in {o i : Nat} {v : Value} (h : ax_ldc o i = some v) : ((o, i), v) ∈ ax_ldT ∧ (∀ x, v = .int x → Cond.constant (ax_nm o) i x ∈ lw_tbl) ∧ (∀ x, v = .long x → Cond.constantLong (ax_nm o) i x ∈ lw_tbl) ∧ (∀ x, v = .double x → Cond.constantDouble (ax_nm o) i x ∈ lw_tbl) ∧ (∀ k, v = .ref k → k < 49 ∧ k ≠ 9) := by
  have hm := ax_lookup_mem h
  have h1 := List.all_eq_true.mp ax_ldT_ok2 _ hm
  refine ⟨hm, fun x e => ?_, fun x e => ?_, fun x e => ?_, fun x e => ?_⟩ <;> subst e
  · exact ax_sub_mem _ _ ax_ldT_ok _ (List.mem_filterMap.mpr ⟨_, hm, rfl⟩)
  · exact ax_sub_mem _ _ ax_ldT_ok _ (List.mem_filterMap.mpr ⟨_, hm, rfl⟩)
  · exact ax_sub_mem _ _ ax_ldT_ok _ (List.mem_filterMap.mpr ⟨_, hm, rfl⟩)
  · simpa using h1
set_option maxRecDepth 100000 in
theorem ax_newT_ok : ax_sub (ax_newT.map fun q => Cond.classLink (ax_nm q.1.1) q.1.2 (ax_nm q.2)) lw_tbl = true := by decide +kernel
theorem ax_new_in {o i c : Nat} (h : ax_new o i = some c) : Cond.classLink (ax_nm o) i (ax_nm c) ∈ lw_tbl :=
  ax_sub_mem _ _ ax_newT_ok _ (List.mem_map.mpr ⟨_, ax_lookup_mem h, rfl⟩)
set_option maxRecDepth 100000 in
theorem ax_ins_ok : ax_sub ([10, 1, 7, 2, 4, 3, 8, 5, 9, 0, 11, 6].map fun c => Cond.instantiable (ax_nm c) (ax_nf c)) lw_tbl = true ∧ ax_sub ([18, 10, 1, 7, 2, 4, 3, 8, 5, 11, 13, 12, 6, 14, 9, 0].map fun c => Cond.initialized (ax_nm c)) lw_tbl = true := by decide +kernel
theorem ax_ins_in {c : Nat} (hc : c < 12) : Cond.instantiable (ax_nm c) (ax_nf c) ∈ lw_tbl := ax_sub_mem _ _ ax_ins_ok.1 _ (List.mem_map.mpr ⟨c, (by decide : ∀ c, c < 12 → c ∈ ([10, 1, 7, 2, 4, 3, 8, 5, 9, 0, 11, 6] : List Nat)) c hc, rfl⟩)
theorem ax_ini_in {c : Nat} (hc : c < 15 ∨ c = 18) : Cond.initialized (ax_nm c) ∈ lw_tbl := ax_sub_mem _ _ ax_ins_ok.2 _ (List.mem_map.mpr ⟨c, (by rcases hc with h | h; exact (by decide : ∀ c, c < 15 → c ∈ ([18, 10, 1, 7, 2, 4, 3, 8, 5, 11, 13, 12, 6, 14, 9, 0] : List Nat)) c h; subst h; decide), rfl⟩)
set_option maxRecDepth 100000 in
theorem ax_arr_ok : ax_sub [.arrayOver (.object "VeiledTable$Stage"), .classLink (ax_nm 7) 34 "[[I", .arrayOver (.array .int), .arrayClass .int, .arrayOver (.object "VeiledTable$Test"), .arrayOver (.object "VeiledTable$Amount"), .arrayClass .long, .arrayOver (.object "VeiledTable$Sheet"), .classLink (ax_nm 11) 31 "[I", .classLink (ax_nm 11) 26 "[[I"] lw_tbl = true := by decide +kernel
theorem ax_arr_in : Cond.arrayClass .int ∈ lw_tbl ∧ Cond.arrayClass .long ∈ lw_tbl ∧ Cond.classLink (ax_nm 7) 34 "[[I" ∈ lw_tbl ∧ Cond.arrayOver (.array .int) ∈ lw_tbl ∧ Cond.arrayOver (.object RX0) ∈ lw_tbl ∧ Cond.arrayOver (.object RX6) ∈ lw_tbl ∧ Cond.arrayOver (.object RX7) ∈ lw_tbl ∧ Cond.arrayOver (.object RX10) ∈ lw_tbl ∧ Cond.classLink (ax_nm 11) 26 "[[I" ∈ lw_tbl ∧ Cond.classLink (ax_nm 11) 31 "[I" ∈ lw_tbl := by
  have h := ax_sub_mem _ _ ax_arr_ok
  refine ⟨h _ ?_, h _ ?_, h _ ?_, h _ ?_, h _ ?_, h _ ?_, h _ ?_, h _ ?_, h _ ?_, h _ ?_⟩ <;> decide +kernel
theorem ax_mna_in {o i : Nat} (h : ax_mna o i = true) : Cond.classLink (ax_nm o) i "[[I" ∈ lw_tbl := by
  have h2 : (o, i) ∈ ([(7, 34), (11, 26)] : List (Nat × Nat)) := of_decide_eq_true h
  simp only [List.mem_cons, Prod.mk.injEq, List.not_mem_nil, or_false] at h2
  rcases h2 with ⟨rfl, rfl⟩ | ⟨rfl, rfl⟩
  · exact ax_arr_in.2.2.1
  · exact ax_arr_in.2.2.2.2.2.2.2.2.1
/-- the link of new int[n][] -/
theorem ax_new17 {o i : Nat} (h : ax_new o i = some 17) : o = 11 ∧ i = 31 := by
  have hm := ax_lookup_mem h
  have : ∀ q ∈ ax_newT, q.2 = 17 → q.1 = (11, 31) := by decide +kernel
  have := this _ hm rfl
  exact Prod.mk.inj this
-- classes
def ax_fy (c k : Nat) : FieldType := (parseFieldDescriptor (ax_fT c k).2.2.1).getD .int
theorem ax_fy_ok : ((List.range 12).all fun c => (List.range (ax_nf c)).all fun k => decide (parseFieldDescriptor (ax_fT c k).2.2.1 = some (ax_fy c k)) && decide ((ax_fT c k).1 = ax_nm c) && decide ((ax_fT c k).2.2.2 = ax_ff c k) && (if ax_fc c k = 0 then decide (ax_fy c k = .int) else if ax_fc c k = 1 then decide (ax_fy c k = .long) else if ax_fc c k = 2 then (ax_fy c k).isReference else if ax_fc c k = 3 then decide (ax_fy c k = .boolean) else false)) = true := by decide +kernel
theorem ax_fy_in {c k : Nat} (hc : c < 12) (hk : k < ax_nf c) : parseFieldDescriptor (ax_fT c k).2.2.1 = some (ax_fy c k) ∧ (ax_fT c k).1 = ax_nm c ∧ (ax_fT c k).2.2.2 = ax_ff c k ∧ ((ax_fc c k = 0 ∧ ax_fy c k = .int) ∨ (ax_fc c k = 1 ∧ ax_fy c k = .long) ∨ (ax_fc c k = 2 ∧ (ax_fy c k).isReference = true) ∨ (ax_fc c k = 3 ∧ ax_fy c k = .boolean)) := by
  have h1 := List.all_eq_true.mp (List.all_eq_true.mp ax_fy_ok c (List.mem_range.mpr hc)) k (List.mem_range.mpr hk)
  simp only [Bool.and_eq_true, decide_eq_true_eq] at h1
  refine ⟨h1.1.1.1, h1.1.1.2, h1.1.2, ?_⟩
  have h2 := h1.2
  split at h2
  · exact Or.inl ⟨by assumption, by simpa using h2⟩
  · split at h2
    · exact Or.inr (Or.inl ⟨by assumption, by simpa using h2⟩)
    · split at h2
      · exact Or.inr (Or.inr (Or.inl ⟨by assumption, h2⟩))
      · split at h2
        · exact Or.inr (Or.inr (Or.inr ⟨by assumption, by simpa using h2⟩))
        · cases h2
/-- a class: its row of ax_cl, its words -/
theorem ax_cl_in : ∀ c, c < 12 → ax_cl[c]? = some (ax_nm c, ax_fT c, ax_nf c) ∧ (∀ w ∈ u_ws (ax_nm c) (ax_fT c) (ax_nf c), w ∈ lw_tbl) ∧ (∀ a, a < ax_nf c → ∀ b, b < ax_nf c → a ≠ b → (ax_fT c a).2.1 ≠ (ax_fT c b).2.1)
  | 0, _ => ⟨rfl, inX0, nmX0⟩
  | 1, _ => ⟨rfl, inX1, nmX1⟩
  | 2, _ => ⟨rfl, inX3, nmX3⟩
  | 3, _ => ⟨rfl, inX4, nmX4⟩
  | 4, _ => ⟨rfl, inX5, nmX5⟩
  | 5, _ => ⟨rfl, inX6, nmX6⟩
  | 6, _ => ⟨rfl, inX7, nmX7⟩
  | 7, _ => ⟨rfl, inX8, nmX8⟩
  | 8, _ => ⟨rfl, inX9, nmX9⟩
  | 9, _ => ⟨rfl, inX10, nmX10⟩
  | 10, _ => ⟨rfl, inX11, nmX11⟩
  | 11, _ => ⟨rfl, inX12, nmX12⟩
  | n + 12, h => absurd h (by omega)
/-- a value of a field's sort stays as it is, and fits -/
theorem ax_nfit {base : Nat} {av : Nat → Value} (hv : ax_vok av) {c k : Nat} (hc : c < 12) (hk : k < ax_nf c) {v : Value} (h1 : ax_kd v = ax_fk (ax_fc c k)) (h2 : ax_fc c k = 3 → toI v = 0 ∨ toI v = 1) : narrow (ax_fy c k) (ax_cv base av v) = ax_cv base av v ∧ fits (ax_fy c k) (ax_cv base av v) = true := by
  rcases (ax_fy_in hc hk).2.2.2 with ⟨e1, e2⟩ | ⟨e1, e2⟩ | ⟨e1, e2⟩ | ⟨e1, e2⟩
  · rw [e1] at h1
    obtain ⟨x, rfl⟩ := ax_kd_int h1
    rw [e2]
    exact ⟨rfl, rfl⟩
  · rw [e1] at h1
    obtain ⟨x, rfl⟩ := ax_kd_long h1
    rw [e2]
    exact ⟨rfl, rfl⟩
  · rw [e1] at h1
    obtain ⟨r, hr⟩ := ax_cv_rf (base := base) hv (v := v) h1
    rw [hr]
    cases hf : ax_fy c k <;> rw [hf] at e2 <;> first | (cases r <;> exact ⟨rfl, rfl⟩) | (exact absurd e2 (by decide))
  · rw [e1] at h1
    obtain ⟨x, rfl⟩ := ax_kd_int h1
    rw [e2]
    have h3 : x = 0 ∨ x = 1 := h2 e1
    rcases h3 with rfl | rfl <;> exact ⟨rfl, rfl⟩
end
section
/-! THE HEAP: what is read, written and made in the small machine is so in the real one -/
theorem ax_sty_no : ∀ i, i < 104 → (ax_styL.getD i (99, 0)).1 ≠ 12 ∧ (ax_styL.getD i (99, 0)).1 ≠ 13 := by decide +kernel
theorem ax_sty_arr : ∀ i, i < 104 → (ax_styL.getD i (99, 0)).1 = 99 → False := by decide +kernel
theorem ax_sty_nf : ∀ i, i < 104 → (ax_styL.getD i (99, 0)).1 < 12 ∨ ((ax_styL.getD i (99, 0)).1 = 20 ∨ (ax_styL.getD i (99, 0)).1 = 21 ∨ (ax_styL.getD i (99, 0)).1 = 24 ∨ (ax_styL.getD i (99, 0)).1 = 30 ∨ (ax_styL.getD i (99, 0)).1 = 35 ∨ (ax_styL.getD i (99, 0)).1 = 36 ∨ (ax_styL.getD i (99, 0)).1 = 39) := by decide +kernel
theorem ax_sty_len : ∀ i, i < 104 → (ax_styL.getD i (99, 0)).2 < 20000 := by decide +kernel
theorem ax_ty_own {h : AH} {a : Nat} (ha : 64 ≤ a) : ax_ty h a = if a < 168 then ax_styL.getD (a - 64) (99, 0) else ax_dty (h.2.1 a) := by
  unfold ax_ty
  rw [if_neg (by omega), if_neg (by omega), if_neg (by omega)]
theorem ax_ty_con {h : AH} {a : Nat} (ha : a < 64) : ax_ty h a = ax_cty h.2.2.2.2 a := by
  unfold ax_ty ax_cty
  by_cases h1 : a < 48
  · rw [if_pos h1, if_neg (by omega)]
  · rw [if_neg h1]
    by_cases h2 : a = 48
    · rw [if_pos h2, if_pos h2]
    · rw [if_neg h2, if_pos ha, if_neg h2]
      rw [List.getD_eq_getElem?_getD, List.getElem?_eq_none (by show ax_ctyL.length ≤ a; have : ax_ctyL.length = 9 := rfl; omega)]
      rfl
theorem ax_con_lt {Ls a : Nat} (h : (ax_cty Ls a).1 ≠ 99) : a < 49 := by
  rcases Nat.lt_or_ge a 49 with q | q
  · exact q
  · refine absurd ?_ h
    unfold ax_cty
    rw [if_neg (by omega), List.getD_eq_getElem?_getD, List.getElem?_eq_none (by show ax_ctyL.length ≤ a; have : ax_ctyL.length = 9 := rfl; omega)]
    rfl
section AxB
variable {base : Nat} {av : Nat → Value} {D : va_G} {cA : Nat → ClassId} {Hs : Heap} {Ls : Nat} {xs : Nat → Int32} {ph : Bool}
theorem ax_Rep.ok {h : AH} {H : Heap} (hR : ax_Rep base av D cA Hs Ls xs ph h H) {a : Nat} (hk : ax_ok ph h a = true) (ha : ¬ a < 64) : a < h.2.2.1 := by
  obtain ⟨-, -, -, -, -, -, -, -, h9, -⟩ := hR
  unfold ax_ok at hk
  simp only [Bool.or_eq_true, decide_eq_true_eq, Bool.and_eq_true] at hk
  rcases hk with (q | ⟨q1, q2⟩) | q
  · exact absurd q ha
  · exact Nat.lt_of_lt_of_le q2 (h9 q1)
  · exact q
theorem ax_Rep.own {h : AH} {H : Heap} (hR : ax_Rep base av D cA Hs Ls xs ph h H) {a : Nat} (ha : 64 ≤ a) (hn : a < h.2.2.1) : (ax_ty h a).1 < 12 ∨ (∃ ty, ax_aty (ax_ty h a).1 = some ty ∧ 20 ≤ (ax_ty h a).1 ∧ (ax_ty h a).2 < 20000 ∧ ((ax_ty h a).1 = 20 ∨ (ax_ty h a).1 = 21 ∨ (ax_ty h a).1 = 24 ∨ 30 ≤ (ax_ty h a).1)) := by
  obtain ⟨-, -, -, -, -, h6, -⟩ := hR
  rw [ax_ty_own ha]
  by_cases h1 : a < 168
  · rw [if_pos h1]
    have hl := ax_sty_len (a - 64) (by omega)
    rcases ax_sty_nf (a - 64) (by omega) with q | q
    · exact Or.inl q
    · refine Or.inr ?_
      generalize hg : ax_styL.getD (a - 64) (99, 0) = t at q hl
      obtain ⟨c, n⟩ := t
      dsimp only at q hl ⊢
      rcases q with rfl | rfl | rfl | rfl | rfl | rfl | rfl <;> exact ⟨_, rfl, by decide, hl, by decide⟩
  · rw [if_neg h1]
    unfold ax_dty
    rcases h6 a (by omega) hn with q | ⟨q1, q2⟩
    · rw [if_pos (by omega)]
      exact Or.inl q
    · rw [if_neg (by omega)]
      refine Or.inr ?_
      split
      · exact ⟨_, rfl, by show 20 ≤ 20; decide, by show (h.2.1 a - 100) / 2 < 20000; omega, Or.inl rfl⟩
      · exact ⟨_, rfl, by show 20 ≤ 24; decide, by show (h.2.1 a - 101) / 2 < 20000; omega, Or.inr (Or.inr (Or.inl rfl))⟩
theorem ax_Rep.rd {h : AH} {H : Heap} (hR : ax_Rep base av D cA Hs Ls xs ph h H) {a : Nat} (ha : 64 ≤ a) (j : Nat) : ax_rd ph h a j = h.1 a j := by
  obtain ⟨-, -, -, -, -, -, -, -, -, h10⟩ := hR
  unfold ax_rd
  rw [if_neg (by omega)]
  by_cases hp : ph = true
  · subst hp
    rw [if_pos (by simp [ha])]
    split
    · rename_i q hq
      exact (h10 rfl a j q ha hq).symm
    · rfl
  · rw [if_neg (by simp [hp])]
/-- constants are read -/
theorem ax_rd_con {h : AH} {H : Heap} (hR : ax_Rep base av D cA Hs Ls xs ph h H) {a : Nat} (ha : a < 49) (j : Nat) : ax_rd ph h a j = ax_cc xs a j := by
  obtain ⟨-, -, -, -, -, -, h7, -⟩ := hR
  unfold ax_rd ax_cc
  by_cases h1 : a < 48
  · rw [if_pos h1, if_neg (by omega)]
  · have h2 : a = 48 := by omega
    subst h2
    rw [if_neg h1, if_pos rfl]
    have e : (ph && decide (64 ≤ 48)) = false := by cases ph <;> rfl
    rw [if_neg (by rw [e]; decide)]
    exact h7 j
theorem ax_adr_own {a : Nat} (ha : 64 ≤ a) : ax_cv base av (.ref a) = .ref (base + (a - 64)) := if_neg (by omega)
/-- behind a write -/
theorem ax_Rep.wr {h : AH} {H H1 : Heap} (hR : ax_Rep base av D cA Hs Ls xs ph h H) {a j : Nat} {v : Value} (ha : 64 ≤ a) (hn : a < h.2.2.1) (hw : ax_wok ph a j = true) (z : H1.size = H.size) (oq : ∀ q, q ≠ base + (a - 64) → H1[q]? = H[q]?) (hat : ax_at base av D cA (ax_wr h a j v) a H1) : ax_Rep base av D cA Hs Ls xs ph (ax_wr h a j v) H1 := by
  obtain ⟨h1, h2, h3, h4, h5, h6, h7, h8, h9, h10⟩ := hR
  refine ⟨h1, h2, by rw [z]; exact h3, fun q hq => by rw [oq q (by omega)]; exact h4 q hq, fun k hk hkn => ?_, h6, fun i => ?_, h8, h9, fun hp b i q hb hq => ?_⟩
  · by_cases e : k = a
    · subst e; exact hat
    · have e1 : (ax_wr h a j v).1 k = h.1 k := by
        funext i
        show (if k = a ∧ i = j then v else h.1 k i) = h.1 k i
        rw [if_neg (fun q => e q.1)]
      have e2 : H1[base + (k - 64)]? = H[base + (k - 64)]? := oq _ (by omega)
      obtain ⟨g1, g2⟩ := h5 k hk hkn
      refine ⟨fun hc => ?_, fun hc => ?_⟩
      · rw [e1]
        exact (g1 hc).kept e2
      · rw [e1, e2]
        exact g2 hc
  · show (if 48 = a ∧ i = j then v else h.1 48 i) = _
    rw [if_neg (fun q => by omega)]
    exact h7 i
  · show (if b = a ∧ i = j then v else h.1 b i) = _
    by_cases e : b = a ∧ i = j
    · obtain ⟨rfl, rfl⟩ := e
      unfold ax_wok at hw
      simp [hp] at hw
      simp [List.getD_eq_getElem?_getD] at hq
      rw [hw.2] at hq
      cases hq
    · rw [if_neg e]
      exact h10 hp b i q hb hq
/-- behind a making -/
theorem ax_Rep.mk {h : AH} {H H1 : Heap} (hR : ax_Rep base av D cA Hs Ls xs ph h H) {c len : Nat} {f : Nat → Value} (z : H1.size = H.size + 1) (oq : ∀ q, q < H.size → H1[q]? = H[q]?) (hdyn : 168 ≤ h.2.2.1 → ax_dok c) (hat : ax_at base av D cA (ax_mk h c len f) h.2.2.1 H1) : ax_Rep base av D cA Hs Ls xs ph (ax_mk h c len f) H1 := by
  obtain ⟨h1, h2, h3, h4, h5, h6, h7, h8, h9, h10⟩ := hR
  have hb : base ≤ H.size := by omega
  refine ⟨h1, by show 64 ≤ h.2.2.1 + 1; omega, by show H1.size + 64 = base + (h.2.2.1 + 1); omega, fun q hq => by rw [oq q (by omega)]; exact h4 q hq, fun k hk hkn => ?_, fun k hk hkn => ?_, fun i => ?_, h8, fun hp => Nat.le_succ_of_le (h9 hp), fun hp b i q hb hq => ?_⟩
  · have hkn : k < h.2.2.1 + 1 := hkn
    by_cases e : k = h.2.2.1
    · subst e; exact hat
    · have e1 : (ax_mk h c len f).1 k = h.1 k := by
        funext i
        show (if k = h.2.2.1 then f i else h.1 k i) = h.1 k i
        rw [if_neg e]
      have e2 : H1[base + (k - 64)]? = H[base + (k - 64)]? := oq _ (by omega)
      have e3 : ax_ty (ax_mk h c len f) k = ax_ty h k := by
        rw [ax_ty_own hk, ax_ty_own hk]
        by_cases q : k < 168
        · rw [if_pos q, if_pos q]
        · rw [if_neg q, if_neg q]
          show ax_dty (if k = h.2.2.1 then c else h.2.1 k) = _
          rw [if_neg e]
      obtain ⟨g1, g2⟩ := h5 k hk (by omega)
      unfold ax_at
      rw [e3, e1]
      exact ⟨fun hc => (g1 hc).kept e2, fun hc => by rw [e2]; exact g2 hc⟩
  · have hkn : k < h.2.2.1 + 1 := hkn
    show ax_dok (if k = h.2.2.1 then c else h.2.1 k)
    by_cases e : k = h.2.2.1
    · rw [if_pos e]; exact hdyn (by omega)
    · rw [if_neg e]; exact h6 k hk (by omega)
  · show (if 48 = h.2.2.1 then f i else h.1 48 i) = _
    rw [if_neg (by omega)]
    exact h7 i
  · show (if b = h.2.2.1 then f i else h.1 b i) = _
    by_cases e : b = h.2.2.1
    · subst e
      have h11 := h9 hp
      have hlen : ax_cfL.length = 104 := rfl
      have e0 : ax_cfL.getD (h.2.2.1 - 64) [] = [] := by
        rw [List.getD_eq_getElem?_getD, List.getElem?_eq_none (by omega)]
        rfl
      rw [e0] at hq
      cases hq
    · rw [if_neg e]
      exact h10 hp b i q hb hq
/-- an array's cell -/
theorem ax_Rep.arr {h : AH} {H : Heap} (hR : ax_Rep base av D cA Hs Ls xs ph h H) {a : Nat} (ha : 64 ≤ a) (hn : a < h.2.2.1) (hc : 20 ≤ (ax_ty h a).1) : H[base + (a - 64)]? = some (arrV (cA (ax_ty h a).1) (ax_ty h a).2 (fun j => ax_cv base av (ax_ev (ax_ty h a).1 (h.1 a j)))) := by
  obtain ⟨-, -, -, -, h5, -⟩ := hR
  exact (h5 a ha hn).2 hc
theorem ax_in_inv {i : Int32} {n : Nat} (h : ax_in i n = true) : ¬ (i < 0 ∨ n ≤ i.toNatClampNeg) := by
  unfold ax_in at h
  simp only [Bool.not_eq_true', Bool.or_eq_false_iff, decide_eq_false_iff_not] at h
  rintro (q | q)
  · exact h.1 q
  · exact h.2 q
/-- a store into an array's cell -/
theorem ax_at_arr {h : AH} {H1 : Heap} {a j : Nat} {v w : Value} (hc : 20 ≤ (ax_ty h a).1) (hw : ax_cv base av (ax_ev (ax_ty h a).1 v) = w) (e : H1[base + (a - 64)]? = some ((arrV (cA (ax_ty h a).1) (ax_ty h a).2 (fun j => ax_cv base av (ax_ev (ax_ty h a).1 (h.1 a j)))).setSlot j w)) : ax_at base av D cA (ax_wr h a j v) a H1 := by
  have et : ax_ty (ax_wr h a j v) a = ax_ty h a := rfl
  refine ⟨fun q => ?_, fun _ => ?_⟩
  · rw [et] at q; omega
  · rw [et, e, arrV_store]
    congr 2
    funext i
    show updV _ j w i = ax_cv base av (ax_ev _ (if a = a ∧ i = j then v else h.1 a i))
    by_cases q : i = j
    · subst q
      rw [if_pos ⟨rfl, rfl⟩, hw]
      simp [updV]
    · rw [if_neg (fun z => q z.2)]
      simp [updV, q]
end AxB
end
section
/-! ONE INSTRUCTION THAT LOOKS AT THE HEAP -/
section AxC
variable {base : Nat} {av : Nat → Value} {D : va_G} {cA : Nat → ClassId} {Hs : Heap} {Ls : Nat} {xs : Nat → Int32} {ph : Bool}
variable {p : Program} {l : Launch} {e : Env} {R : Room} {s : State} {mth : MethodId} {args : Array Value} {below : List Frame} {meth : Method} {c : Code} {H : Heap} {locs : List Loc} {cells slots : Nat} {Q : State → Prop} {m pc : Nat} {cls : Array Slot} {ls st ls1 st1 : List Value} {h h1 : AH} {pc1 : Nat}
/-- a read: the heap, the locals stay -/
def ax_Kr (base : Nat) (av : Nat → Value) (p : Program) (l : Launch) (e : Env) (R : Room) (s : State) (mth : MethodId) (args : Array Value) (below : List Frame) (meth : Method) (c : Code) (H : Heap) (locs : List Loc) (cells slots : Nat) (Q : State → Prop) (ls : List Value) (h : AH) (pc1 : Nat) (cls : Array Slot) (st1 ls1 : List Value) (h1 : AH) : Prop := ls1 = ls → h1 = h → ax_W base av p l e R s mth args below meth c H locs cells slots Q pc1 cls st1
theorem ax_s_getfield {k : Nat} (hs : ax_step ph m (.getfield k) pc ls st h = some (pc1, ls1, st1, h1)) (hd : decode (ax_code m) pc = .ok (.getfield k, 3)) (CX : ax_Cx base av D cA Hs Ls xs p s mth args meth c m) (hR : ax_Rep base av D cA Hs Ls xs ph h H) (K : ls1 = ls → h1 = h → ax_W base av p l e R s mth args below meth c H locs cells slots Q pc1 cls st1) : ax_W base av p l e R s mth args below meth c H locs cells slots Q pc cls st := by
  obtain ⟨hx, hb, hml, hown, hts, hnm, KC⟩ := CX
  simp only [ax_step] at hs
  split at hs
  · rename_i a r
    split at hs
    · rename_i q hq
      split at hs
      · rename_i hc
        cases hs
        have K := K rfl rfl
        obtain ⟨hc1, hc2, hc3⟩ := hc
        obtain ⟨hin, -, hk⟩ := ax_fld_in hq
        by_cases ha : a < 64
        · have et : ax_ty h a = ax_cty Ls a := by rw [ax_ty_con ha, hR.2.2.2.2.2.2.2.1]
          rw [et] at hc1
          have ha9 : a < 49 := ax_con_lt (Ls := Ls) (by rw [hc1]; omega)
          obtain ⟨b, eb, -, hf⟩ := KC.2.2.2.2.1 a ha9 (by rw [hc1]; exact hc2)
          rw [hc1] at hf
          obtain ⟨cf, kf, fi, f, cell, g1, g2, g3, g4, g5, g6⟩ := hf q.2 hk
          have ec : ax_cv base av (.ref a) = .ref b := by rw [ax_cv_c ha, eb]
          rw [ax_rd_con hR ha9] at K
          unfold ax_W at K ⊢
          rw [List.map_cons, ec]
          refine W.getf hx hb hown (hts _ hin rfl) g1 g2 ?_ g4 g5 rfl rfl hd K
          rw [hR.2.2.2.1 b (by rw [← hR.1]; exact (Array.getElem?_eq_some_iff.mp g3).1)]
          exact g3
        · have ha : 64 ≤ a := Nat.not_lt.mp ha
          have hn := hR.ok hc3 (Nat.not_lt.mpr ha)
          have h12 : q.1 < 12 := by
            rcases hR.own ha hn with z | ⟨ty, z1, z2, -⟩
            · rw [hc1] at z; exact z
            · rw [hc1] at z2; omega
          obtain ⟨hcl, hws, hnd⟩ := ax_cl_in q.1 h12
          have htc : ∀ w ∈ u_ws (ax_nm q.1) (ax_fT q.1) (ax_nf q.1), w.before args s = true := fun w hw => hts w (hws w hw) (ax_uws_good w hw)
          obtain ⟨hS, hfc, kC, hkC, hkind⟩ := KC.1 q.1 _ hcl
          obtain ⟨cf, kf, fi, f, g1, g2⟩ := hS q.2 hk
          have hat := (hR.2.2.2.2.1 a ha hn).1 (by rw [hc1]; exact h12)
          rw [hc1] at hat
          obtain ⟨cell, q1, q2, q3, q4⟩ := hat
          rw [hR.rd ha] at K
          unfold ax_W at K ⊢
          rw [List.map_cons, ax_adr_own ha]
          refine W.getf hx hb hown (hts _ hin rfl) g1 (u_facts hfc hkC (u_lays htc (fun _ z => z) hk) g1).1 q1 (by rw [q3]; exact fun z => by cases z) ?_ rfl rfl hd K
          rw [g2]
          exact q4 q.2 hk
      · cases hs
    · cases hs
  · cases hs
theorem ax_s_putfield {k : Nat} (hv : ax_vok av) (hs : ax_step ph m (.putfield k) pc ls st h = some (pc1, ls1, st1, h1)) (hd : decode (ax_code m) pc = .ok (.putfield k, 3)) (CX : ax_Cx base av D cA Hs Ls xs p s mth args meth c m) (hR : ax_Rep base av D cA Hs Ls xs ph h H) (hlo : ∀ q ∈ locs, base ≤ q.base)
    (K : ls1 = ls → h1.2 = h.2 → ∀ H1 locs1, ax_Rep base av D cA Hs Ls xs ph h1 H1 → (∀ q ∈ locs1, base ≤ q.base) → ax_W base av p l e R s mth args below meth c H1 locs1 cells slots Q pc1 cls st1) : ax_W base av p l e R s mth args below meth c H locs cells slots Q pc cls st := by
  obtain ⟨hx, hb, hml, hown, hts, hnm, KC⟩ := CX
  simp only [ax_step] at hs
  split at hs
  · rename_i v a r
    split at hs
    · rename_i q hq
      split at hs
      · rename_i hc
        cases hs
        have K := K rfl rfl
        obtain ⟨hc1, h12, hc2, hc3, hc4, hc5, hc6⟩ := hc
        obtain ⟨hin, -, hk⟩ := ax_fld_in hq
        have ha : 64 ≤ a := by
          unfold ax_wok at hc2
          simp only [Bool.and_eq_true, decide_eq_true_eq] at hc2
          exact hc2.1
        have hn := hR.ok hc3 (Nat.not_lt.mpr ha)
        obtain ⟨hcl, hws, hnd⟩ := ax_cl_in q.1 h12
        have htc : ∀ w ∈ u_ws (ax_nm q.1) (ax_fT q.1) (ax_nf q.1), w.before args s = true := fun w hw => hts w (hws w hw) (ax_uws_good w hw)
        have hKn := KC.1 q.1 _ hcl
        obtain ⟨hS, hfc, kC, hkC, hkind⟩ := hKn
        obtain ⟨cf, kf, fi, f, g1, g2⟩ := hS q.2 hk
        have hat := (hR.2.2.2.2.1 a ha hn).1 (by rw [hc1]; exact h12)
        rw [hc1] at hat
        obtain ⟨cell, q1, q2, q3, q4⟩ := hat
        obtain ⟨hpd, hdc, hff, -⟩ := ax_fy_in h12 hk
        obtain ⟨nn, nf⟩ := ax_nfit (base := base) hv h12 hk hc5 hc6
        have hap : ∀ x y, x < ax_nf q.1 → y < ax_nf q.1 → x ≠ y → (D.2 q.1) x ≠ (D.2 q.1) y := by
          intro x y hx1 hy1 hne
          obtain ⟨_, _, _, fa, hia, ea⟩ := hS x hx1
          obtain ⟨_, _, _, fb, hib, eb⟩ := hS y hy1
          rw [← ea, ← eb]
          refine u_apart (u_lays htc (fun _ z => z) hx1) (u_lays htc (fun _ z => z) hy1) hia hib ?_
          rw [(State.fieldFound?_type hia (ax_fy_in h12 hx1).1).1, (State.fieldFound?_type hib (ax_fy_in h12 hy1).1).1]
          exact hnd x hx1 y hy1 hne
        have hst := (u_facts hfc hkC (u_lays htc (fun _ z => z) hk) g1).1
        have hlay := htc _ (u_in_lay hk)
        have etv : ax_tv (ax_fc q.1 q.2) v = v := by
          rcases (ax_fy_in h12 hk).2.2.2 with ⟨e1, -⟩ | ⟨e1, -⟩ | ⟨e1, -⟩ | ⟨e1, -⟩ <;> rw [e1] at hc5 ⊢
          · obtain ⟨x, rfl⟩ := ax_kd_int hc5; rfl
          · obtain ⟨x, rfl⟩ := ax_kd_long hc5; rfl
          · rcases ax_kd_ref hc5 with rfl | ⟨x, rfl⟩ <;> rfl
          · obtain ⟨x, rfl⟩ := ax_kd_int hc5; rfl
        have fin : ∀ H' : Heap, H'[base + (a - 64)]? = some (cell.setSlot f.slot (ax_cv base av v)) → H'.size = H.size → (∀ q, q ≠ base + (a - 64) → H'[q]? = H[q]?) → ax_W base av p l e R s mth args below meth c H' (locs ++ [⟨base + (a - 64), f.slot⟩]) cells slots Q (pc + 3) cls st1 := by
          intro H' e1 e2 e3
          refine K H' _ (hR.wr ha hn hc2 e2 e3 ?_) ?_
          · refine ⟨fun _ => ?_, fun z => ?_⟩
            · show t_OB _ (D.1 (ax_ty h a).1) _ _ _ _
              have et : ax_ty (ax_wr h a q.2 v) a = ax_ty h a := rfl
              rw [et, hc1]
              rw [g2] at e1
              refine ⟨_, e1, q2, q3, fun j hj => ?_⟩
              rw [t_set q4 hap hk (ax_cv base av v) j hj]
              congr 1
              show updV _ q.2 _ j = ax_cv base av (ax_tv (ax_fc q.1 j) (if a = a ∧ j = q.2 then v else h.1 a j))
              by_cases ej : j = q.2
              · subst ej
                rw [if_pos ⟨rfl, rfl⟩, etv]
                simp [updV]
              · rw [if_neg (fun z => ej z.2)]
                simp [updV, ej]
            · have et : ax_ty (ax_wr h a q.2 v) a = ax_ty h a := rfl
              rw [et, hc1] at z
              omega
          · intro q hq
            rcases List.mem_append.mp hq with z | z
            · exact hlo q z
            · rw [List.mem_singleton.mp z]
              exact Nat.le_add_right _ _
        unfold ax_W at fin ⊢
        rw [List.map_cons, List.map_cons, ax_adr_own ha]
        by_cases hf : ax_ff q.1 q.2 = true
        · obtain ⟨hin2, hcl2⟩ := hc4 hf
          unfold u_lay at hlay
          rw [if_pos (by rw [hff]; exact hf)] at hlay
          have hcf : mth.cls = cf := by
            obtain ⟨_, _, c', _, _, _, -, -, hf', -, -, -, hown2, -⟩ := Cond.laysFinal_spec hlay
            have e1 : c' = cf := by have := g1.symm.trans hf'; simp at this; exact this.1.symm
            rw [hdc, hcl2] at hown2
            rw [← e1]; exact Option.some.inj (hown.symm.trans hown2)
          have h6 := u_fits hfc hkC hkind (Or.inr hlay) g1 hpd nn nf
          exact W.putFinK hx hb hown (hts _ hin rfl) g1 hst hcf (hnm.trans hin2) (by rw [q2]; exact h6) q1 q3 (by rw [g2]; exact k2_hasslot (q4 q.2 hk)) rfl rfl hd fin
        · unfold u_lay at hlay
          rw [if_neg (by rw [hff]; exact hf)] at hlay
          have h6 := u_store hfc hkC hkind hlay g1 hpd nn nf
          exact W.putK hx hb (f := f) ⟨hown, hts _ hin rfl, ⟨_, _, _, g1⟩, hst⟩ (by rw [q2]; exact h6) q1 q3 (by rw [g2]; exact k2_hasslot (q4 q.2 hk)) rfl rfl hd fin
      · cases hs
    · cases hs
  · cases hs
theorem ax_s_getstatic {k : Nat} (hs : ax_step ph m (.getstatic k) pc ls st h = some (pc1, ls1, st1, h1)) (hd : decode (ax_code m) pc = .ok (.getstatic k, 3)) (CX : ax_Cx base av D cA Hs Ls xs p s mth args meth c m) (hR : ax_Rep base av D cA Hs Ls xs ph h H) (K : ls1 = ls → h1 = h → ax_W base av p l e R s mth args below meth c H locs cells slots Q pc1 cls st1) : ax_W base av p l e R s mth args below meth c H locs cells slots Q pc cls st := by
  obtain ⟨hx, hb, hml, hown, hts, hnm, KC⟩ := CX
  simp only [ax_step] at hs
  split at hs
  · rename_i v hq
    cases hs
    have K := K rfl rfl
    obtain ⟨hm, n, hn, hlk⟩ := ax_sta_in hq
    obtain ⟨cf, kf, fi, f, a, cell, h1, h2, h3, h4, h5, h6, h7, h8⟩ := KC.2.2.2.2.2.2.2.2.1 _ hm n hn
    have h5 : H[a]? = some cell := by
      rw [hR.2.2.2.1 a (by rw [← hR.1]; exact (Array.getElem?_eq_some_iff.mp h5).1)]; exact h5
    exact W.gets hx hb hown (hts _ hlk rfl) h1 h2 h3 h4 h5 (fun e => by rw [e] at h6; cases h6) h7 rfl hd K
  · cases hs
theorem ax_s_ldc {k : Nat} (hs : ax_step ph m (.ldc k) pc ls st h = some (pc1, ls1, st1, h1)) (hd : decode (ax_code m) pc = .ok (.ldc k, 2)) (CX : ax_Cx base av D cA Hs Ls xs p s mth args meth c m) (K : ls1 = ls → h1 = h → ax_W base av p l e R s mth args below meth c H locs cells slots Q pc1 cls st1) : ax_W base av p l e R s mth args below meth c H locs cells slots Q pc cls st := by
  obtain ⟨hx, hb, hml, hown, hts, hnm, KC⟩ := CX
  simp only [ax_step] at hs
  split at hs
  · rename_i v hq
    cases hs
    exact lv_ldc hx hb hown (hts _ ((ax_ldc_in hq).2.1 _ rfl) rfl) hd (K rfl rfl)
  · rename_i v hq
    cases hs
    obtain ⟨hm, -, -, -, h4⟩ := ax_ldc_in hq
    obtain ⟨a, tx, ea, hr⟩ := KC.2.2.2.2.2.2.2.2.2 _ hm v rfl
    have K := K rfl rfl
    unfold ax_W at K ⊢
    rw [List.map_cons, ax_cv_c (Nat.lt_of_lt_of_le (h4 v rfl).1 (by decide)), ea] at K
    exact va_ldcS hx hb hown hr hd K
  · cases hs
theorem ax_ldcwS {own tx : String} {index q : Nat} {ls0 : Array Slot} {rest : List Value} {cc : ByteArray} (hexec : p.tables.exec = Jvm.exec) (hb : c.code = cc) (hown : s.vm.findClass own = some mth.cls) (hZ : vk_R own index tx q s) (hdg : decode cc pc = .ok (.ldc_w index, 3))
    (k : W p l e R s mth args below meth c H locs cells slots Q (F0 mth (pc + 3) ls0 (.ref q :: rest))) : W p l e R s mth args below meth c H locs cells slots Q (F0 mth pc ls0 rest) := by
  intro T hT X
  obtain ⟨t, a1, b1⟩ := k T hT X
  refine ⟨t, ?_, b1⟩
  obtain ⟨k0, cf, i, a, hk, hcf, hcp, -, hr, hev⟩ := Cond.stringRef_spec (args := #[]) (first := s) (o := none) (s := s) (idx := []) hown hZ.1
  have ha : a = q := by
    have := hev.symm.trans hZ.2
    cases this
    rfl
  subst ha
  obtain ⟨k', hk', he⟩ := X.warmed.alike.2.2 _ _ hk
  have hr' : k'.resolved[index]? = some (some (.string a)) := by
    rcases X.warmed.entry hk hk' index with h | ⟨h, -⟩
    · rw [h]; exact hr
    · rw [hr] at h; cases h
  jvm_step X.here [hexec, hb, hdg, ldc_w.wp_string (e := e) (s := T) (f := F0 mth pc ls0 rest) X.here.top hk' (by rw [he]; exact hcf) hcp hr']
  exact a1
theorem ax_s_ldcw {k : Nat} (hs : ax_step ph m (.ldc_w k) pc ls st h = some (pc1, ls1, st1, h1)) (hd : decode (ax_code m) pc = .ok (.ldc_w k, 3)) (CX : ax_Cx base av D cA Hs Ls xs p s mth args meth c m) (K : ls1 = ls → h1 = h → ax_W base av p l e R s mth args below meth c H locs cells slots Q pc1 cls st1) : ax_W base av p l e R s mth args below meth c H locs cells slots Q pc cls st := by
  obtain ⟨hx, hb, hml, hown, hts, hnm, KC⟩ := CX
  simp only [ax_step] at hs
  split at hs
  · rename_i v hq
    cases hs
    exact lv_ldcw hx hb hown (hts _ ((ax_ldc_in hq).2.1 _ rfl) rfl) hd (K rfl rfl)
  · rename_i v hq
    cases hs
    obtain ⟨hm, -, -, -, h4⟩ := ax_ldc_in hq
    obtain ⟨a, tx, ea, hr⟩ := KC.2.2.2.2.2.2.2.2.2 _ hm v rfl
    have K := K rfl rfl
    unfold ax_W at K ⊢
    rw [List.map_cons, ax_cv_c (Nat.lt_of_lt_of_le (h4 v rfl).1 (by decide)), ea] at K
    exact ax_ldcwS hx hb hown hr hd K
  · cases hs
theorem ax_s_ldc2 {k : Nat} (hs : ax_step ph m (.ldc2_w k) pc ls st h = some (pc1, ls1, st1, h1)) (hd : decode (ax_code m) pc = .ok (.ldc2_w k, 3)) (CX : ax_Cx base av D cA Hs Ls xs p s mth args meth c m) (K : ls1 = ls → h1 = h → ax_W base av p l e R s mth args below meth c H locs cells slots Q pc1 cls st1) : ax_W base av p l e R s mth args below meth c H locs cells slots Q pc cls st := by
  obtain ⟨hx, hb, hml, hown, hts, hnm, KC⟩ := CX
  simp only [ax_step] at hs
  split at hs
  · rename_i v hq
    cases hs
    exact lv_ldc2 hx hb hown (hts _ ((ax_ldc_in hq).2.2.1 _ rfl) rfl) hd (K rfl rfl)
  · rename_i v hq
    cases hs
    exact lv_ldc2d hx hb hown (hts _ ((ax_ldc_in hq).2.2.2.1 _ rfl) rfl) hd (K rfl rfl)
  · cases hs
end AxC
end
section
/-! ONE INSTRUCTION THAT LOOKS AT AN ARRAY, OR MAKES A CELL -/
section AxD
variable {base : Nat} {av : Nat → Value} {D : va_G} {cA : Nat → ClassId} {Hs : Heap} {Ls : Nat} {xs : Nat → Int32} {ph : Bool}
variable {p : Program} {l : Launch} {e : Env} {R : Room} {s : State} {mth : MethodId} {args : Array Value} {below : List Frame} {meth : Method} {c : Code} {H : Heap} {locs : List Loc} {cells slots : Nat} {Q : State → Prop} {m pc : Nat} {cls : Array Slot} {ls st ls1 st1 : List Value} {h h1 : AH} {pc1 : Nat}
/-- an array that is there, a constant's or the program's own: where it lies, what it holds -/
theorem ax_Rep.array (KC : ax_KC base av D cA Hs Ls xs s) (hR : ax_Rep base av D cA Hs Ls xs ph h H) {a : Nat} (hc : 20 ≤ (ax_ty h a).1) (hc9 : (ax_ty h a).1 ≠ 99) (hk : ax_ok ph h a = true) : ∃ (b : Nat) (cell : Cell) (ty : FieldType), ax_cv base av (.ref a) = .ref b ∧ H[b]? = some cell ∧ s.isArrayOf cell ty ∧ cell.vm ≠ .unknown ∧ (ax_ty h a).2 ≤ cell.slots.size ∧ cell.slots.size.toInt32 = Int32.ofNat (ax_ty h a).2 ∧ (∀ j : Nat, j < (ax_ty h a).2 → cell.slots[j]? = some (ax_cv base av (ax_ev (ax_ty h a).1 (ax_rd ph h a j)))) ∧ ((ax_ty h a).1 = 20 → ty = .int) ∧ ((ax_ty h a).1 = 21 → ty = .long) ∧ ((ax_ty h a).1 = 22 → ty = .byte) ∧ ((ax_ty h a).1 = 24 ∨ 30 ≤ (ax_ty h a).1 → ty.isReference = true) := by
  by_cases ha : a < 64
  · have et : ax_ty h a = ax_cty Ls a := by rw [ax_ty_con ha, hR.2.2.2.2.2.2.2.1]
    rw [et] at hc hc9 ⊢
    have ha9 : a < 49 := ax_con_lt (Ls := Ls) hc9
    obtain ⟨b, eb, cell, g1, g2, g3, g4, g5, g6, g7⟩ := KC.2.2.2.2.2.1 a ha9 hc hc9
    refine ⟨b, cell, _, by rw [ax_cv_c ha, eb], ?_, g2, g3, g4, g5, fun j hj => ?_, fun q => ?_, fun q => ?_, fun q => ?_, fun q => ?_⟩
    · rw [hR.2.2.2.1 b (by rw [← hR.1]; exact (Array.getElem?_eq_some_iff.mp g1).1)]
      exact g1
    · rw [g6 j hj, ax_rd_con hR ha9]
    · rw [q]; rfl
    · have : ∀ k, k < 49 → k ≠ 48 → (ax_ctyL.getD k (99, 0)).1 ≠ 21 := by decide +kernel
      unfold ax_cty at q
      split at q
      · exact absurd (show (20 : Nat) = 21 from q) (by decide)
      · exact absurd q (this a ha9 (by assumption))
    · rw [q]; rfl
    · unfold ax_cel
      rw [if_neg (by rcases q with q | q <;> omega), if_neg (by rcases q with q | q <;> omega)]
      rfl
  · have ha : 64 ≤ a := Nat.not_lt.mp ha
    have hn := hR.ok hk (Nat.not_lt.mpr ha)
    have hcell := hR.arr ha hn hc
    rcases hR.own ha hn with z | ⟨ty, z1, z2, z3, z4⟩
    · omega
    · obtain ⟨k1, k2⟩ := KC.2.1 _ ty z1
      refine ⟨_, _, ty, ax_adr_own ha, hcell, k1 _ _, (fun q => by cases q), by rw [arrV_size]; exact Nat.le_refl _, by (rw [arrV_size]; try rfl), fun j hj => by rw [arrV_read _ _ hj, hR.rd ha], fun q => ?_, fun q => ?_, fun q => ?_, fun q => ?_⟩
      · rw [q] at z1; cases z1; rfl
      · rw [q] at z1; cases z1; rfl
      · rw [q] at z1; cases z1
      · unfold ax_aty at z1
        rw [if_neg (by rcases q with q | q <;> omega), if_neg (by rcases q with q | q <;> omega)] at z1
        repeat' split at z1
        all_goals first | (cases z1; rfl) | (cases z1)
theorem ax_s_alen (hs : ax_step ph m .arraylength pc ls st h = some (pc1, ls1, st1, h1)) (hd : decode (ax_code m) pc = .ok (.arraylength, 1)) (CX : ax_Cx base av D cA Hs Ls xs p s mth args meth c m) (hR : ax_Rep base av D cA Hs Ls xs ph h H) (K : ls1 = ls → h1 = h → ax_W base av p l e R s mth args below meth c H locs cells slots Q pc1 cls st1) : ax_W base av p l e R s mth args below meth c H locs cells slots Q pc cls st := by
  obtain ⟨hx, hb, hml, hown, hts, hnm, KC⟩ := CX
  simp only [ax_step] at hs
  split at hs
  · rename_i a r
    split at hs
    · rename_i hc
      cases hs
      obtain ⟨b, cell, ty, e1, e2, e3, e4, e5, e6, -⟩ := ax_Rep.array KC hR hc.1 hc.2.1 hc.2.2
      have K := K rfl rfl
      unfold ax_W at K ⊢
      rw [List.map_cons, e1]
      exact W.alen hx hb e2 e3 e6 rfl rfl hd K
    · cases hs
  · cases hs
theorem ax_s_iaload (hs : ax_step ph m .iaload pc ls st h = some (pc1, ls1, st1, h1)) (hd : decode (ax_code m) pc = .ok (.iaload, 1)) (CX : ax_Cx base av D cA Hs Ls xs p s mth args meth c m) (hR : ax_Rep base av D cA Hs Ls xs ph h H) (K : ls1 = ls → h1 = h → ax_W base av p l e R s mth args below meth c H locs cells slots Q pc1 cls st1) : ax_W base av p l e R s mth args below meth c H locs cells slots Q pc cls st := by
  obtain ⟨hx, hb, hml, hown, hts, hnm, KC⟩ := CX
  simp only [ax_step] at hs
  split at hs
  · rename_i j a r
    split at hs
    · rename_i hc
      cases hs
      obtain ⟨b, cell, ty, e1, e2, e3, e4, e5, e6, e7, e8, e9, e10, e11⟩ := ax_Rep.array KC hR (by rw [hc.1]; decide) (by rw [hc.1]; decide) hc.2.2
      have hin := ax_in_inv hc.2.1
      have hlt : j.toNatClampNeg < (ax_ty h a).2 := Nat.not_le.mp fun q => hin (Or.inr q)
      have K := K rfl rfl
      have e7 := e7 _ hlt
      rw [hc.1] at e7
      unfold ax_W at K ⊢
      rw [List.map_cons, List.map_cons, e1]
      exact W.iald hx hb e2 (e8 hc.1 ▸ e3) e4 (fun q => by rcases q with q | q; exact hin (Or.inl q); exact absurd (Nat.lt_of_lt_of_le hlt e5) (Nat.not_lt.mpr q)) e7 rfl rfl hd K
    · cases hs
  · cases hs
theorem ax_s_baload (hs : ax_step ph m .baload pc ls st h = some (pc1, ls1, st1, h1)) (hd : decode (ax_code m) pc = .ok (.baload, 1)) (CX : ax_Cx base av D cA Hs Ls xs p s mth args meth c m) (hR : ax_Rep base av D cA Hs Ls xs ph h H) (K : ls1 = ls → h1 = h → ax_W base av p l e R s mth args below meth c H locs cells slots Q pc1 cls st1) : ax_W base av p l e R s mth args below meth c H locs cells slots Q pc cls st := by
  obtain ⟨hx, hb, hml, hown, hts, hnm, KC⟩ := CX
  simp only [ax_step] at hs
  split at hs
  · rename_i j a r
    split at hs
    · rename_i hc
      cases hs
      obtain ⟨b, cell, ty, e1, e2, e3, e4, e5, e6, e7, e8, e9, e10, e11⟩ := ax_Rep.array KC hR (by rw [hc.1]; decide) (by rw [hc.1]; decide) hc.2.2
      have hin := ax_in_inv hc.2.1
      have hlt : j.toNatClampNeg < (ax_ty h a).2 := Nat.not_le.mp fun q => hin (Or.inr q)
      have K := K rfl rfl
      have e7 := e7 _ hlt
      rw [hc.1] at e7
      unfold ax_W at K ⊢
      rw [List.map_cons, List.map_cons, e1]
      exact W.bald hx hb e2 (e10 hc.1 ▸ e3) e4 (fun q => by rcases q with q | q; exact hin (Or.inl q); exact absurd (Nat.lt_of_lt_of_le hlt e5) (Nat.not_lt.mpr q)) e7 rfl rfl hd K
    · cases hs
  · cases hs
theorem ax_s_laload (hs : ax_step ph m .laload pc ls st h = some (pc1, ls1, st1, h1)) (hd : decode (ax_code m) pc = .ok (.laload, 1)) (CX : ax_Cx base av D cA Hs Ls xs p s mth args meth c m) (hR : ax_Rep base av D cA Hs Ls xs ph h H) (K : ls1 = ls → h1 = h → ax_W base av p l e R s mth args below meth c H locs cells slots Q pc1 cls st1) : ax_W base av p l e R s mth args below meth c H locs cells slots Q pc cls st := by
  obtain ⟨hx, hb, hml, hown, hts, hnm, KC⟩ := CX
  simp only [ax_step] at hs
  split at hs
  · rename_i j a r
    split at hs
    · rename_i hc
      cases hs
      obtain ⟨b, cell, ty, e1, e2, e3, e4, e5, e6, e7, e8, e9, e10, e11⟩ := ax_Rep.array KC hR (by rw [hc.1]; decide) (by rw [hc.1]; decide) hc.2.2
      have hin := ax_in_inv hc.2.1
      have hlt : j.toNatClampNeg < (ax_ty h a).2 := Nat.not_le.mp fun q => hin (Or.inr q)
      have K := K rfl rfl
      have e7 := e7 _ hlt
      rw [hc.1] at e7
      unfold ax_W at K ⊢
      rw [List.map_cons, List.map_cons, e1]
      exact W.lald hx hb e2 (e9 hc.1 ▸ e3) e4 (fun q => by rcases q with q | q; exact hin (Or.inl q); exact absurd (Nat.lt_of_lt_of_le hlt e5) (Nat.not_lt.mpr q)) e7 rfl rfl hd K
    · cases hs
  · cases hs
theorem ax_ev_ref {k : Nat} (h : k = 24 ∨ 30 ≤ k) (v : Value) : ax_ev k v = toR v := by
  unfold ax_ev
  rw [if_neg (by rcases h with h | h <;> omega), if_neg (by rcases h with h | h <;> omega), if_neg (by rcases h with h | h <;> omega)]
theorem ax_s_aaload (hs : ax_step ph m .aaload pc ls st h = some (pc1, ls1, st1, h1)) (hd : decode (ax_code m) pc = .ok (.aaload, 1)) (CX : ax_Cx base av D cA Hs Ls xs p s mth args meth c m) (hR : ax_Rep base av D cA Hs Ls xs ph h H) (K : ls1 = ls → h1 = h → ax_W base av p l e R s mth args below meth c H locs cells slots Q pc1 cls st1) : ax_W base av p l e R s mth args below meth c H locs cells slots Q pc cls st := by
  obtain ⟨hx, hb, hml, hown, hts, hnm, KC⟩ := CX
  simp only [ax_step] at hs
  split at hs
  · rename_i j a r
    split at hs
    · rename_i hc
      cases hs
      obtain ⟨b, cell, ty, e1, e2, e3, e4, e5, e6, e7, e8, e9, e10, e11⟩ := ax_Rep.array KC hR (by rcases hc.1 with q | q <;> omega) hc.2.1 hc.2.2.2
      have hin := ax_in_inv hc.2.2.1
      have hlt : j.toNatClampNeg < (ax_ty h a).2 := Nat.not_le.mp fun q => hin (Or.inr q)
      have K := K rfl rfl
      have e7 := e7 _ hlt
      rw [ax_ev_ref hc.1] at e7
      unfold ax_W at K ⊢
      rw [List.map_cons, List.map_cons, e1]
      exact W.aald hx hb e2 e3 (e11 hc.1) e4 (fun q => by rcases q with q | q; exact hin (Or.inl q); exact absurd (Nat.lt_of_lt_of_le hlt e5) (Nat.not_lt.mpr q)) e7 rfl rfl hd K
    · cases hs
  · cases hs
theorem ax_wok_ge {a j : Nat} (h : ax_wok ph a j = true) : 64 ≤ a := by
  unfold ax_wok at h
  simp only [Bool.and_eq_true, decide_eq_true_eq] at h
  exact h.1
theorem ax_lo_app {k i : Nat} (hlo : ∀ q ∈ locs, base ≤ q.base) : ∀ q ∈ locs ++ [(⟨base + k, i⟩ : Loc)], base ≤ q.base := by
  intro q hq
  rcases List.mem_append.mp hq with z | z
  · exact hlo q z
  · rw [List.mem_singleton.mp z]
    exact Nat.le_add_right _ _
theorem ax_s_iastore (hs : ax_step ph m .iastore pc ls st h = some (pc1, ls1, st1, h1)) (hd : decode (ax_code m) pc = .ok (.iastore, 1)) (CX : ax_Cx base av D cA Hs Ls xs p s mth args meth c m) (hR : ax_Rep base av D cA Hs Ls xs ph h H) (hlo : ∀ q ∈ locs, base ≤ q.base)
    (K : ls1 = ls → h1.2 = h.2 → ∀ H1 locs1, ax_Rep base av D cA Hs Ls xs ph h1 H1 → (∀ q ∈ locs1, base ≤ q.base) → ax_W base av p l e R s mth args below meth c H1 locs1 cells slots Q pc1 cls st1) : ax_W base av p l e R s mth args below meth c H locs cells slots Q pc cls st := by
  obtain ⟨hx, hb, hml, hown, hts, hnm, KC⟩ := CX
  simp only [ax_step] at hs
  split at hs
  · rename_i x j a r
    split at hs
    · rename_i hc
      cases hs
      obtain ⟨hc1, hc2, hc3, hc4⟩ := hc
      have ha := ax_wok_ge hc3
      have hn := hR.ok hc4 (Nat.not_lt.mpr ha)
      have hcell := hR.arr ha hn (by rw [hc1]; decide)
      have hin := ax_in_inv hc2
      have K := K rfl rfl
      unfold ax_W at K ⊢
      rw [List.map_cons, List.map_cons, List.map_cons, ax_adr_own ha]
      refine W.iast hx hb hcell ((KC.2.1 20 .int rfl).1 _ _ |> fun z => by rw [hc1]; exact z) (fun q => by cases q) (by rw [arrV_size]; exact hin) rfl rfl hd fun H1 g1 g2 g3 => ?_
      exact K H1 _ (hR.wr ha hn hc3 g2 g3 (ax_at_arr (by rw [hc1]; decide) (by rw [hc1]; rfl) g1)) (ax_lo_app hlo)
    · cases hs
  · cases hs
theorem ax_s_lastore (hs : ax_step ph m .lastore pc ls st h = some (pc1, ls1, st1, h1)) (hd : decode (ax_code m) pc = .ok (.lastore, 1)) (CX : ax_Cx base av D cA Hs Ls xs p s mth args meth c m) (hR : ax_Rep base av D cA Hs Ls xs ph h H) (hlo : ∀ q ∈ locs, base ≤ q.base)
    (K : ls1 = ls → h1.2 = h.2 → ∀ H1 locs1, ax_Rep base av D cA Hs Ls xs ph h1 H1 → (∀ q ∈ locs1, base ≤ q.base) → ax_W base av p l e R s mth args below meth c H1 locs1 cells slots Q pc1 cls st1) : ax_W base av p l e R s mth args below meth c H locs cells slots Q pc cls st := by
  obtain ⟨hx, hb, hml, hown, hts, hnm, KC⟩ := CX
  simp only [ax_step] at hs
  split at hs
  · rename_i x j a r
    split at hs
    · rename_i hc
      cases hs
      obtain ⟨hc1, hc2, hc3, hc4⟩ := hc
      have ha := ax_wok_ge hc3
      have hn := hR.ok hc4 (Nat.not_lt.mpr ha)
      have hcell := hR.arr ha hn (by rw [hc1]; decide)
      have hin := ax_in_inv hc2
      have K := K rfl rfl
      unfold ax_W at K ⊢
      rw [List.map_cons, List.map_cons, List.map_cons, ax_adr_own ha]
      refine W.last hx hb hcell ((KC.2.1 21 .long rfl).1 _ _ |> fun z => by rw [hc1]; exact z) (fun q => by cases q) (by rw [arrV_size]; exact hin) rfl rfl hd fun H1 g1 g2 g3 => ?_
      exact K H1 _ (hR.wr ha hn hc3 g2 g3 (ax_at_arr (by rw [hc1]; decide) (by rw [hc1]; rfl) g1)) (ax_lo_app hlo)
    · cases hs
  · cases hs
/-- of an array of objects the element's class, as the tables have it -/
theorem ax_aty_obj {k : Nat} {ty : FieldType} (hk : 30 ≤ k) (h : ax_aty k = some ty) : ty = .object (ax_nm (k - 30)) ∧ k - 30 < 14 := by
  unfold ax_aty at h
  rw [if_neg (by omega), if_neg (by omega), if_neg (by omega)] at h
  repeat' split at h
  all_goals first | (rename_i q; subst q; cases h; exact ⟨rfl, by decide⟩) | (cases h)
theorem ax_s_aastore (hs : ax_step ph m .aastore pc ls st h = some (pc1, ls1, st1, h1)) (hd : decode (ax_code m) pc = .ok (.aastore, 1)) (CX : ax_Cx base av D cA Hs Ls xs p s mth args meth c m) (hR : ax_Rep base av D cA Hs Ls xs ph h H) (hlo : ∀ q ∈ locs, base ≤ q.base)
    (K : ls1 = ls → h1.2 = h.2 → ∀ H1 locs1, ax_Rep base av D cA Hs Ls xs ph h1 H1 → (∀ q ∈ locs1, base ≤ q.base) → ax_W base av p l e R s mth args below meth c H1 locs1 cells slots Q pc1 cls st1) : ax_W base av p l e R s mth args below meth c H locs cells slots Q pc cls st := by
  obtain ⟨hx, hb, hml, hown, hts, hnm, KC⟩ := CX
  simp only [ax_step] at hs
  split at hs
  · rename_i j a r
    split at hs
    · rename_i hc
      cases hs
      obtain ⟨⟨hc1, hc1b⟩, hc2, hc3, hc4⟩ := hc
      have ha := ax_wok_ge hc3
      have hn := hR.ok hc4 (Nat.not_lt.mpr ha)
      have hcell := hR.arr ha hn (by omega)
      have hin := ax_in_inv hc2
      have K := K rfl rfl
      rcases hR.own ha hn with z | ⟨ty, z1, z2, z3, z4⟩
      · omega
      obtain ⟨rfl, -⟩ := ax_aty_obj hc1 z1
      unfold ax_W at K ⊢
      rw [List.map_cons, List.map_cons, List.map_cons, ax_adr_own ha]
      refine va_WaastN (C := ax_nm ((ax_ty h a).1 - 30)) hx hb hcell ((KC.2.1 _ _ z1).1 _ _) (fun q => by cases q) (by rw [arrV_size]; exact hin) rfl rfl hd fun H1 g1 g2 g3 => ?_
      exact K H1 _ (hR.wr ha hn hc3 g2 g3 (ax_at_arr (by omega) (by rw [ax_ev_ref (Or.inr hc1)]; rfl) g1)) (ax_lo_app hlo)
    · cases hs
  · rename_i v j a r
    split at hs
    · rename_i hc
      cases hs
      obtain ⟨hcc, hv64, hvk, hc2, hc3, hc4⟩ := hc
      have h20 : 20 ≤ (ax_ty h a).1 := by rcases hcc with z | z <;> omega
      have ha := ax_wok_ge hc3
      have hn := hR.ok hc4 (Nat.not_lt.mpr ha)
      have hcell := hR.arr ha hn h20
      have hin := ax_in_inv hc2
      have K := K rfl rfl
      have hvn := hR.ok hvk (Nat.not_lt.mpr hv64)
      have e1 : ax_cv base av (.ref v) = .ref (base + (v - 64)) := ax_adr_own hv64
      -- the array's class, the element's cell
      have hel : ∃ (kA kv : Class) (cv : Cell) (t : FieldType), s.vm.classes[cA (ax_ty h a).1]? = some kA ∧ kA.kind = .array cv.cls t ∧ t.isReference = true ∧ H[base + (v - 64)]? = some cv ∧ (∀ q, cv.vm ≠ .statics q) ∧ s.vm.classes[cv.cls]? = some kv := by
        rcases hcc with ⟨hc1, hc1b, hcv⟩ | ⟨hc1, hcv⟩
        · rcases hR.own ha hn with z | ⟨ty, z1, z2, z3, z4⟩
          · omega
          obtain ⟨rfl, hlt14⟩ := ax_aty_obj hc1 z1
          have ek : (ax_ty h a).1 - 30 = (ax_ty h v).1 := by omega
          obtain ⟨hArr, kA, comp, k1, k2, k3, k4⟩ := KC.2.1 _ _ z1
          have h12 : (ax_ty h v).1 < 12 := by
            rcases hR.own hv64 hvn with z | ⟨ty, z1, z2, -⟩
            · exact z
            · omega
          obtain ⟨cell, q1, q2, q3, q4⟩ := (hR.2.2.2.2.1 v hv64 hvn).1 h12
          obtain ⟨-, hfc, kC, hkC, -⟩ := KC.1 _ _ (ax_cl_in _ h12).1
          rw [ek] at k3
          have hcomp : comp = cell.cls := by rw [q2]; exact Option.some.inj (k3.symm.trans hfc)
          subst hcomp
          exact ⟨kA, kC, cell, _, k1, k2, rfl, q1, (fun q z => by rw [z] at q3; cases q3), by rw [q2]; exact hkC⟩
        · obtain ⟨comp, c0, k, h1, h2, h3, h4, h5⟩ := arrayOver_specB KC.2.2.2.1.2.1
          have ec : cA 24 = c0 := Option.some.inj ((KC.2.1 24 (.array .int) rfl).2.symm.trans h5)
          have ec2 : cA 20 = comp := Option.some.inj ((KC.2.1 20 .int rfl).2.symm.trans h1)
          subst ec; subst ec2
          have hvc := hR.arr hv64 hvn (by rw [hcv]; decide)
          rw [hcv] at hvc
          obtain ⟨-, kv, hkv, -⟩ := (KC.2.1 20 .int rfl).1 0 (fun _ => .null)
          exact ⟨k, kv, _, _, by rw [hc1]; exact h3, h4, rfl, hvc, (fun q z => by cases z), hkv⟩
      obtain ⟨kA, kv, cv, t, k1, k2, k3, e2, e3, e5⟩ := hel
      have hrf : (ax_ty h a).1 = 24 ∨ 30 ≤ (ax_ty h a).1 := by rcases hcc with z | z <;> omega
      unfold ax_W at K ⊢
      rw [List.map_cons, List.map_cons, List.map_cons, ax_adr_own ha, e1]
      refine W.aast hx hb hcell (fun q z => by cases z) (fun z => by cases z) k1 k2 k3 e5 ⟨fun z => hin (Or.inl z), by rw [arrV_size]; exact Nat.not_le.mp fun z => hin (Or.inr z)⟩ e2 e3 e5 (va_asg _ _) rfl rfl hd fun H1 g1 g2 g3 => ?_
      exact K H1 _ (hR.wr ha hn hc3 g2 g3 (ax_at_arr h20 (by rw [ax_ev_ref hrf]; exact e1) g1)) (ax_lo_app hlo)
    · cases hs
  · cases hs
end AxD
end
section
/-! ONE INSTRUCTION THAT MAKES A CELL -/
section AxE
variable {base : Nat} {av : Nat → Value} {D : va_G} {cA : Nat → ClassId} {Hs : Heap} {Ls : Nat} {xs : Nat → Int32} {ph : Bool}
variable {p : Program} {l : Launch} {e : Env} {R : Room} {s : State} {mth : MethodId} {args : Array Value} {below : List Frame} {meth : Method} {c : Code} {H : Heap} {locs : List Loc} {cells slots : Nat} {Q : State → Prop} {m pc : Nat} {cls : Array Slot} {ls st ls1 st1 : List Value} {h h1 : AH} {pc1 : Nat}
theorem ax_defv {k j : Nat} (hk : k < 12) (hj : j < ax_nf k) : defaultValue (ax_fy k j) = ax_cv base av (ax_tv (ax_fc k j) (ax_df (ax_fc k j))) := by
  rcases (ax_fy_in hk hj).2.2.2 with ⟨e1, e2⟩ | ⟨e1, e2⟩ | ⟨e1, e2⟩ | ⟨e1, e2⟩
  · rw [e1, e2]; rfl
  · rw [e1, e2]; rfl
  · rw [e1]
    cases hf : ax_fy k j <;> rw [hf] at e2 <;> first | rfl | (exact absurd e2 (by decide))
  · rw [e1, e2]; rfl
theorem ax_s_new {k : Nat} (hs : ax_step ph m (.new k) pc ls st h = some (pc1, ls1, st1, h1)) (hd : decode (ax_code m) pc = .ok (.new k, 3)) (CX : ax_Cx base av D cA Hs Ls xs p s mth args meth c m) (hR : ax_Rep base av D cA Hs Ls xs ph h H) (hce : cells + (h1.2.2.1 - h.2.2.1) ≤ R.cells) (hsl : slots + (h1.2.2.2.1 - h.2.2.2.1) ≤ R.slots)
    (K : ls1 = ls → h.2.2.1 ≤ h1.2.2.1 → h.2.2.2.1 ≤ h1.2.2.2.1 → ∀ H1, ax_Rep base av D cA Hs Ls xs ph h1 H1 → ax_W base av p l e R s mth args below meth c H1 locs (cells + (h1.2.2.1 - h.2.2.1)) (slots + (h1.2.2.2.1 - h.2.2.2.1)) Q pc1 cls st1) : ax_W base av p l e R s mth args below meth c H locs cells slots Q pc cls st := by
  obtain ⟨hx, hb, hml, hown, hts, hnm, KC⟩ := CX
  simp only [ax_step] at hs
  split at hs
  · rename_i k1 hq
    obtain ⟨h2, hm, e1⟩ := Option.map_eq_some_iff.mp hs
    cases e1
    unfold ax_mkO at hm
    split at hm
    · rename_i hc
      cases hm
      obtain ⟨c1, c2, c3⟩ := hc
      have K := K rfl
      have z1 : (ax_mk h k1 (ax_nf k1) (fun j => ax_df (ax_fc k1 j))).2.2.1 - h.2.2.1 = 1 := Nat.add_sub_cancel_left ..
      have z2 : (ax_mk h k1 (ax_nf k1) (fun j => ax_df (ax_fc k1 j))).2.2.2.1 - h.2.2.2.1 = ax_nf k1 := Nat.add_sub_cancel_left ..
      rw [z1] at hce K
      rw [z2] at hsl K
      have K := K (Nat.le_add_right _ _) (Nat.le_add_right _ _)
      obtain ⟨hcl, hws, hnd⟩ := ax_cl_in k1 c2
      have htc : ∀ w ∈ u_ws (ax_nm k1) (ax_fT k1) (ax_nf k1), w.before args s = true := fun w hw => hts w (hws w hw) (ax_uws_good w hw)
      have hKn := KC.1 k1 _ hcl
      have hHs : H.size = base + (h.2.2.1 - 64) := by have := hR.2.2.1; omega
      have hia := (ax_adr_own (base := base) (av := av) c1)
      unfold ax_W at K ⊢
      refine W.newcK hx hb hown (hts _ (ax_new_in hq) rfl) (hts _ (ax_ins_in c2) rfl) (hts _ (ax_ini_in (by omega)) rfl) rfl hd hce hsl hKn.2.1 rfl fun H1 kC hkC e1 e2 e3 => ?_
      have hob := u_born (ax_fy k1) htc (fun _ z => z) hKn hkC e1 (fun j hj => (ax_fy_in c2 hj).1)
      have K := K H1 (hR.mk e2 e3 (fun _ => Or.inl c2) ?_)
      · rw [List.map_cons, hia, ← hHs] at K
        exact K
      · have et : (ax_ty (ax_mk h k1 (ax_nf k1) (fun j => ax_df (ax_fc k1 j))) h.2.2.1).1 = k1 := by
          rw [ax_ty_own c1]
          by_cases q : h.2.2.1 < 168
          · rw [if_pos q, c3 q]
          · rw [if_neg q]
            show (ax_dty (if h.2.2.1 = h.2.2.1 then k1 else _)).1 = k1
            rw [if_pos rfl]
            unfold ax_dty
            rw [if_pos (by omega)]
        refine ⟨fun _ => ?_, fun z => by rw [et] at z; omega⟩
        rw [et, ← hHs]
        refine hob.to fun j hj => ?_
        rw [ax_defv (base := base) (av := av) c2 hj]
        show _ = ax_cv base av (ax_tv _ (if h.2.2.1 = h.2.2.1 then _ else _))
        rw [if_pos rfl]
    · cases hm
  · cases hs
/-- an array that was made -/
theorem ax_dty_dcd {t len : Nat} (h : t = 20 ∨ t = 24) : ax_dty (ax_dcd t len) = (t, len) := by
  rcases h with rfl | rfl
  · show ax_dty (100 + 2 * len) = _
    unfold ax_dty
    rw [if_neg (by omega), if_pos (by omega), show (100 + 2 * len - 100) / 2 = len by omega]
  · show ax_dty (101 + 2 * len) = _
    unfold ax_dty
    rw [if_neg (by omega), if_neg (by omega), show (101 + 2 * len - 101) / 2 = len by omega]
theorem ax_dok_dcd {t len : Nat} (h : t = 20 ∨ t = 24) (hl : len < 19900) : ax_dok (ax_dcd t len) := by
  rcases h with rfl | rfl
  · exact Or.inr ⟨by show 100 ≤ 100 + 2 * len; omega, by show 100 + 2 * len < 40000; omega⟩
  · exact Or.inr ⟨by show 100 ≤ 101 + 2 * len; omega, by show 101 + 2 * len < 40000; omega⟩
theorem ax_Rep.mkA {H1 : Heap} (hR : ax_Rep base av D cA Hs Ls xs ph h H) {t len : Nat} {v : Value} (hm : ax_mkA h t len v = some h1) (ht : 20 ≤ t) (z : H1.size = H.size + 1) (oq : ∀ q, q < H.size → H1[q]? = H[q]?) (he : H1[H.size]? = some (arrV (cA t) len (fun _ => ax_cv base av (ax_ev t v)))) : ax_Rep base av D cA Hs Ls xs ph h1 H1 ∧ H.size = base + (h.2.2.1 - 64) ∧ 64 ≤ h.2.2.1 ∧ len ≤ 20000 ∧ h1.2.2.1 - h.2.2.1 = 1 ∧ h1.2.2.2.1 - h.2.2.2.1 = len ∧ h.2.2.1 ≤ h1.2.2.1 ∧ h.2.2.2.1 ≤ h1.2.2.2.1 := by
  unfold ax_mkA at hm
  split at hm
  · rename_i hc
    cases hm
    obtain ⟨c1, c3, c4, c5⟩ := hc
    have hHs : H.size = base + (h.2.2.1 - 64) := by have := hR.2.2.1; omega
    refine ⟨hR.mk z oq (fun q => ?_) ?_, hHs, c1, by omega, Nat.add_sub_cancel_left .., Nat.add_sub_cancel_left .., Nat.le_add_right _ _, Nat.le_add_right _ _⟩
    · exact ax_dok_dcd (c5 (by omega)) c3
    have et : ax_ty (ax_mk h (ax_dcd t len) len (fun _ => v)) h.2.2.1 = (t, len) := by
      rw [ax_ty_own c1]
      by_cases q : h.2.2.1 < 168
      · rw [if_pos q, c4 q]
      · rw [if_neg q]
        show ax_dty (if h.2.2.1 = h.2.2.1 then ax_dcd t len else _) = _
        rw [if_pos rfl, ax_dty_dcd (c5 q)]
    refine ⟨fun q => by rw [et] at q; exact absurd q (by show ¬ t < 12; omega), fun _ => ?_⟩
    rw [et, ← hHs, he]
    congr 2
    funext j
    show _ = ax_cv base av (ax_ev t (if h.2.2.1 = h.2.2.1 then v else _))
    rw [if_pos rfl]
  · cases hm
theorem ax_mkA_facts {t len : Nat} {v : Value} (hm : ax_mkA h t len v = some h1) : 64 ≤ h.2.2.1 ∧ len ≤ 20000 ∧ h1.2.2.1 - h.2.2.1 = 1 ∧ h1.2.2.2.1 - h.2.2.2.1 = len ∧ h.2.2.1 ≤ h1.2.2.1 ∧ h.2.2.2.1 ≤ h1.2.2.2.1 := by
  unfold ax_mkA at hm
  split at hm
  · rename_i hc
    cases hm
    exact ⟨hc.1, by omega, Nat.add_sub_cancel_left .., Nat.add_sub_cancel_left .., Nat.le_add_right _ _, Nat.le_add_right _ _⟩
  · cases hm
theorem ax_s_newarray {t : ArrayType} (hs : ax_step ph m (.newarray t) pc ls st h = some (pc1, ls1, st1, h1)) (hd : decode (ax_code m) pc = .ok (.newarray t, 2)) (CX : ax_Cx base av D cA Hs Ls xs p s mth args meth c m) (hR : ax_Rep base av D cA Hs Ls xs ph h H) (hce : cells + (h1.2.2.1 - h.2.2.1) ≤ R.cells) (hsl : slots + (h1.2.2.2.1 - h.2.2.2.1) ≤ R.slots)
    (K : ls1 = ls → h.2.2.1 ≤ h1.2.2.1 → h.2.2.2.1 ≤ h1.2.2.2.1 → ∀ H1, ax_Rep base av D cA Hs Ls xs ph h1 H1 → ax_W base av p l e R s mth args below meth c H1 locs (cells + (h1.2.2.1 - h.2.2.1)) (slots + (h1.2.2.2.1 - h.2.2.2.1)) Q pc1 cls st1) : ax_W base av p l e R s mth args below meth c H locs cells slots Q pc cls st := by
  obtain ⟨hx, hb, hml, hown, hts, hnm, KC⟩ := CX
  simp only [ax_step] at hs
  split at hs
  · rename_i n r
    split at hs
    · cases hs
    · rename_i hn
      split at hs
      · obtain ⟨h2, hm, e1⟩ := Option.map_eq_some_iff.mp hs
        cases e1
        obtain ⟨c1, c3, f3, f4, f5, f6⟩ := ax_mkA_facts hm
        have K := K rfl f5 f6
        rw [f3] at hce K
        rw [f4] at hsl K
        unfold ax_W at K ⊢
        rw [List.map_cons]
        refine va_newaK (atype := .int) hx hb (hts _ ax_arr_in.1 rfl) rfl hd rfl hn rfl (Nat.le_trans (Nat.mul_le_mul_right _ c3) (by decide)) hce hsl rfl fun H1 cAr e1 e2 e3 e4 e5 => ?_
        have ec : cA 20 = cAr := Option.some.inj ((KC.2.1 20 .int rfl).2.symm.trans e5)
        subst ec
        obtain ⟨g1, g2, -⟩ := hR.mkA hm (by decide) e2 e3 e1
        have K := K H1 g1
        rw [List.map_cons, ax_adr_own c1, ← g2] at K
        exact K
      · obtain ⟨h2, hm, e1⟩ := Option.map_eq_some_iff.mp hs
        cases e1
        obtain ⟨c1, c3, f3, f4, f5, f6⟩ := ax_mkA_facts hm
        have K := K rfl f5 f6
        rw [f3] at hce K
        rw [f4] at hsl K
        unfold ax_W at K ⊢
        rw [List.map_cons]
        refine va_newaK (atype := .long) hx hb (hts _ ax_arr_in.2.1 rfl) rfl hd rfl hn rfl (Nat.le_trans (Nat.mul_le_mul_right _ c3) (by decide)) hce hsl rfl fun H1 cAr e1 e2 e3 e4 e5 => ?_
        have ec : cA 21 = cAr := Option.some.inj ((KC.2.1 21 .long rfl).2.symm.trans e5)
        subst ec
        obtain ⟨g1, g2, -⟩ := hR.mkA hm (by decide) e2 e3 e1
        have K := K H1 g1
        rw [List.map_cons, ax_adr_own c1, ← g2] at K
        exact K
      · cases hs
  · cases hs
theorem ax_anew_ok : (ax_newT.all fun q => (ax_aty (30 + q.2)).isNone || decide (q.2 = 17) || decide (ax_nm q.2 ∈ ax_aoL)) = true := by decide +kernel
theorem ax_sty_30 : ∀ i, i < 104 → 30 ≤ (ax_styL.getD i (99, 0)).1 → (ax_aty (ax_styL.getD i (99, 0)).1).isSome = true := by decide +kernel
theorem ax_s_anewarray {k : Nat} (hs : ax_step ph m (.anewarray k) pc ls st h = some (pc1, ls1, st1, h1)) (hd : decode (ax_code m) pc = .ok (.anewarray k, 3)) (CX : ax_Cx base av D cA Hs Ls xs p s mth args meth c m) (hR : ax_Rep base av D cA Hs Ls xs ph h H) (hce : cells + (h1.2.2.1 - h.2.2.1) ≤ R.cells) (hsl : slots + (h1.2.2.2.1 - h.2.2.2.1) ≤ R.slots)
    (K : ls1 = ls → h.2.2.1 ≤ h1.2.2.1 → h.2.2.2.1 ≤ h1.2.2.2.1 → ∀ H1, ax_Rep base av D cA Hs Ls xs ph h1 H1 → ax_W base av p l e R s mth args below meth c H1 locs (cells + (h1.2.2.1 - h.2.2.1)) (slots + (h1.2.2.2.1 - h.2.2.2.1)) Q pc1 cls st1) : ax_W base av p l e R s mth args below meth c H locs cells slots Q pc cls st := by
  obtain ⟨hx, hb, hml, hown, hts, hnm, KC⟩ := CX
  simp only [ax_step] at hs
  split at hs
  · rename_i n r
    split at hs
    · cases hs
    · rename_i hn
      split at hs
      · rename_i k1 hq
        obtain ⟨h2, hm, e1⟩ := Option.map_eq_some_iff.mp hs
        cases e1
        obtain ⟨c1, c3, f3, f4, f5, f6⟩ := ax_mkA_facts hm
        have K := K rfl f5 f6
        rw [f3] at hce K
        rw [f4] at hsl K
        by_cases h17 : k1 = 17
        · subst h17
          rw [if_pos rfl] at hm
          have hlk : (Cond.classLink (ax_nm (ax_own m)) k (FieldType.array .int).toString).before args s = true := by
            obtain ⟨g1, g2⟩ := ax_new17 hq
            rw [g1, g2]
            exact hts _ ax_arr_in.2.2.2.2.2.2.2.2.2 rfl
          unfold ax_W at K ⊢
          rw [List.map_cons]
          refine W.anewA (t := .int) hx hb hown hlk KC.2.2.2.1.2.1 rfl hd rfl hn (Nat.le_trans (Nat.mul_le_mul_right _ c3) (by decide)) hce hsl fun cAr kA comp g1 g2 g3 g4 => ?_
          have ec : cA 24 = cAr := Option.some.inj ((KC.2.1 24 (.array .int) rfl).2.symm.trans g1)
          subst ec
          obtain ⟨g5, g6, -⟩ := hR.mkA (H1 := H.push { cls := cA 24, slots := Array.replicate n.toNatClampNeg .null, vm := .none }) hm (by decide) (by rw [Array.size_push]) (fun q hq => by rw [Array.getElem?_push, if_neg (Nat.ne_of_lt hq)]) (by rw [Array.getElem?_push_size, ← arrV_new, ax_ev_ref (Or.inl rfl)]; rfl)
          have K := K _ g5
          rw [List.map_cons, ax_adr_own c1, ← g6] at K
          exact K
        rw [if_neg h17] at hm
        have hsty : ∃ ty, ax_aty (30 + k1) = some ty := by
          unfold ax_mkA at hm
          split at hm
          · rename_i hc
            by_cases q : h.2.2.1 < 168
            · have hc3 := hc.2.2.1 q
              have := ax_sty_30 (h.2.2.1 - 64) (by omega) (by rw [hc3]; exact Nat.le_add_right _ _)
              rw [hc3] at this
              exact Option.isSome_iff_exists.mp this
            · have hc3 := hc.2.2.2 q
              omega
          · cases hm
        obtain ⟨ty, hty⟩ := hsty
        obtain ⟨e9, -⟩ := ax_aty_obj (Nat.le_add_right _ _) hty
        rw [Nat.add_sub_cancel_left] at e9
        subst e9
        have hover : va_AO (ax_nm k1) s := by
          refine KC.2.2.2.1.1 _ ?_
          have h5 := List.all_eq_true.mp ax_anew_ok _ (ax_lookup_mem hq)
          rw [hty] at h5
          simpa [h17] using h5
        unfold ax_W at K ⊢
        rw [List.map_cons]
        refine W.anew hx hb hown (hts _ (ax_new_in hq) rfl) (va_AO.use hover) rfl hd rfl hn (Nat.le_trans (Nat.mul_le_mul_right _ c3) (by decide)) hce hsl fun cAr kA comp g1 g2 g3 g4 => ?_
        obtain ⟨-, kA', comp', k1', k2', k3', k4'⟩ := KC.2.1 _ _ hty
        have ec : cA (30 + k1) = cAr := Option.some.inj (k4'.symm.trans g1)
        subst ec
        obtain ⟨g5, g6, -⟩ := hR.mkA (H1 := H.push { cls := cA (30 + k1), slots := Array.replicate n.toNatClampNeg .null, vm := .none }) hm (by omega) (by rw [Array.size_push]) (fun q hq => by rw [Array.getElem?_push, if_neg (Nat.ne_of_lt hq)]) (by rw [Array.getElem?_push_size, ← arrV_new, ax_ev_ref (Or.inr (Nat.le_add_right _ _))]; rfl)
        have K := K _ g5
        rw [List.map_cons, ax_adr_own c1, ← g6] at K
        exact K
      · cases hs
  · cases hs
end AxE
end
section
/-! new int[n][w] -/
theorem ax_outer (c : ClassId) (N h0 : Nat) : ∀ i : Nat, Jvm.Free.Multi.outerC c N h0 i = arrV c N (fun j => if j < i then .ref (h0 + 1 + j) else .null)
  | 0 => by
    show ({ cls := c, slots := Array.replicate N .null, vm := .none } : Cell) = _
    rw [arrV_new]
    refine congrArg (arrV c N) (funext fun j => ?_)
    simp
  | i + 1 => by
    show (Jvm.Free.Multi.outerC c N h0 i).setSlot i (.ref (h0 + 1 + i)) = _
    rw [ax_outer c N h0 i, arrV_store]
    refine congrArg (arrV c N) (funext fun j => ?_)
    by_cases e : j = i
    · subst e
      simp [updV]
    · by_cases h : j < i
      · simp [updV, e, h, Nat.lt_succ_of_lt h]
      · simp [updV, e, h, show ¬ j < i + 1 by omega]
theorem ax_arrV_cong {c : ClassId} {n : Nat} {f g : Nat → Value} (h : ∀ j, j < n → f j = g j) : arrV c n f = arrV c n g := by
  unfold arrV
  congr 1
  apply Array.ext
  · simp
  · intro i h1 h2
    simp only [Array.getElem_ofFn]
    exact h i (by simpa using h1)
section AxF
variable {base : Nat} {av : Nat → Value} {D : va_G} {cA : Nat → ClassId} {Hs : Heap} {Ls : Nat} {xs : Nat → Int32} {ph : Bool}
variable {p : Program} {l : Launch} {e : Env} {R : Room} {s : State} {mth : MethodId} {args : Array Value} {below : List Frame} {meth : Method} {c : Code} {H : Heap} {locs : List Loc} {cells slots : Nat} {Q : State → Prop} {m pc : Nat} {cls : Array Slot} {ls st ls1 st1 : List Value} {h h1 : AH} {pc1 : Nat}
theorem ax_Rep.mkM {H1 : Heap} (hR : ax_Rep base av D cA Hs Ls xs ph h H) {n w : Nat} (hm : ax_mkM h n w = some h1) (z : H1.size = H.size + 1 + n) (oq : ∀ q, q < H.size → H1[q]? = H[q]?) (he : H1[H.size]? = some (arrV (cA 24) n (fun j => if j < n then .ref (H.size + 1 + j) else .null))) (hi : ∀ j, j < n → H1[H.size + 1 + j]? = some (arrV (cA 20) w (fun _ => .int 0))) : ax_Rep base av D cA Hs Ls xs ph h1 H1 := by
  unfold ax_mkM at hm
  split at hm
  · rename_i hc
    cases hm
    obtain ⟨c1, c2, c3, c4, c5, c6⟩ := hc
    have c6 : ∀ i, i < n → ax_styL.getD (h.2.2.1 + 1 + i - 64) (99, 0) = (20, w) := by
      intro i hi
      have := List.all_eq_true.mp c6 i (List.mem_range.mpr hi)
      simpa using this
    obtain ⟨h1, h2, h3, h4, h5, h6, h7, h8, h9, h10⟩ := hR
    have hb : base ≤ H.size := by omega
    have hHs : H.size = base + (h.2.2.1 - 64) := by omega
    refine ⟨h1, by show 64 ≤ h.2.2.1 + 1 + n; omega, by show H1.size + 64 = base + (h.2.2.1 + 1 + n); omega, fun q hq => by rw [oq q (by omega)]; exact h4 q hq, fun k hk hkn => ?_, fun k hk hkn => ?_, fun i => ?_, h8, fun hp => by have := h9 hp; omega, fun hp b i q hb hq => by have := h9 hp; omega⟩
    · have hkn : k < h.2.2.1 + 1 + n := hkn
      by_cases e0 : k = h.2.2.1
      · subst e0
        refine ⟨fun q => ?_, fun _ => ?_⟩
        · rw [ax_ty_own hk, if_pos (by omega), c5] at q
          exact absurd q (by decide : ¬ 24 < 12)
        · rw [ax_ty_own hk, if_pos (by omega), c5, ← hHs, he]
          congr 1
          refine ax_arrV_cong fun j hj => ?_
          rw [if_pos hj]
          show _ = ax_cv base av (ax_ev 24 (if h.2.2.1 = h.2.2.1 then .ref (h.2.2.1 + 1 + j) else _))
          rw [if_pos rfl]
          show _ = ax_cv base av (.ref (h.2.2.1 + 1 + j))
          rw [ax_adr_own (Nat.le_trans c1 (Nat.le_trans (Nat.le_succ _) (Nat.le_add_right _ _)))]
          congr 1
          rw [hHs]
          generalize h.2.2.1 = z at c1 ⊢
          show (base + (z - 64) + 1 + j : Nat) = base + (z + 1 + j - 64)
          omega
      · by_cases e1 : h.2.2.1 < k
        · obtain ⟨i, hi', rfl⟩ : ∃ i, i < n ∧ k = h.2.2.1 + 1 + i := ⟨k - h.2.2.1 - 1, by omega, by omega⟩
          refine ⟨fun q => ?_, fun _ => ?_⟩
          · rw [ax_ty_own hk, if_pos (by omega), c6 i hi'] at q
            exact absurd q (by show ¬ 20 < 12; decide)
          · rw [ax_ty_own hk, if_pos (by omega), c6 i hi']
            have ea : base + (h.2.2.1 + 1 + i - 64) = H.size + 1 + i := by omega
            rw [ea, hi i hi']
            congr 1
            refine ax_arrV_cong fun j hj => ?_
            show _ = ax_cv base av (ax_ev 20 (if h.2.2.1 + 1 + i = h.2.2.1 then _ else if h.2.2.1 < h.2.2.1 + 1 + i ∧ h.2.2.1 + 1 + i < h.2.2.1 + 1 + n then .int 0 else _))
            rw [if_neg (by omega), if_pos (by omega)]
            rfl
        · have hlt : k < h.2.2.1 := by omega
          obtain ⟨g1, g2⟩ := h5 k hk hlt
          have e2 : H1[base + (k - 64)]? = H[base + (k - 64)]? := oq _ (by omega)
          refine ⟨fun hc => ?_, fun hc => ?_⟩
          · refine (g1 hc).kept e2 |>.to fun j hj => ?_
            show ax_cv base av (ax_tv _ (h.1 k j)) = ax_cv base av (ax_tv _ (if k = h.2.2.1 then _ else if h.2.2.1 < k ∧ k < h.2.2.1 + 1 + n then _ else h.1 k j))
            rw [if_neg e0, if_neg (by omega)]
            rfl
          · rw [e2]
            refine (g2 hc).trans ?_
            show some (arrV (cA (ax_ty h k).1) (ax_ty h k).2 _) = some (arrV (cA (ax_ty h k).1) (ax_ty h k).2 _)
            congr 1
            refine ax_arrV_cong fun j hj => ?_
            show _ = ax_cv base av (ax_ev _ (if k = h.2.2.1 then _ else if h.2.2.1 < k ∧ k < h.2.2.1 + 1 + n then _ else h.1 k j))
            rw [if_neg e0, if_neg (by omega)]
            rfl
    · have hkn : k < h.2.2.1 + 1 + n := hkn
      omega
    · show (if 48 = h.2.2.1 then _ else if h.2.2.1 < 48 ∧ _ then _ else h.1 48 i) = _
      rw [if_neg (by omega), if_neg (by omega)]
      exact h7 i
  · cases hm
theorem ax_s_multi {k d : Nat} (hs : ax_step ph m (.multianewarray k d) pc ls st h = some (pc1, ls1, st1, h1)) (hd : decode (ax_code m) pc = .ok (.multianewarray k d, 4)) (CX : ax_Cx base av D cA Hs Ls xs p s mth args meth c m) (hR : ax_Rep base av D cA Hs Ls xs ph h H) (hce : cells + (h1.2.2.1 - h.2.2.1) ≤ R.cells) (hsl : slots + (h1.2.2.2.1 - h.2.2.2.1) ≤ R.slots)
    (K : ls1 = ls → h.2.2.1 ≤ h1.2.2.1 → h.2.2.2.1 ≤ h1.2.2.2.1 → ∀ H1, ax_Rep base av D cA Hs Ls xs ph h1 H1 → ax_W base av p l e R s mth args below meth c H1 locs (cells + (h1.2.2.1 - h.2.2.1)) (slots + (h1.2.2.2.1 - h.2.2.2.1)) Q pc1 cls st1) : ax_W base av p l e R s mth args below meth c H locs cells slots Q pc cls st := by
  obtain ⟨hx, hb, hml, hown, hts, hnm, KC⟩ := CX
  simp only [ax_step] at hs
  split at hs
  · rename_i w n r
    split at hs
    · cases hs
    · rename_i hc0
      have hn : ¬ n < 0 := fun q => hc0 (Or.inl q)
      have hw : ¬ w < 0 := fun q => hc0 (Or.inr (Or.inl q))
      have hd2 : d = 2 := Classical.byContradiction fun q => hc0 (Or.inr (Or.inr (Or.inl q)))
      have hmn : ax_mna (ax_own m) k = true := by
        cases hq : ax_mna (ax_own m) k with
        | true => rfl
        | false => exact absurd (Or.inr (Or.inr (Or.inr hq))) hc0
      subst hd2
      obtain ⟨h2, hm, e1⟩ := Option.map_eq_some_iff.mp hs
      cases e1
      have hlk := ax_mna_in hmn
      have hm0 := hm
      unfold ax_mkM at hm0
      split at hm0
      · rename_i hc
        obtain ⟨c1, c2, c3, c4, c5, c6⟩ := hc
        have hh : h1.2.2.1 = h.2.2.1 + 1 + n.toNatClampNeg ∧ h1.2.2.2.1 = h.2.2.2.1 + n.toNatClampNeg + n.toNatClampNeg * w.toNatClampNeg := by
          have := Option.some.inj hm0
          rw [← this]
          exact ⟨rfl, rfl⟩
        have K := K rfl (by rw [hh.1]; omega) (by rw [hh.2]; omega)
        have z1 : h1.2.2.1 - h.2.2.1 = 1 + n.toNatClampNeg := by rw [hh.1]; omega
        have z2 : h1.2.2.2.1 - h.2.2.2.1 = n.toNatClampNeg + n.toNatClampNeg * w.toNatClampNeg := by rw [hh.2]; omega
        rw [z1] at hce K
        rw [z2] at hsl K
        unfold ax_W at K ⊢
        rw [List.map_cons, List.map_cons]
        intro T hT Xs
        obtain ⟨vm₁, cB, comp, -, fA, fC, hO, -, X', step⟩ := Xs.multianewarray2F (ty := .int) hx hown (hts _ hlk rfl) KC.2.2.2.1.2.1 (hts _ ax_arr_in.1 rfl) (g := F0 mth pc cls (.int w :: .int n :: r.map (ax_cv base av))) rfl (by rw [hb]; exact hd) rfl hn hw (Nat.le_trans (Nat.mul_le_mul_right _ c3) (by decide)) (Nat.le_trans (Nat.mul_le_mul_right _ c4) (by decide)) (Nat.le_trans c4 (by decide)) rfl rfl hce hsl
        have ec : cA 24 = cB := Option.some.inj ((KC.2.1 24 (.array .int) rfl).2.symm.trans fA)
        have ec2 : cA 20 = comp := Option.some.inj ((KC.2.1 20 .int rfl).2.symm.trans fC)
        subst ec; subst ec2
        generalize hF : Jvm.Free.Multi.fill (T.setVm vm₁) (cA 24) (cA 20) n.toNatClampNeg w.toNatClampNeg (defaultValue .int) n.toNatClampNeg = F at X' step
        have hTh : (T.setVm vm₁).heap = H := hT
        obtain ⟨f1, f2, -, -⟩ := Jvm.Free.Multi.fill_facts (T.setVm vm₁) (cA 24) (cA 20) n.toNatClampNeg w.toNatClampNeg (defaultValue .int) n.toNatClampNeg
        rw [hF, hTh] at f1 f2
        have hold : ∀ x : Nat, x < H.size → F.heap[x]? = H[x]? := fun x hx => by
          have := Jvm.Free.Multi.fill_old (T.setVm vm₁) (cA 24) (cA 20) n.toNatClampNeg w.toNatClampNeg (defaultValue .int) (a := x) (by rw [hTh]; exact hx) n.toNatClampNeg
          rw [hF, hTh] at this
          exact this
        have hrow : ∀ j : Nat, j < n.toNatClampNeg → F.heap[H.size + 1 + j]? = some (arrV (cA 20) w.toNatClampNeg (fun _ => .int 0)) := fun j hj => by
          have := Jvm.Free.Multi.fill_inner (T.setVm vm₁) (cA 24) (cA 20) n.toNatClampNeg w.toNatClampNeg (defaultValue .int) n.toNatClampNeg j hj
          rw [hF, hTh] at this
          rw [this]
          show some ({ cls := cA 20, slots := Array.replicate w.toNatClampNeg (.int 0), vm := .none } : Cell) = _
          rw [arrV_new]
        rw [ax_outer] at f2
        have hR1 := hR.mkM hm f1 hold f2 hrow
        have K := K F.heap hR1 F rfl (by rw [← Nat.add_assoc, ← Nat.add_assoc]; exact X')
        obtain ⟨t, a1, b1⟩ := K
        refine ⟨t, step t ?_, b1⟩
        rw [hT]
        have e8 : H.size = base + (h.2.2.1 - 64) := by have := hR.2.2.1; omega
        rw [e8, ← ax_adr_own (av := av) c1]
        exact a1
      · cases hm0
  · cases hs
end AxF
end
section
/-! CALLS: the words of the methods and of the calls -/
/-- the words that a callee may take over -/
def ax_WS : List Cond := lw_tbl.filter goodWord
def ax_codeW (m : Nat) : Cond := .code (ax_y m) (ax_code m) (ax_L m) (ax_ret m)
set_option maxRecDepth 100000 in
theorem ax_code_ok : (List.range 112).map ax_codeW = (ax_cp.take 112).filterMap (fun i => lw_tbl[i]?) := rfl
theorem ax_code_in {m : Nat} (h : m < 112) : ax_codeW m ∈ lw_tbl := by
  have h1 : ax_codeW m ∈ (List.range 112).map ax_codeW := List.mem_map.mpr ⟨m, List.mem_range.mpr h, rfl⟩
  rw [ax_code_ok] at h1
  obtain ⟨i, -, hi⟩ := List.mem_filterMap.mp h1
  exact List.mem_of_getElem? hi
def ax_ordI : List Nat := [0, 1, 2, 3, 4, 5, 6, 7, 8, 9, 10, 11, 12, 13, 14, 16, 18, 19, 20, 21, 22, 23, 24, 26, 27, 28, 29, 30, 31, 33, 34, 39, 40, 41, 42, 43, 44, 45, 46, 47, 48, 49, 50, 51, 52, 53, 54, 55, 57, 58, 59, 60, 61, 62, 63, 64, 65, 66, 67, 68, 69, 70, 71, 73, 74, 75, 76, 77, 78, 79, 81, 82, 85, 86, 87, 88, 89, 90, 91, 93, 94, 95, 96, 97, 98, 99, 100, 101, 102, 103, 104, 105, 107, 108, 109, 110]
def ax_ordS : List Nat := [9, 10, 13, 27, 42, 43, 53, 55, 60, 64, 66, 67, 69, 70, 71, 74, 95, 96, 99, 100, 101, 8, 11, 12, 14, 16, 18, 19, 20, 21, 22, 23, 24, 26, 28, 29, 30, 31, 33, 34, 39, 40, 41, 44, 45, 46, 47, 48, 49, 50, 51, 52, 54, 57, 58, 59, 61, 62, 63, 65, 68, 73, 75, 76, 77, 78, 79, 81, 82, 86, 87, 88, 89, 90, 91, 93, 94, 98, 102, 103, 107, 108, 109, 110]
def ax_ordT : List Nat := [15, 17, 25, 32, 35, 36, 37, 38, 56, 72, 80, 83, 84, 92, 106, 111]
set_option maxRecDepth 100000 in
theorem ax_ordI_ok : ax_sub (ax_ordI.map fun m => .instanceMethod (ax_y m)) lw_tbl = true := by decide +kernel
set_option maxRecDepth 100000 in
theorem ax_ordS_ok : ax_sub (ax_ordS.map fun m => .selects (ax_nm (ax_own m)) (ax_y m) (ax_y m)) lw_tbl = true := by decide +kernel
set_option maxRecDepth 100000 in
theorem ax_ordT_ok : ax_sub (ax_ordT.map fun m => .static (ax_y m)) lw_tbl = true := by decide +kernel
def ax_mathN (k : Nat) : MethodName := if k = 5 then Lib.Math.max.name else if k = 6 then Lib.Math.min.name else if k = 7 then Lib.MathLoose.abs_long.x else Lib.MathLoose.max_long.x
def ax_caW (q : (Nat × Nat) × (Nat × Nat × Nat)) : Cond := if q.2.1 = 9 then .methodLink (ax_nm q.1.1) q.1.2 ⟨"[I", "clone", "()Ljava/lang/Object;"⟩ else if 5 ≤ q.2.1 ∧ q.2.1 < 9 then .methodLink (ax_nm q.1.1) q.1.2 (ax_mathN q.2.1) else if q.2.1 = 4 then .methodLink (ax_nm q.1.1) q.1.2 Lib.objectInit else if q.2.1 = 3 ∨ q.2.1 = 10 then .methodLinkNest (ax_nm q.1.1) q.1.2 (ax_y q.2.2.1) (ax_host q.1.1) else .methodLink (ax_nm q.1.1) q.1.2 (ax_y q.2.2.1)
set_option maxRecDepth 100000 in
theorem ax_caT_ok : ax_sub (ax_caT.map ax_caW) lw_tbl = true := by decide +kernel
set_option maxRecDepth 100000 in
theorem ax_obj_ok : ax_sub [.instanceMethod Lib.objectInit, .code Lib.objectInit ⟨#[0xb1]⟩ 1 none] lw_tbl = true := by decide +kernel
theorem ax_obj_in : Cond.instanceMethod Lib.objectInit ∈ lw_tbl ∧ Cond.code Lib.objectInit ⟨#[0xb1]⟩ 1 none ∈ lw_tbl := ⟨ax_sub_mem _ _ ax_obj_ok _ List.mem_cons_self, ax_sub_mem _ _ ax_obj_ok _ (List.mem_cons_of_mem _ List.mem_cons_self)⟩
/-- what a method's row says of its name -/
theorem ax_y_ok : ((List.range 112).all fun m => decide ((ax_y m).cls = ax_nm (ax_own m)) && decide ((ax_y m).cls ≠ "java/lang/invoke/MethodHandle") && decide ((ax_y m).cls ≠ "java/lang/invoke/VarHandle") && (plainName (ax_y m).cls || decide (ax_own m = 14)) && decide (ax_L m ≤ 40) && (decide (ax_own m < 15) || decide (ax_own m = 18))) = true := by decide +kernel
theorem ax_caT_ok2 : (ax_caT.all fun q => if 4 ≤ q.2.1 ∧ q.2.1 ≠ 10 then true else decide (q.2.2.1 < 112) && decide (ax_own q.2.2.1 ≠ 14) && decide ((parseMethodDescriptor (ax_y q.2.2.1).desc).map (fun d => d.parameters.length) = some q.2.2.2) && (if q.2.1 = 0 then decide (q.2.2.1 ∈ ax_ordI) && decide (q.2.2.1 ∈ ax_ordS) else if q.2.1 = 1 ∨ q.2.1 = 10 then decide (q.2.2.1 ∈ ax_ordT) else decide (q.2.2.1 ∈ ax_ordI) && decide ((ax_y q.2.2.1).name = "<init>") && decide (ax_ret q.2.2.1 = none))) = true := by decide +kernel
def ax_clN : MethodName := ⟨"java/lang/Object", "clone", "()Ljava/lang/Object;"⟩
def ax_clA : MethodName := ⟨"[I", "clone", "()Ljava/lang/Object;"⟩
set_option maxRecDepth 100000 in
theorem ax_cl_ok : ax_sub [.sameMethod "[I" "java/lang/Object" "clone" "()Ljava/lang/Object;", .native ax_clN, .instanceMethod ax_clN, .selects "[I" ax_clA ax_clN] lw_tbl = true := by decide +kernel
theorem ax_cl_w : Cond.sameMethod "[I" "java/lang/Object" "clone" "()Ljava/lang/Object;" ∈ lw_tbl ∧ Cond.native ax_clN ∈ lw_tbl ∧ Cond.instanceMethod ax_clN ∈ lw_tbl ∧ Cond.selects "[I" ax_clA ax_clN ∈ lw_tbl := by
  have h := ax_sub_mem _ _ ax_cl_ok
  exact ⟨h _ (by simp), h _ (by simp), h _ (by simp), h _ (by simp)⟩
/-! CLONE OF AN int[], and its cast -/
section AxE2
variable {base : Nat} {av : Nat → Value} {D : va_G} {cA : Nat → ClassId} {Hs : Heap} {Ls : Nat} {xs : Nat → Int32} {ph : Bool}
variable {p : Program} {l : Launch} {e : Env} {R : Room} {s : State} {mth : MethodId} {args : Array Value} {below : List Frame} {meth : Method} {c : Code} {H : Heap} {locs : List Loc} {cells slots : Nat} {Q : State → Prop} {m pc : Nat} {cls : Array Slot} {ls st ls1 st1 : List Value} {h h1 : AH} {pc1 : Nat}
theorem ax_s_cast {k : Nat} (hs : ax_step ph m (.checkcast k) pc ls st h = some (pc1, ls1, st1, h1)) (hd : decode (ax_code m) pc = .ok (.checkcast k, 3)) (CX : ax_Cx base av D cA Hs Ls xs p s mth args meth c m) (hR : ax_Rep base av D cA Hs Ls xs ph h H) (K : ls1 = ls → h1 = h → ax_W base av p l e R s mth args below meth c H locs cells slots Q pc1 cls st1) : ax_W base av p l e R s mth args below meth c H locs cells slots Q pc cls st := by
  obtain ⟨hx, hb, hml, hown, hts, hnm, KC⟩ := CX
  simp only [ax_step] at hs
  split at hs
  · rename_i a r
    split at hs
    · rename_i hc
      cases hs
      obtain ⟨hq, hc20, ha, hk⟩ := hc
      have K := K rfl rfl
      have hn := hR.ok hk (Nat.not_lt.mpr ha)
      have hcell := hR.arr ha hn (by rw [hc20]; decide)
      have hfc := (KC.2.1 20 .int rfl).2
      obtain ⟨g1, g2⟩ := ax_new17 hq
      have hlk : (Cond.classLink (ax_nm (ax_own m)) k "[I").before args s = true := by
        rw [g1, g2]
        exact hts _ ax_arr_in.2.2.2.2.2.2.2.2.2 rfl
      unfold ax_W at K ⊢
      rw [List.map_cons, ax_adr_own ha] at K ⊢
      intro T hT X
      obtain ⟨vm', X', stp⟩ := X.checkcastYes hx hown hlk (by rw [hT]; exact hcell) rfl (by rw [hc20]; exact hfc) (va_asg _ _) (g := F0 mth pc cls (.ref (base + (a - 64)) :: r.map (ax_cv base av))) rfl rfl (by rw [hb]; exact hd)
      obtain ⟨t, a1, b1⟩ := K (T.setVm vm') hT X'
      exact ⟨t, stp t a1, b1⟩
    · cases hs
  · cases hs
theorem ax_mkC_facts {a len : Nat} (hm : ax_mkC h a len = some h1) : 168 ≤ h.2.2.1 ∧ len < 19900 ∧ h1.2.2.1 - h.2.2.1 = 1 ∧ h1.2.2.2.1 - h.2.2.2.1 = len ∧ h.2.2.1 ≤ h1.2.2.1 ∧ h.2.2.2.1 ≤ h1.2.2.2.1 := by
  unfold ax_mkC at hm
  split at hm
  · rename_i hc
    cases hm
    exact ⟨hc.1, hc.2, Nat.add_sub_cancel_left .., Nat.add_sub_cancel_left .., Nat.le_add_right _ _, Nat.le_add_right _ _⟩
  · cases hm
theorem ax_s_clone {k : Nat} (hv : ax_vok av) (hs : ax_step ph m (.invokevirtual k) pc ls st h = some (pc1, ls1, st1, h1)) (hd : decode (ax_code m) pc = .ok (.invokevirtual k, 3)) (CX : ax_Cx base av D cA Hs Ls xs p s mth args meth c m) (hl : ax_Lr base av ls cls) (hR : ax_Rep base av D cA Hs Ls xs ph h H) (hfr : 1 ≤ R.frames) (hlc : 100 ≤ R.locals) (hce : cells + (h1.2.2.1 - h.2.2.1) ≤ R.cells) (hsl : slots + (h1.2.2.2.1 - h.2.2.2.1) ≤ R.slots)
    (K : ls1 = ls → h.2.2.1 ≤ h1.2.2.1 → h.2.2.2.1 ≤ h1.2.2.2.1 → ∀ H1, ax_Rep base av D cA Hs Ls xs ph h1 H1 → ax_W base av p l e R s mth args below meth c H1 locs (cells + (h1.2.2.1 - h.2.2.1)) (slots + (h1.2.2.2.1 - h.2.2.2.1)) Q pc1 cls st1) : ax_W base av p l e R s mth args below meth c H locs cells slots Q pc cls st := by
  obtain ⟨hx, hb, hml, hown, hts, hnm, KC⟩ := CX
  simp only [ax_step] at hs
  split at hs
  · rename_i q0 n0 hq
    split at hs
    · rename_i a r
      split at hs
      · rename_i hc
        obtain ⟨h2, hm, e1⟩ := Option.map_eq_some_iff.mp hs
        cases e1
        obtain ⟨hc20, ha, hk, hwt, hll⟩ := hc
        obtain ⟨c1, c3, f3, f4, f5, f6⟩ := ax_mkC_facts hm
        have K := K rfl f5 f6
        rw [f3] at hce K
        rw [f4] at hsl K
        have hn := hR.ok hk (Nat.not_lt.mpr ha)
        have hcell := hR.arr ha hn (by rw [hc20]; decide)
        rw [hc20] at hcell
        have hfc : s.vm.findClass "[I" = some (cA 20) := (KC.2.1 20 .int rfl).2
        obtain ⟨c0, t0, q1, q2, q3⟩ := Cond.castable_spec (va_Nw.use (A := args) rfl KC.2.2.2.1.2.2.1)
        cases hfc.symm.trans q1
        have hlk : (Cond.methodLink (ax_nm (ax_own m)) k ax_clA).before args s = true := hts _ (ax_sub_mem _ _ ax_caT_ok _ (List.mem_map.mpr ⟨_, ax_lookup_mem hq, rfl⟩)) rfl
        obtain ⟨w1, w2, w3, w4⟩ := ax_cl_w
        unfold ax_W at K ⊢
        rw [List.map_cons, ax_adr_own ha]
        intro T hT X
        obtain ⟨-, kA, hkA, comp, hkind⟩ := State.isArrayOf_alike X.warmed.alike ((KC.2.1 20 .int rfl).1 0 (fun _ => .null))
        obtain ⟨-, kS, hkS, compS, hkindS⟩ := (KC.2.1 20 .int rfl).1 0 (fun _ => .null)
        obtain ⟨vm', X', stp⟩ := X.cloneArray hx hown hlk (hts _ w1 rfl) (hts _ w2 rfl) (hts _ w3 rfl) (hts _ w4 rfl) (a := base + (a - 64)) (cell := arrV (cA 20) (ax_ty h a).2 (fun j => ax_cv base av (ax_ev 20 (h.1 a j)))) (by rw [hT]; exact hcell) (fun k z => by cases z) (fun z => by cases z) hfc q2 q3
          (fun i v hv => by
            have hk' : T.vm.classes[cA 20]? = some kA := hkA
            have hv2 : fits .int v = true := by
              by_cases hi : i < (ax_ty h a).2
              · rw [arrV_read _ _ hi] at hv
                cases hv
                rfl
              · rw [Array.getElem?_eq_none (by rw [arrV_size]; omega)] at hv
                cases hv
            show T.fitsSlot (cA 20) .none i v = true
            simpa [State.fitsSlot, State.slotType?, hk', hkind] using hv2)
          (g := F0 mth pc cls (.ref (base + (a - 64)) :: r.map (ax_cv base av))) rfl (by show cls.size = _; rw [hml, hl.1, hll]) rfl (by rw [hb]; exact hd) hfr (by rw [ax_wt_le hv]; show 2 * 0 + _ + 14 ≤ _; omega) hce (by rw [arrV_size]; exact hsl) (hloader := Vm.clonesLoader_of_array hkS hkindS)
        have hRm : ax_Rep base av D cA Hs Ls xs ph h1 (H.push (arrV (cA 20) (ax_ty h a).2 (fun j => ax_cv base av (ax_ev 20 (h.1 a j))))) := by
          unfold ax_mkC at hm
          split at hm
          · cases hm
            have hHs : H.size = base + (h.2.2.1 - 64) := by have := hR.2.2.1; omega
            refine hR.mk (by rw [Array.size_push]) (fun q hq => by rw [Array.getElem?_push, if_neg (Nat.ne_of_lt hq)]) (fun _ => ax_dok_dcd (Or.inl rfl) c3) ?_
            have et : ax_ty (ax_mk h (ax_dcd 20 (ax_ty h a).2) (ax_ty h a).2 (fun j => .int (toI (h.1 a j)))) h.2.2.1 = (20, (ax_ty h a).2) := by
              rw [ax_ty_own (by omega), if_neg (by omega)]
              show ax_dty (if h.2.2.1 = h.2.2.1 then ax_dcd 20 (ax_ty h a).2 else _) = _
              rw [if_pos rfl, ax_dty_dcd (Or.inl rfl)]
            refine ⟨fun z => by rw [et] at z; exact absurd z (by show ¬ 20 < 12; decide), fun _ => ?_⟩
            rw [et, ← hHs, Array.getElem?_push_size]
            congr 2
            funext j
            show _ = ax_cv base av (ax_ev 20 (if h.2.2.1 = h.2.2.1 then .int (toI (h.1 a j)) else _))
            rw [if_pos rfl]
            rfl
          · cases hm
        have K := K _ hRm
        rw [arrV_size] at X'
        obtain ⟨t, a1, b1⟩ := K _ (by rw [← hT]; rfl) X'
        refine ⟨t, stp t ?_, b1⟩
        have e8 : T.heap.size = base + (h.2.2.1 - 64) := by rw [hT]; have := hR.2.2.1; omega
        rw [e8]
        rw [List.map_cons, ax_adr_own (by omega : 64 ≤ h.2.2.1)] at a1
        exact a1
      · cases hs
    · cases hs
  · cases hs
end AxE2
end
section
/-! ONE INSTRUCTION, ANY OF THEM -/
theorem ax_step_nh {ph : Bool} {m pc pc1 : Nat} {i : Instr} {ls st ls1 st1 : List Value} {h h1 : AH} (hi : ax_nh i = true) (hs : ax_step ph m i pc ls st h = some (pc1, ls1, st1, h1)) : h1 = h := by
  cases i <;> first
    | (cases hi; done)
    | (simp only [ax_step] at hs
       repeat' split at hs
       all_goals first
         | (cases hs; rfl)
         | (obtain ⟨_, _, e⟩ := Option.map_eq_some_iff.mp hs; cases e; rfl)
         | (cases hs))
    | (simp only [ax_step] at hs; cases hs)
    | (cases hi)
theorem ax_step_len {ph : Bool} {m pc pc1 : Nat} {i : Instr} {ls st ls1 st1 : List Value} {h h1 : AH} (hs : ax_step ph m i pc ls st h = some (pc1, ls1, st1, h1)) : ls1.length = ls.length := by
  cases i <;> first
    | (simp only [ax_step] at hs
       repeat' split at hs
       all_goals first
         | (cases hs; rfl)
         | (cases hs; exact ax_put_len _ _ _)
         | (obtain ⟨_, h2, e⟩ := Option.map_eq_some_iff.mp hs; cases e; rfl)
         | (obtain ⟨_, h2, e⟩ := Option.map_eq_some_iff.mp hs; cases e; obtain ⟨_, _, _, _, _, _, rfl⟩ := ax_sto_inv h2; exact ax_put_len _ _ _)
         | (cases hs))
    | (simp only [ax_step] at hs; cases hs)
theorem ax_mkO_grow {h h1 : AH} {c : Nat} (hm : ax_mkO h c = some h1) : h.2.2.1 ≤ h1.2.2.1 ∧ h.2.2.2.1 ≤ h1.2.2.2.1 := by
  unfold ax_mkO at hm
  split at hm
  · cases hm; exact ⟨Nat.le_add_right _ _, Nat.le_add_right _ _⟩
  · cases hm
theorem ax_mkM_grow {h h1 : AH} {n w : Nat} (hm : ax_mkM h n w = some h1) : h.2.2.1 ≤ h1.2.2.1 ∧ h.2.2.2.1 ≤ h1.2.2.2.1 := by
  unfold ax_mkM at hm
  split at hm
  · cases hm; exact ⟨Nat.le_trans (Nat.le_succ _) (Nat.le_add_right _ _), Nat.le_trans (Nat.le_add_right _ _) (Nat.le_add_right _ _)⟩
  · cases hm
theorem ax_mkA_grow {h h1 : AH} {t n : Nat} {v : Value} (hm : ax_mkA h t n v = some h1) : h.2.2.1 ≤ h1.2.2.1 ∧ h.2.2.2.1 ≤ h1.2.2.2.1 := ⟨(ax_mkA_facts hm).2.2.2.2.1, (ax_mkA_facts hm).2.2.2.2.2⟩
theorem ax_mkC_grow {h h1 : AH} {a n : Nat} (hm : ax_mkC h a n = some h1) : h.2.2.1 ≤ h1.2.2.1 ∧ h.2.2.2.1 ≤ h1.2.2.2.1 := ⟨(ax_mkC_facts hm).2.2.2.2.1, (ax_mkC_facts hm).2.2.2.2.2⟩
theorem ax_step_grow {ph : Bool} {m pc pc1 : Nat} {i : Instr} {ls st ls1 st1 : List Value} {h h1 : AH} (hs : ax_step ph m i pc ls st h = some (pc1, ls1, st1, h1)) : h.2.2.1 ≤ h1.2.2.1 ∧ h.2.2.2.1 ≤ h1.2.2.2.1 := by
  by_cases hi : ax_nh i = true
  · rw [ax_step_nh hi hs]; exact ⟨Nat.le_refl _, Nat.le_refl _⟩
  · cases i <;> first
    | (exact absurd rfl hi)
    | (simp only [ax_step] at hs
       repeat' split at hs
       all_goals first
         | (cases hs; exact ⟨Nat.le_refl _, Nat.le_refl _⟩)
         | (obtain ⟨_, h2, e⟩ := Option.map_eq_some_iff.mp hs; cases e; exact ax_mkO_grow h2)
         | (obtain ⟨_, h2, e⟩ := Option.map_eq_some_iff.mp hs; cases e; exact ax_mkA_grow h2)
         | (obtain ⟨_, h2, e⟩ := Option.map_eq_some_iff.mp hs; cases e; exact ax_mkM_grow h2)
         | (obtain ⟨_, h2, e⟩ := Option.map_eq_some_iff.mp hs; cases e; exact ax_mkC_grow h2)
         | (cases hs))
section AxG
variable {base : Nat} {av : Nat → Value} {D : va_G} {cA : Nat → ClassId} {Hs : Heap} {Ls : Nat} {xs : Nat → Int32} {ph : Bool}
variable {p : Program} {l : Launch} {e : Env} {R : Room} {s : State} {mth : MethodId} {args : Array Value} {below : List Frame} {meth : Method} {c : Code} {H : Heap} {locs : List Loc} {cells slots : Nat} {Q : State → Prop} {m pc : Nat} {cls : Array Slot} {ls st ls1 st1 : List Value} {h h1 : AH} {pc1 : Nat}
/-- Math's, which the machine has of its own -/
theorem ax_s_math {k : Nat} (hv : ax_vok av) (hs : ax_step ph m (.invokestatic k) pc ls st h = some (pc1, ls1, st1, h1)) (hd : decode (ax_code m) pc = .ok (.invokestatic k, 3)) (CX : ax_Cx base av D cA Hs Ls xs p s mth args meth c m) (hl : ax_Lr base av ls cls) (hfr : 1 ≤ R.frames) (hlo : 100 ≤ R.locals) (hce : cells ≤ R.cells) (hsl : slots ≤ R.slots) (K : ls1 = ls → h1 = h → ax_W base av p l e R s mth args below meth c H locs cells slots Q pc1 cls st1) : ax_W base av p l e R s mth args below meth c H locs cells slots Q pc cls st := by
  obtain ⟨hx, hb, hml, hown, hts, hnm, KC⟩ := CX
  have word : ∀ (kd q n : Nat), ax_cal (ax_own m) k = some (kd, q, n) → 5 ≤ kd ∧ kd < 9 → Cond.methodLink (ax_nm (ax_own m)) k (ax_mathN kd) ∈ lw_tbl := by
    intro kd q n hq hk
    have h1 := ax_sub_mem _ _ ax_caT_ok _ (List.mem_map.mpr ⟨_, ax_lookup_mem hq, rfl⟩)
    unfold ax_caW at h1
    rw [if_neg (by show ¬ kd = 9; omega), if_pos hk] at h1
    exact h1
  have row : ∀ q : Nat, q < 112 → ax_own q = 14 → q ∈ ax_ordT := by
    have : ((List.range 112).all fun q => decide (ax_own q ≠ 14) || decide (q ∈ ax_ordT)) = true := by decide +kernel
    intro q hq ho
    have h2 := List.all_eq_true.mp this q (List.mem_range.mpr hq)
    simpa [ho] using h2
  have hini : Cond.initialized "java/lang/Math" ∈ lw_tbl := ax_ini_in (c := 14) (by decide)
  have room : ∀ r : List Value, ax_wt r ≤ 8 → ((r.map (ax_cv base av)).map fun v => v.category).sum + 15 ≤ R.locals := by
    intro r hr
    rw [ax_wt_le hv]
    omega
  simp only [ax_step] at hs
  split at hs
  · rename_i q n hq
    split at hs
    · rename_i hc
      obtain ⟨r1, hr, e1⟩ := Option.map_eq_some_iff.mp hs
      cases e1
      obtain ⟨x, y, r, v, rfl, h2, rfl⟩ := ax_ii_inv hr
      cases h2
      have h14 := room r hc.1
      exact va_mmax hx hb (hml.trans (hc.2.symm.trans hl.1.symm)) hown (hts _ (word 5 _ _ hq (by decide)) rfl) (hts _ (ax_sub_mem _ _ ax_ordT_ok (.static Lib.Math.max.name) (List.mem_map.mpr ⟨15, by decide +kernel, by decide +kernel⟩)) rfl) (hts _ hini rfl) (hts _ (show Cond.code Lib.Math.max.name Lib.Math.max.code 2 (some .int) ∈ lw_tbl from (by decide +kernel : ax_codeW 15 = Cond.code Lib.Math.max.name Lib.Math.max.code 2 (some .int)) ▸ ax_code_in (by decide)) rfl) hfr (by omega) hce hsl hd (K rfl rfl)
    · cases hs
  · rename_i q n hq
    split at hs
    · rename_i hc
      obtain ⟨r1, hr, e1⟩ := Option.map_eq_some_iff.mp hs
      cases e1
      obtain ⟨x, y, r, v, rfl, h2, rfl⟩ := ax_ii_inv hr
      cases h2
      have h14 := room r hc.1
      exact va_mmin hx hb (hml.trans (hc.2.symm.trans hl.1.symm)) hown (hts _ (word 6 _ _ hq (by decide)) rfl) (hts _ (ax_sub_mem _ _ ax_ordT_ok (.static Lib.Math.min.name) (List.mem_map.mpr ⟨72, by decide +kernel, by decide +kernel⟩)) rfl) (hts _ hini rfl) (hts _ (show Cond.code Lib.Math.min.name Lib.Math.min.code 2 (some .int) ∈ lw_tbl from (by decide +kernel : ax_codeW 72 = Cond.code Lib.Math.min.name Lib.Math.min.code 2 (some .int)) ▸ ax_code_in (by decide)) rfl) hfr (by omega) hce hsl hd (K rfl rfl)
    · cases hs
  · rename_i q n hq
    split at hs
    · rename_i hc
      obtain ⟨r1, hr, e1⟩ := Option.map_eq_some_iff.mp hs
      cases e1
      obtain ⟨x, r, rfl, rfl⟩ := ax_l_inv hr
      have h14 := room r hc.1
      exact va_mabs_long hx hb (hml.trans (hc.2.symm.trans hl.1.symm)) hown (hts _ (word 7 _ _ hq (by decide)) rfl) (hts _ (ax_sub_mem _ _ ax_ordT_ok (.static Lib.MathLoose.abs_long.x) (List.mem_map.mpr ⟨36, by decide +kernel, by decide +kernel⟩)) rfl) (hts _ hini rfl) (hts _ (show Cond.code Lib.MathLoose.abs_long.x Lib.MathLoose.abs_long.code 2 (some .long) ∈ lw_tbl from (by decide +kernel : ax_codeW 36 = Cond.code Lib.MathLoose.abs_long.x Lib.MathLoose.abs_long.code 2 (some .long)) ▸ ax_code_in (by decide)) rfl) hfr (by omega) hce hsl hd (K rfl rfl)
    · cases hs
  · rename_i q n hq
    split at hs
    · rename_i hc
      obtain ⟨r1, hr, e1⟩ := Option.map_eq_some_iff.mp hs
      cases e1
      obtain ⟨x, y, r, v, rfl, h2, rfl⟩ := ax_ll_inv hr
      cases h2
      have h14 := room r hc.1
      exact va_mmax_long hx hb (hml.trans (hc.2.symm.trans hl.1.symm)) hown (hts _ (word 8 _ _ hq (by decide)) rfl) (hts _ (ax_sub_mem _ _ ax_ordT_ok (.static Lib.MathLoose.max_long.x) (List.mem_map.mpr ⟨38, by decide +kernel, by decide +kernel⟩)) rfl) (hts _ hini rfl) (hts _ (show Cond.code Lib.MathLoose.max_long.x Lib.MathLoose.max_long.code 4 (some .long) ∈ lw_tbl from (by decide +kernel : ax_codeW 38 = Cond.code Lib.MathLoose.max_long.x Lib.MathLoose.max_long.code 4 (some .long)) ▸ ax_code_in (by decide)) rfl) hfr (by omega) hce hsl hd (K rfl rfl)
    · cases hs
  · cases hs
/-- ANY INSTRUCTION but calls and returns -/
theorem ax_stepS {i : Instr} {len : Nat} (hv : ax_vok av) (hnn : ax_vnn av) (hs : ax_step ph m i pc ls st h = some (pc1, ls1, st1, h1)) (hd : decode (ax_code m) pc = .ok (i, len)) (hlen : len = ax_len i ∨ ax_tsw i = true) (CX : ax_Cx base av D cA Hs Ls xs p s mth args meth c m) (hl : ax_Lr base av ls cls) (hR : ax_Rep base av D cA Hs Ls xs ph h H) (hlo : ∀ q ∈ locs, base ≤ q.base) (hfr : 1 ≤ R.frames) (hlc : 100 ≤ R.locals) (hce0 : cells ≤ R.cells) (hsl0 : slots ≤ R.slots) (hce : cells + (h1.2.2.1 - h.2.2.1) ≤ R.cells) (hsl : slots + (h1.2.2.2.1 - h.2.2.2.1) ≤ R.slots)
    (K : h.2.2.1 ≤ h1.2.2.1 → h.2.2.2.1 ≤ h1.2.2.2.1 → ∀ cls1 H1 locs1, ax_Lr base av ls1 cls1 → ax_Rep base av D cA Hs Ls xs ph h1 H1 → (∀ q ∈ locs1, base ≤ q.base) → ax_W base av p l e R s mth args below meth c H1 locs1 (cells + (h1.2.2.1 - h.2.2.1)) (slots + (h1.2.2.2.1 - h.2.2.2.1)) Q pc1 cls1 st1) : ax_W base av p l e R s mth args below meth c H locs cells slots Q pc cls st := by
  have hx := CX.1
  have hb := CX.2.1
  have hi := CX.2.2.2.2.2.2.2.2.2.2.2.2.1
  -- the heap as it was
  have Kp : h1 = h → ∀ cls1, ax_Lr base av ls1 cls1 → ax_W base av p l e R s mth args below meth c H locs cells slots Q pc1 cls1 st1 := by
    intro e1 cls1 hl1
    subst e1
    have := K (Nat.le_refl _) (Nat.le_refl _) cls1 H locs hl1 hR hlo
    rw [Nat.sub_self, Nat.sub_self] at this
    exact this
  have Kr : ls1 = ls → h1 = h → ax_W base av p l e R s mth args below meth c H locs cells slots Q pc1 cls st1 := fun e1 e2 => Kp e2 cls (e1 ▸ hl)
  have Kw : ls1 = ls → h1.2 = h.2 → ∀ H1 locs1, ax_Rep base av D cA Hs Ls xs ph h1 H1 → (∀ q ∈ locs1, base ≤ q.base) → ax_W base av p l e R s mth args below meth c H1 locs1 cells slots Q pc1 cls st1 := by
    intro e1 e2 H1 locs1 hR1 hlo1
    have := K (by rw [e2]; exact Nat.le_refl _) (by rw [e2]; exact Nat.le_refl _) cls H1 locs1 (e1 ▸ hl) hR1 hlo1
    rw [e2, Nat.sub_self, Nat.sub_self] at this
    exact this
  have Km : ls1 = ls → h.2.2.1 ≤ h1.2.2.1 → h.2.2.2.1 ≤ h1.2.2.2.1 → ∀ H1, ax_Rep base av D cA Hs Ls xs ph h1 H1 → ax_W base av p l e R s mth args below meth c H1 locs (cells + (h1.2.2.1 - h.2.2.1)) (slots + (h1.2.2.2.1 - h.2.2.2.1)) Q pc1 cls st1 := fun e1 e2 e3 H1 hR1 => K e2 e3 cls H1 locs (e1 ▸ hl) hR1 hlo
  have hn : ax_nh i = true → ∀ cls1, ax_Lr base av ls1 cls1 → ax_W base av p l e R s mth args below meth c H locs cells slots Q pc1 cls1 st1 := fun q => Kp (ax_step_nh q hs)
  cases i
  case iload n =>
    obtain rfl : len = _ := hlen.resolve_right (by intro q; cases q)
    exact ax_s_iload hx hb hv hs hd hl (hn rfl)
  case iload_n n =>
    obtain rfl : len = _ := hlen.resolve_right (by intro q; cases q)
    exact ax_s_iload_n hx hb hv hs hd hl (hn rfl)
  case lload n =>
    obtain rfl : len = _ := hlen.resolve_right (by intro q; cases q)
    exact ax_s_lload hx hb hv hs hd hl (hn rfl)
  case lload_n n =>
    obtain rfl : len = _ := hlen.resolve_right (by intro q; cases q)
    exact ax_s_lload_n hx hb hv hs hd hl (hn rfl)
  case aload n =>
    obtain rfl : len = _ := hlen.resolve_right (by intro q; cases q)
    exact ax_s_aload hx hb hv hs hd hl (hn rfl)
  case aload_n n =>
    obtain rfl : len = _ := hlen.resolve_right (by intro q; cases q)
    exact ax_s_aload_n hx hb hv hs hd hl (hn rfl)
  case istore n =>
    obtain rfl : len = _ := hlen.resolve_right (by intro q; cases q)
    exact ax_s_istore hx hb hv hs hd hl (hn rfl)
  case istore_n n =>
    obtain rfl : len = _ := hlen.resolve_right (by intro q; cases q)
    exact ax_s_istore_n hx hb hv hs hd hl (hn rfl)
  case lstore n =>
    obtain rfl : len = _ := hlen.resolve_right (by intro q; cases q)
    exact ax_s_lstore hx hb hv hs hd hl (hn rfl)
  case lstore_n n =>
    obtain rfl : len = _ := hlen.resolve_right (by intro q; cases q)
    exact ax_s_lstore_n hx hb hv hs hd hl (hn rfl)
  case astore n =>
    obtain rfl : len = _ := hlen.resolve_right (by intro q; cases q)
    exact ax_s_astore hx hb hv hs hd hl (hn rfl)
  case astore_n n =>
    obtain rfl : len = _ := hlen.resolve_right (by intro q; cases q)
    exact ax_s_astore_n hx hb hv hs hd hl (hn rfl)
  case dload n =>
    obtain rfl : len = _ := hlen.resolve_right (by intro q; cases q)
    exact ax_s_dload hx hb hv hs hd hl (hn rfl)
  case dload_n n =>
    obtain rfl : len = _ := hlen.resolve_right (by intro q; cases q)
    exact ax_s_dload_n hx hb hv hs hd hl (hn rfl)
  case dstore n =>
    obtain rfl : len = _ := hlen.resolve_right (by intro q; cases q)
    exact ax_s_dstore hx hb hv hs hd hl (hn rfl)
  case dstore_n n =>
    obtain rfl : len = _ := hlen.resolve_right (by intro q; cases q)
    exact ax_s_dstore_n hx hb hv hs hd hl (hn rfl)
  case dconst n =>
    obtain rfl : len = _ := hlen.resolve_right (by intro q; cases q)
    exact ax_s_dconst hx hb hv hs hd hl (hn rfl)
  case ddiv =>
    obtain rfl : len = _ := hlen.resolve_right (by intro q; cases q)
    exact ax_s_ddiv hx hb hv hs hd hl (hn rfl)
  case dadd =>
    obtain rfl : len = _ := hlen.resolve_right (by intro q; cases q)
    exact ax_s_dadd hx hb hv hs hd hl (hn rfl)
  case dsub =>
    obtain rfl : len = _ := hlen.resolve_right (by intro q; cases q)
    exact ax_s_dsub hx hb hv hs hd hl (hn rfl)
  case dcmp op =>
    obtain rfl : len = _ := hlen.resolve_right (by intro q; cases q)
    exact ax_s_dcmp hx hb hv hs hd hl (hn rfl)
  case l2d =>
    obtain rfl : len = _ := hlen.resolve_right (by intro q; cases q)
    exact ax_s_l2d hx hb hv hs hd hl (hn rfl)
  case dup_x1 =>
    obtain rfl : len = _ := hlen.resolve_right (by intro q; cases q)
    exact ax_s_dup_x1 hx hb hv hs hd hl (hn rfl)
  case checkcast k =>
    obtain rfl : len = _ := hlen.resolve_right (by intro q; cases q)
    exact ax_s_cast hs hd CX hR Kr
  case invokevirtual k =>
    obtain rfl : len = _ := hlen.resolve_right (by intro q; cases q)
    exact ax_s_clone hv hs hd CX hl hR hfr hlc hce hsl Km
  case iinc n k =>
    obtain rfl : len = _ := hlen.resolve_right (by intro q; cases q)
    exact ax_s_iinc hx hb hv hs hd hl (hn rfl)
  case iconst n =>
    obtain rfl : len = _ := hlen.resolve_right (by intro q; cases q)
    exact ax_s_iconst hx hb hv hs hd hl (hn rfl)
  case bipush n =>
    obtain rfl : len = _ := hlen.resolve_right (by intro q; cases q)
    exact ax_s_bipush hx hb hv hs hd hl (hn rfl)
  case sipush n =>
    obtain rfl : len = _ := hlen.resolve_right (by intro q; cases q)
    exact ax_s_sipush hx hb hv hs hd hl (hn rfl)
  case lconst n =>
    obtain rfl : len = _ := hlen.resolve_right (by intro q; cases q)
    exact ax_s_lconst hx hb hv hs hd hl (hn rfl)
  case aconst_null =>
    obtain rfl : len = _ := hlen.resolve_right (by intro q; cases q)
    exact ax_s_null hx hb hv hs hd hl (hn rfl)
  case iadd =>
    obtain rfl : len = _ := hlen.resolve_right (by intro q; cases q)
    exact ax_s_iadd hx hb hv hs hd hl (hn rfl)
  case isub =>
    obtain rfl : len = _ := hlen.resolve_right (by intro q; cases q)
    exact ax_s_isub hx hb hv hs hd hl (hn rfl)
  case imul =>
    obtain rfl : len = _ := hlen.resolve_right (by intro q; cases q)
    exact ax_s_imul hx hb hv hs hd hl (hn rfl)
  case iand =>
    obtain rfl : len = _ := hlen.resolve_right (by intro q; cases q)
    exact ax_s_iand hx hb hv hs hd hl (hn rfl)
  case ior =>
    obtain rfl : len = _ := hlen.resolve_right (by intro q; cases q)
    exact ax_s_ior hx hb hv hs hd hl (hn rfl)
  case ixor =>
    obtain rfl : len = _ := hlen.resolve_right (by intro q; cases q)
    exact ax_s_ixor hx hb hv hs hd hl (hn rfl)
  case idiv =>
    obtain rfl : len = _ := hlen.resolve_right (by intro q; cases q)
    exact ax_s_idiv hx hb hv hs hd hl (hn rfl)
  case irem =>
    obtain rfl : len = _ := hlen.resolve_right (by intro q; cases q)
    exact ax_s_irem hx hb hv hs hd hl (hn rfl)
  case ishl =>
    obtain rfl : len = _ := hlen.resolve_right (by intro q; cases q)
    exact ax_s_ishl hx hb hv hs hd hl (hn rfl)
  case ishr =>
    obtain rfl : len = _ := hlen.resolve_right (by intro q; cases q)
    exact ax_s_ishr hx hb hv hs hd hl (hn rfl)
  case iushr =>
    obtain rfl : len = _ := hlen.resolve_right (by intro q; cases q)
    exact ax_s_iushr hx hb hv hs hd hl (hn rfl)
  case ladd =>
    obtain rfl : len = _ := hlen.resolve_right (by intro q; cases q)
    exact ax_s_ladd hx hb hv hs hd hl (hn rfl)
  case lmul =>
    obtain rfl : len = _ := hlen.resolve_right (by intro q; cases q)
    exact ax_s_lmul hx hb hv hs hd hl (hn rfl)
  case land =>
    obtain rfl : len = _ := hlen.resolve_right (by intro q; cases q)
    exact ax_s_land hx hb hv hs hd hl (hn rfl)
  case lor =>
    obtain rfl : len = _ := hlen.resolve_right (by intro q; cases q)
    exact ax_s_lor hx hb hv hs hd hl (hn rfl)
  case ldiv =>
    obtain rfl : len = _ := hlen.resolve_right (by intro q; cases q)
    exact ax_s_ldiv hx hb hv hs hd hl (hn rfl)
  case lrem =>
    obtain rfl : len = _ := hlen.resolve_right (by intro q; cases q)
    exact ax_s_lrem hx hb hv hs hd hl (hn rfl)
  case lcmp =>
    obtain rfl : len = _ := hlen.resolve_right (by intro q; cases q)
    exact ax_s_lcmp hx hb hv hs hd hl (hn rfl)
  case lshl =>
    obtain rfl : len = _ := hlen.resolve_right (by intro q; cases q)
    exact ax_s_lshl hx hb hv hs hd hl (hn rfl)
  case lshr =>
    obtain rfl : len = _ := hlen.resolve_right (by intro q; cases q)
    exact ax_s_lshr hx hb hv hs hd hl (hn rfl)
  case lneg =>
    obtain rfl : len = _ := hlen.resolve_right (by intro q; cases q)
    exact ax_s_lneg hx hb hv hs hd hl (hn rfl)
  case i2l =>
    obtain rfl : len = _ := hlen.resolve_right (by intro q; cases q)
    exact ax_s_i2l hx hb hv hs hd hl (hn rfl)
  case l2i =>
    obtain rfl : len = _ := hlen.resolve_right (by intro q; cases q)
    exact ax_s_l2i hx hb hv hs hd hl (hn rfl)
  case i2c =>
    obtain rfl : len = _ := hlen.resolve_right (by intro q; cases q)
    exact ax_s_i2c hx hb hv hs hd hl (hn rfl)
  case dup =>
    obtain rfl : len = _ := hlen.resolve_right (by intro q; cases q)
    exact ax_s_dup hx hb hv hs hd hl (hn rfl)
  case pop =>
    obtain rfl : len = _ := hlen.resolve_right (by intro q; cases q)
    exact ax_s_pop hx hb hv hs hd hl (hn rfl)
  case dup2 =>
    obtain rfl : len = _ := hlen.resolve_right (by intro q; cases q)
    exact ax_s_dup2 hx hb hv hs hd hl (hn rfl)
  case goto off =>
    obtain rfl : len = _ := hlen.resolve_right (by intro q; cases q)
    exact ax_s_goto hx hb hv hs hd hl (hn rfl)
  case ifCond cd off =>
    obtain rfl : len = _ := hlen.resolve_right (by intro q; cases q)
    exact ax_s_if hx hb hv hs hd hl (hn rfl)
  case if_icmp cd off =>
    obtain rfl : len = _ := hlen.resolve_right (by intro q; cases q)
    exact ax_s_icmp hx hb hv hs hd hl (hn rfl)
  case ifnull off =>
    obtain rfl : len = _ := hlen.resolve_right (by intro q; cases q)
    exact ax_s_ifnull hnn hx hb hv hs hd hl (hn rfl)
  case ifnonnull off =>
    obtain rfl : len = _ := hlen.resolve_right (by intro q; cases q)
    exact ax_s_ifnonnull hnn hx hb hv hs hd hl (hn rfl)
  case if_acmp cd off =>
    obtain rfl : len = _ := hlen.resolve_right (by intro q; cases q)
    exact ax_s_acmp hnn hi hx hb hv hs hd hl (hn rfl)
  case tableswitch d lo hi offs =>
    exact ax_s_tsw hx hb hv hs hd hl (hn rfl)
  case getfield k =>
    obtain rfl : len = _ := hlen.resolve_right (by intro q; cases q)
    exact ax_s_getfield hs hd CX hR Kr
  case putfield k =>
    obtain rfl : len = _ := hlen.resolve_right (by intro q; cases q)
    exact ax_s_putfield hv hs hd CX hR hlo Kw
  case getstatic k =>
    obtain rfl : len = _ := hlen.resolve_right (by intro q; cases q)
    exact ax_s_getstatic hs hd CX hR Kr
  case ldc k =>
    obtain rfl : len = _ := hlen.resolve_right (by intro q; cases q)
    exact ax_s_ldc hs hd CX Kr
  case ldc_w k =>
    obtain rfl : len = _ := hlen.resolve_right (by intro q; cases q)
    exact ax_s_ldcw hs hd CX Kr
  case ldc2_w k =>
    obtain rfl : len = _ := hlen.resolve_right (by intro q; cases q)
    exact ax_s_ldc2 hs hd CX Kr
  case arraylength =>
    obtain rfl : len = _ := hlen.resolve_right (by intro q; cases q)
    exact ax_s_alen hs hd CX hR Kr
  case iaload =>
    obtain rfl : len = _ := hlen.resolve_right (by intro q; cases q)
    exact ax_s_iaload hs hd CX hR Kr
  case baload =>
    obtain rfl : len = _ := hlen.resolve_right (by intro q; cases q)
    exact ax_s_baload hs hd CX hR Kr
  case laload =>
    obtain rfl : len = _ := hlen.resolve_right (by intro q; cases q)
    exact ax_s_laload hs hd CX hR Kr
  case aaload =>
    obtain rfl : len = _ := hlen.resolve_right (by intro q; cases q)
    exact ax_s_aaload hs hd CX hR Kr
  case iastore =>
    obtain rfl : len = _ := hlen.resolve_right (by intro q; cases q)
    exact ax_s_iastore hs hd CX hR hlo Kw
  case lastore =>
    obtain rfl : len = _ := hlen.resolve_right (by intro q; cases q)
    exact ax_s_lastore hs hd CX hR hlo Kw
  case aastore =>
    obtain rfl : len = _ := hlen.resolve_right (by intro q; cases q)
    exact ax_s_aastore hs hd CX hR hlo Kw
  case new k =>
    obtain rfl : len = _ := hlen.resolve_right (by intro q; cases q)
    exact ax_s_new hs hd CX hR hce hsl Km
  case newarray t =>
    obtain rfl : len = _ := hlen.resolve_right (by intro q; cases q)
    exact ax_s_newarray hs hd CX hR hce hsl Km
  case anewarray k =>
    obtain rfl : len = _ := hlen.resolve_right (by intro q; cases q)
    exact ax_s_anewarray hs hd CX hR hce hsl Km
  case multianewarray k d =>
    obtain rfl : len = _ := hlen.resolve_right (by intro q; cases q)
    exact ax_s_multi hs hd CX hR hce hsl Km
  case invokestatic k =>
    obtain rfl : len = _ := hlen.resolve_right (by intro q; cases q)
    exact ax_s_math hv hs hd CX hl hfr hlc hce0 hsl0 Kr
  all_goals first
    | (simp only [ax_step] at hs; cases hs; done)
    | (cases hs; done)
end AxG
end
section
/-! THE SMALL MACHINE IS RIGHT: what it comes to, the real one comes to -/
theorem ax_ent0_len {base : Nat} {av : Nat → Value} (hv : ax_vok av) : ∀ vs : List Value, (lg_sl (vs.map (ax_cv base av))).length = (ax_ent0 vs).length
  | [] => rfl
  | v :: vs => by
    have ih := ax_ent0_len (base := base) hv vs
    unfold lg_sl at ih ⊢
    rw [List.map_cons, List.flatMap_cons, List.length_append, ih]
    rw [ax_cv_cat hv, show ax_ent0 (v :: vs) = if ax_isL v then v :: ax_junk :: ax_ent0 vs else v :: ax_ent0 vs from rfl]
    by_cases q : ax_isL v = true
    · rw [if_pos q, if_pos q, if_pos rfl]
      show 2 + _ = _
      rw [List.length_cons, List.length_cons]
      omega
    · rw [if_neg q, if_neg q, if_neg (by decide)]
      show 1 + _ = _
      rw [List.length_cons]
      omega
theorem ax_ent0_mem {base : Nat} {av : Nat → Value} (hv : ax_vok av) : ∀ (vs : List Value) (k i : Nat) (v : Value), (ax_ent0 vs)[i]? = some v → ax_kd v ≠ 3 → (k + i, ax_cv base av v) ∈ lv_args k (vs.map (ax_cv base av))
  | [], _, i, v, h, _ => by simp [ax_ent0] at h
  | w :: vs, k, i, v, h, hk => by
    unfold ax_ent0 at h
    rw [List.map_cons]
    unfold lv_args
    rw [ax_cv_cat hv]
    by_cases q : ax_isL w = true
    · rw [if_pos q] at h
      rw [if_pos q, if_pos rfl]
      match i, h with
      | 0, h =>
        cases h
        exact List.mem_cons_self
      | 1, h =>
        cases h
        exact absurd rfl hk
      | i + 2, h =>
        have := ax_ent0_mem (base := base) hv vs (k + 2) i v h hk
        rw [show k + (i + 2) = k + 2 + i by omega]
        exact List.mem_cons_of_mem _ this
    · rw [if_neg q] at h
      rw [if_neg q, if_neg (by decide)]
      match i, h with
      | 0, h =>
        cases h
        exact List.mem_cons_self
      | i + 1, h =>
        have := ax_ent0_mem (base := base) hv vs (k + 1) i v h hk
        rw [show k + (i + 1) = k + 1 + i by omega]
        exact List.mem_cons_of_mem _ this
theorem ax_ent_len {vs : List Value} {n : Nat} (h : (ax_ent0 vs).length ≤ n) : (ax_ent vs n).length = n := by
  unfold ax_ent
  rw [List.length_append, List.length_replicate]
  omega
theorem ax_ent_Lr {base : Nat} {av : Nat → Value} (hv : ax_vok av) {vs : List Value} {n : Nat} (h : (ax_ent0 vs).length ≤ n) : ax_Lr base av (ax_ent vs n) ((lg_sl (vs.map (ax_cv base av)) ++ List.replicate (n - (lg_sl (vs.map (ax_cv base av))).length) Slot.unset).toArray) := by
  have h1 := lv_entry (vs.map (ax_cv base av)) (n := n) (by rw [ax_ent0_len hv]; exact h)
  refine ⟨by rw [ax_ent_len h]; exact h1.1, h1.2.1, fun i v hi hk => ?_⟩
  have h2 : (ax_ent0 vs)[i]? = some v := by
    unfold ax_ent at hi
    by_cases q : i < (ax_ent0 vs).length
    · rw [List.getElem?_append_left q] at hi; exact hi
    · rw [List.getElem?_append_right (Nat.not_lt.mp q)] at hi
      rw [List.getElem?_replicate] at hi
      split at hi
      · cases hi; exact absurd rfl hk
      · cases hi
  have h3 := ax_ent0_mem (base := base) hv vs 0 i v h2 hk
  rw [Nat.zero_add] at h3
  exact h1.2.2 _ h3
/-- a call's start and end -/
def ax_Pc (base : Nat) (av : Nat → Value) (D : va_G) (cA : Nat → ClassId) (Hs : Heap) (Ls : Nat) (xs : Nat → Int32) (ph : Bool) (as : List Value) (h : AH) : Array Value → State → Prop := fun v U => v = (as.map (ax_cv base av)).toArray ∧ ax_Rep base av D cA Hs Ls xs ph h U.heap ∧ ax_KC base av D cA Hs Ls xs U
def ax_Qc (base : Nat) (av : Nat → Value) (D : va_G) (cA : Nat → ClassId) (Hs : Heap) (Ls : Nat) (xs : Nat → Int32) (ph : Bool) (r : Option Value) (h1 : AH) : Array Value → State → Outcome → State → Prop := fun _ _ o t => o = .returned (r.map (ax_cv base av)) ∧ ax_Rep base av D cA Hs Ls xs ph h1 t.heap
def ax_rm (d mc ms : Nat) : Room := { frames := d + 2, cells := mc, slots := ms, locals := 100 * (d + 1) }
section AxH
variable {base : Nat} {av : Nat → Value} {D : va_G} {cA : Nat → ClassId} {Hs : Heap} {Ls : Nat} {xs : Nat → Int32} {ph : Bool}
theorem ax_blind {as : List Value} {h : AH} : FrameBlind (ax_Pc base av D cA Hs Ls xs ph as h) := fun _ U g mk q => ⟨q.1, q.2.1, q.2.2.same rfl⟩
/-- behind a call -/
theorem ax_after {p : Program} {l : Launch} {e : Env} {R : Room} {s : State} {mth : MethodId} {args : Array Value} {below : List Frame} {meth : Method} {c : Code} {H : Heap} {locs : List Loc} {cells slots mc ms : Nat} {Q : State → Prop} {pc : Nat} {cls : Array Slot} {st0 rest : List Value} {a : Array Value} {r : Option Value} {h1 : AH}
    (hr : va_Run p l e R s mth args below meth c H locs cells slots mc ms (F0 mth pc cls st0) rest (ax_Qc base av D cA Hs Ls xs ph r h1 a) (fun q => base ≤ q)) (hlo : ∀ q ∈ locs, base ≤ q.base)
    (kk : ∀ H1 locs1, ax_Rep base av D cA Hs Ls xs ph h1 H1 → (∀ q ∈ locs1, base ≤ q.base) → W p l e R s mth args below meth c H1 locs1 (cells + mc) (slots + ms) Q (F0 mth (pc + 3) cls ((r.map (ax_cv base av)).toList ++ rest))) : W p l e R s mth args below meth c H locs cells slots Q (F0 mth pc cls st0) := by
  intro T hT X
  obtain ⟨v, st₀, t, T', L, h0, X', hL, e1, e2, ⟨hv, hb⟩, st⟩ := hr T hT X
  cases hv
  obtain ⟨t2, a1, b1⟩ := kk T'.heap (locs ++ L) (by rw [e1]; exact hb) (fun q hq => by
      rcases List.mem_append.mp hq with h | h
      · exact hlo q h
      · exact hL q h) T' rfl X'
  exact ⟨t2, st t2 a1, b1⟩
/-- what the run of a method comes to, at every state that holds its start -/
def ax_Sound (base : Nat) (av : Nat → Value) (D : va_G) (cA : Nat → ClassId) (Hs : Heap) (Ls : Nat) (xs : Nat → Int32) (ph : Bool) (d m pc : Nat) (ls st : List Value) (h : AH) (r : Option Value) (h9 : AH) : Prop :=
  h.2.2.1 ≤ h9.2.2.1 ∧ h.2.2.2.1 ≤ h9.2.2.2.1 ∧ ∀ (p : Program) (l : Launch) (e : Env) (R : Room) (s : State) (mth : MethodId) (args : Array Value) (below : List Frame) (meth : Method) (c : Code) (H : Heap) (locs : List Loc) (cells slots mF sF : Nat) (Q : State → Prop) (cls : Array Slot),
    ax_Cx base av D cA Hs Ls xs p s mth args meth c m → ls.length = ax_L m → ax_Lr base av ls cls → ax_Rep base av D cA Hs Ls xs ph h H → (∀ q ∈ locs, base ≤ q.base) → d + 2 ≤ R.frames → 100 * (d + 1) ≤ R.locals → cells + (h9.2.2.1 - h.2.2.1) = mF → slots + (h9.2.2.2.1 - h.2.2.2.1) = sF → mF ≤ R.cells → sF ≤ R.slots →
    (∀ pc' cls' H' locs' st' i, decode (ax_code m) pc' = .ok (i, 1) → ax_retv m i st' = some r → ax_Rep base av D cA Hs Ls xs ph h9 H' → (∀ q ∈ locs', base ≤ q.base) → ax_W base av p l e R s mth args below meth c H' locs' mF sF Q pc' cls' st') →
    ax_W base av p l e R s mth args below meth c H locs cells slots Q pc cls st
theorem ax_y_in {m : Nat} (h : m < 112) : (ax_y m).cls = ax_nm (ax_own m) ∧ (ax_y m).cls ≠ "java/lang/invoke/MethodHandle" ∧ (ax_y m).cls ≠ "java/lang/invoke/VarHandle" ∧ (ax_own m ≠ 14 → plainName (ax_y m).cls = true) ∧ ax_L m ≤ 40 ∧ (ax_own m < 15 ∨ ax_own m = 18) := by
  have h1 := List.all_eq_true.mp ax_y_ok m (List.mem_range.mpr h)
  simp only [Bool.and_eq_true, decide_eq_true_eq, Bool.or_eq_true] at h1
  obtain ⟨⟨⟨⟨⟨h1, h2⟩, h3⟩, h4⟩, h5⟩, h6⟩ := h1
  exact ⟨h1, h2, h3, fun q => h4.resolve_right q, h5, h6⟩
/-- a method's contract out of its run -/
theorem ax_Met (hv : ax_vok av) {l : Launch} {d m : Nat} {as : List Value} {h h1 : AH} {r : Option Value} (hm : m < 112) (ho : ax_own m ≠ 14) (he : (ax_ent0 as).length ≤ ax_L m) (hS : ax_Sound base av D cA Hs Ls xs ph d m 0 (ax_ent as (ax_L m)) [] h r h1) : Met l (ax_y m) (ax_codeW m :: ax_WS) (ax_rm d (h1.2.2.1 - h.2.2.1) (h1.2.2.2.1 - h.2.2.2.1)) (ax_Pc base av D cA Hs Ls xs ph as h) (ax_Qc base av D cA Hs Ls xs ph r h1) (h1.2.2.1 - h.2.2.1) (h1.2.2.2.1 - h.2.2.2.1) (fun q => base ≤ q) := by
  obtain ⟨y1, y2, y3, y4, y5, y6⟩ := ax_y_in hm
  refine Met.ofW (cc := ax_code m) (maxL := ax_L m) (ret := ax_ret m) (y4 ho) rfl ?_
  intro p e s mth args below meth c s₁ B hml hPc
  obtain ⟨ha, hR, KC⟩ := hPc
  have hts := atoms_spec (ws := ax_codeW m :: ax_WS) B.pre
  have hown : s.vm.findClass (ax_nm (ax_own m)) = some mth.cls := by rw [← y1]; exact findClass_of_methodNamed B.named
  have hlocks := B.notSynchronized
  have hr := B.returns
  subst ha
  rw [lg_entry_eq]
  have CX : ax_Cx base av D cA Hs Ls xs p s mth (as.map (ax_cv base av)).toArray meth c m := ⟨B.exec, B.bytes, hml, hown, fun w hw hg => hts w (List.mem_cons_of_mem _ (List.mem_filter.mpr ⟨hw, hg⟩)), (name_of_methodNamed B.named B.method).1, KC⟩
  refine hS.2.2 p l e (ax_rm d (h1.2.2.1 - h.2.2.1) (h1.2.2.2.1 - h.2.2.2.1)) s mth _ below meth c s.heap [] 0 0 _ _ _ _ CX (ax_ent_len he) (ax_ent_Lr hv he) hR (fun q hq => by cases hq) (Nat.le_refl _) (Nat.le_refl _) (Nat.zero_add _) (Nat.zero_add _) (Nat.le_refl _) (Nat.le_refl _) ?_
  intro pc' cls' H' locs' st' i hd hrv hR' hlo'
  have hx := B.exec
  have hb := B.bytes
  have hq : ∀ t : State, t.heap = H' → s.WarmedH t.vm → ax_Qc base av D cA Hs Ls xs ph r h1 (as.map (ax_cv base av)).toArray s (.returned (r.map (ax_cv base av))) t := fun t ht _ => ⟨rfl, by rw [ht]; exact hR'⟩
  unfold ax_W
  cases i <;> try (exact absurd hrv (by intro z; cases z))
  case ireturn =>
    simp only [ax_retv] at hrv
    split at hrv
    · split at hrv
      · rename_i v hc
        cases hrv
        rcases hc with q | ⟨q1, q2⟩ | ⟨q1, q2⟩ | ⟨q1, q2⟩
        · exact W.iret hx hb (hr.trans q) hq hlo' hd hlocks
        · exact W.zret hx hb (hr.trans q1) (by rcases q2 with rfl | rfl <;> rfl) hq hlo' hd hlocks
        · exact W.zret hx hb (hr.trans q1) (by show Value.int _ = Value.int _; rw [q2]) hq hlo' hd hlocks
        · exact W.zret hx hb (hr.trans q1) (by show Value.int _ = Value.int _; rw [q2]) hq hlo' hd hlocks
      · cases hrv
    · cases hrv
  case lreturn =>
    simp only [ax_retv] at hrv
    split at hrv
    · split at hrv
      · rename_i v hc
        cases hrv
        exact W.lret hx hb (hr.trans hc) hq hlo' hd hlocks
      · cases hrv
    · cases hrv
  case areturn =>
    simp only [ax_retv] at hrv
    split at hrv
    · split at hrv
      · rename_i v hc
        split at hrv
        · rename_i n hn
          cases hrv
          obtain ⟨o, ho⟩ := ax_cv_rf (base := base) hv hc
          have hq := hq
          refine W.aret hx hb (hr.trans hn) (Or.inl ⟨_, rfl⟩) ?_ hq hlo' hd hlocks
          rw [ho]
          cases o
          · exact Or.inl rfl
          · exact Or.inr ⟨_, rfl⟩
        · rename_i n hn
          cases hrv
          obtain ⟨o, ho⟩ := ax_cv_rf (base := base) hv hc
          have hq := hq
          refine W.aret hx hb (hr.trans hn) (Or.inr ⟨_, rfl⟩) ?_ hq hlo' hd hlocks
          rw [ho]
          cases o
          · exact Or.inl rfl
          · exact Or.inr ⟨_, rfl⟩
        · cases hrv
      · cases hrv
    · cases hrv
  case return_ =>
    simp only [ax_retv] at hrv
    split at hrv
    · split at hrv
      · rename_i hc
        cases hrv
        exact W.vret hx hb (hr.trans hc) hq hlo' hd hlocks
      · cases hrv
    · cases hrv
theorem ax_len_tsw {i : Instr} {len : Nat} (h : len = ax_len i ∨ ax_tsw i = true) : len = ax_len i ∨ ax_tsw i = true := h
theorem ax_retv_len {m : Nat} {i : Instr} {st : List Value} {r : Option Value} (h : ax_retv m i st = some r) : ax_len i = 1 := by
  cases i <;> first | rfl | (exact absurd h (by intro z; cases z))
theorem ax_cal_in {o k : Nat} {q : Nat × Nat × Nat} (h : ax_cal o k = some q) : ((o, k), q) ∈ ax_caT ∧ ((ax_caW ((o, k), q)) ∈ lw_tbl) ∧ ((4 ≤ q.1 ∧ q.1 ≠ 10) ∨ (q.2.1 < 112 ∧ ax_own q.2.1 ≠ 14 ∧ (parseMethodDescriptor (ax_y q.2.1).desc).map (fun d => d.parameters.length) = some q.2.2 ∧ (q.1 = 0 → q.2.1 ∈ ax_ordI ∧ q.2.1 ∈ ax_ordS) ∧ (q.1 = 1 ∨ q.1 = 10 → q.2.1 ∈ ax_ordT) ∧ (2 ≤ q.1 ∧ q.1 ≠ 10 → q.2.1 ∈ ax_ordI ∧ (ax_y q.2.1).name = "<init>" ∧ ax_ret q.2.1 = none))) := by
  have hm := ax_lookup_mem h
  refine ⟨hm, ax_sub_mem _ _ ax_caT_ok _ (List.mem_map.mpr ⟨_, hm, rfl⟩), ?_⟩
  have h1 := List.all_eq_true.mp ax_caT_ok2 _ hm
  dsimp only at h1
  by_cases h4 : 4 ≤ q.1 ∧ q.1 ≠ 10
  · exact Or.inl h4
  · rw [if_neg h4] at h1
    simp only [Bool.and_eq_true, decide_eq_true_eq] at h1
    obtain ⟨⟨⟨h1, h2⟩, h3⟩, h5⟩ := h1
    refine Or.inr ⟨h1, h2, h3, fun q0 => ?_, fun q0 => ?_, fun q0 => ?_⟩
    · rw [if_pos q0] at h5
      simpa using h5
    · rw [if_neg (by omega), if_pos q0] at h5
      simpa using h5
    · rw [if_neg (by omega), if_neg (by omega)] at h5
      simp only [Bool.and_eq_true, decide_eq_true_eq] at h5
      exact ⟨h5.1.1, h5.1.2, h5.2⟩
theorem ax_WS_good {q : Nat} (hq : q < 112) {ws : List Cond} (hw : ∀ w ∈ ax_WS, w ∈ ws) : GoodIn ws (ax_codeW q :: ax_WS) := by
  intro w h
  rcases List.mem_cons.mp h with rfl | h
  · exact ⟨hw _ (List.mem_filter.mpr ⟨ax_code_in hq, rfl⟩), good_of_word rfl⟩
  · exact ⟨hw _ h, good_of_word (List.mem_filter.mp h).2⟩
/-- the callee's object -/
theorem ax_recvr {h : AH} {H : Heap} {s : State} (KC : ax_KC base av D cA Hs Ls xs s) (hR : ax_Rep base av D cA Hs Ls xs ph h H) {a k : Nat} (hk : ax_ok ph h a = true) (hc : (ax_ty h a).1 = k) (h14 : k < 14) : ∃ (b : Nat) (cell : Cell), ax_cv base av (.ref a) = .ref b ∧ H[b]? = some cell ∧ cell.vm.isStatics = false ∧ s.vm.findClass (ax_nm k) = some cell.cls := by
  by_cases ha : a < 64
  · have et : ax_ty h a = ax_cty Ls a := by rw [ax_ty_con ha, hR.2.2.2.2.2.2.2.1]
    rw [et] at hc
    have ha9 : a < 49 := ax_con_lt (Ls := Ls) (by rw [hc]; omega)
    obtain ⟨b, eb, ⟨cell, o1, o2, o3, o4⟩, -⟩ := KC.2.2.2.2.1 a ha9 (by rw [hc]; exact h14)
    rw [hc] at o3
    exact ⟨b, cell, by rw [ax_cv_c ha, eb], by rw [hR.2.2.2.1 b (by rw [← hR.1]; exact (Array.getElem?_eq_some_iff.mp o1).1)]; exact o1, o2, o3⟩
  · have ha : 64 ≤ a := Nat.not_lt.mp ha
    have hn := hR.ok hk (Nat.not_lt.mpr ha)
    have h12 : (ax_ty h a).1 < 12 := by
      rcases hR.own ha hn with z | ⟨ty, z1, z2, -⟩
      · exact z
      · rw [hc] at z2; omega
    obtain ⟨cell, q1, q2, q3, q4⟩ := (hR.2.2.2.2.1 a ha hn).1 h12
    obtain ⟨-, hfc, -⟩ := KC.1 _ _ (ax_cl_in _ h12).1
    rw [hc] at hfc q2
    exact ⟨_, cell, ax_adr_own ha, q1, by rw [q3]; rfl, by rw [q2]; exact hfc⟩
end AxH
end
section
/-! THE INDUCTION over the run's fuel -/
section AxI
variable {base : Nat} {av : Nat → Value} {D : va_G} {cA : Nat → ClassId} {Hs : Heap} {Ls : Nat} {xs : Nat → Int32} {ph : Bool}
/-- behind a call that goes on: its run and the rest's run, one behind the other -/
theorem ax_callS (hv : ax_vok av) {i : Instr} {d m pc q : Nat} {ls st as rest : List Value} {h h1 h9 : AH} {r1 r : Option Value}
    (hd : decode (ax_code m) pc = .ok (i, 3)) (hc : ax_callv ph m i st h = some (some q, as, rest)) (he : (ax_ent0 as).length ≤ ax_L q)
    (S1 : ax_Sound base av D cA Hs Ls xs ph d q 0 (ax_ent as (ax_L q)) [] h r1 h1) (S2 : ax_Sound base av D cA Hs Ls xs ph (d + 1) m (pc + 3) ls (r1.toList ++ rest) h1 r h9) : ax_Sound base av D cA Hs Ls xs ph (d + 1) m pc ls st h r h9 := by
  obtain ⟨n1, z1, -⟩ := id S1
  obtain ⟨n2, z2, S2⟩ := S2
  refine ⟨Nat.le_trans n1 n2, Nat.le_trans z1 z2, ?_⟩
  intro p l e R s mth args below meth c H locs cells slots mF sF Q cls CX hL hl hR hlo hfr hlc hmF hsF hce hsl hret
  obtain ⟨hx, hb, hml, hown, hts, hnm, KC⟩ := id CX
  have hsize : cls.size = ax_L m := hl.1.trans hL
  have ht : ∀ w ∈ ax_WS, w.before args s = true := fun w hw => hts w (List.mem_filter.mp hw).1 (List.mem_filter.mp hw).2
  have F : CallFix p mth c (ax_code m) (ax_L m) s args ax_WS (ax_nm (ax_own m)) := ⟨hx, hb, hml, hown, ht⟩
  -- what follows behind the call
  have go : ∀ (a : Array Value), va_Run p l e R s mth args below meth c H locs cells slots (h1.2.2.1 - h.2.2.1) (h1.2.2.2.1 - h.2.2.2.1) (F0 mth pc cls (st.map (ax_cv base av))) (rest.map (ax_cv base av)) (ax_Qc base av D cA Hs Ls xs ph r1 h1 a) (fun q => base ≤ q) → ax_W base av p l e R s mth args below meth c H locs cells slots Q pc cls st := by
    intro a hr
    refine ax_after hr hlo fun H1 locs1 hR1 hlo1 => ?_
    have := S2 p l e R s mth args below meth c H1 locs1 (cells + (h1.2.2.1 - h.2.2.1)) (slots + (h1.2.2.2.1 - h.2.2.2.1)) mF sF Q cls CX hL hl hR1 hlo1 hfr hlc (by omega) (by omega) hce hsl hret
    unfold ax_W at this
    rw [List.map_append] at this
    have e1 : (r1.toList).map (ax_cv base av) = (r1.map (ax_cv base av)).toList := by cases r1 <;> rfl
    rw [e1] at this
    exact this
  have common : ∀ (kd n k : Nat), ax_cal (ax_own m) k = some (kd, q, n) → (kd < 4 ∨ kd = 10) → (q < 112 ∧ ax_own q ≠ 14 ∧ Met l (ax_y q) (ax_codeW q :: ax_WS) (ax_rm d (h1.2.2.1 - h.2.2.1) (h1.2.2.2.1 - h.2.2.2.1)) (ax_Pc base av D cA Hs Ls xs ph as h) (ax_Qc base av D cA Hs Ls xs ph r1 h1) (h1.2.2.1 - h.2.2.1) (h1.2.2.2.1 - h.2.2.2.1) (fun q => base ≤ q)) ∧ ((ax_rm d (h1.2.2.1 - h.2.2.1) (h1.2.2.2.1 - h.2.2.2.1)).frames + 1 ≤ R.frames ∧ 8 + (ax_L q + 11) + (ax_rm d (h1.2.2.1 - h.2.2.1) (h1.2.2.2.1 - h.2.2.2.1)).locals ≤ R.locals) ∧ ((ax_y q).cls ≠ "java/lang/invoke/MethodHandle" ∧ (ax_y q).cls ≠ "java/lang/invoke/VarHandle" ∧ (parseMethodDescriptor (ax_y q).desc).map (fun d => d.parameters.length) = some n) ∧ (Cond.initialized (ax_y q).cls).before args s = true := by
    intro kd n k hk hkd
    obtain ⟨hm1, hm2, hm3⟩ := ax_cal_in hk
    rcases hm3 with z | ⟨y1, y2, y3, y4⟩
    · exact absurd hkd (by show ¬ (kd < 4 ∨ kd = 10); have z1 : 4 ≤ kd := z.1; have z2 : kd ≠ 10 := z.2; omega)
    obtain ⟨w1, w2, w3, w4, w5, w6⟩ := ax_y_in y1
    have w5 : ax_L q ≤ 40 := w5
    refine ⟨⟨y1, y2, ax_Met hv y1 y2 he S1⟩, ⟨by show d + 2 + 1 ≤ R.frames; omega, by show 8 + (ax_L q + 11) + 100 * (d + 1) ≤ R.locals; omega⟩, ⟨w2, w3, y3⟩, ?_⟩
    rw [w1]
    exact hts _ (ax_ini_in w6) rfl
  have hW : ∀ r : List Value, ax_wt r ≤ 8 → 2 * (F0 mth pc cls (st.map (ax_cv base av))).monitorRoom + ((r.map (ax_cv base av)).map fun v => v.category).sum ≤ 8 := by
    intro r hr
    exact lv_room (by rw [ax_wt_le hv]; exact hr)
  have hf : cells + (h1.2.2.1 - h.2.2.1) ≤ R.cells ∧ slots + (h1.2.2.2.1 - h.2.2.2.1) ≤ R.slots := ⟨by omega, by omega⟩
  cases i <;> try (exact absurd hc (by intro z; cases z))
  case invokevirtual k =>
    simp only [ax_callv] at hc
    split at hc
    · rename_i q0 n hk
      split at hc
      · rename_i a r0 hdr
        split at hc
        · rename_i hcc
          cases hc
          obtain ⟨c1, c2, c3, c4, c5⟩ := hcc
          obtain ⟨⟨y1, y2, hM⟩, hRm, hde, hini⟩ := common 0 n k hk (by decide)
          obtain ⟨hm1, hm2, hm3⟩ := ax_cal_in hk
          rcases hm3 with z | ⟨-, -, -, y4, -, -⟩
          · exact absurd z.1 (by show ¬ 4 ≤ 0; decide)
          obtain ⟨b, cell, b1, b2, b3, b4⟩ := ax_recvr KC hR c5 c3 c4
          have est : st = st.take n ++ (.ref a :: rest) := by rw [← hdr, List.take_append_drop]
          have hl0 : (Cond.methodLink (ax_nm (ax_own m)) k (ax_y q)).before args s = true := hts _ hm2 rfl
          have cw : CallW R s args (ax_nm (ax_own m)) (ax_nm (ax_own q)) k (ax_y q) (ax_code q) (ax_L q) (ax_ret q) (ax_codeW q :: ax_WS) (ax_rm d (h1.2.2.1 - h.2.2.1) (h1.2.2.2.1 - h.2.2.2.1)) (h1.2.2.1 - h.2.2.1) (h1.2.2.2.1 - h.2.2.2.1) n := ⟨callB_of n ht (ax_WS_good y1 fun w h => h) rfl rfl rfl hini hl0 hde hRm, hts _ (ax_sub_mem _ _ ax_ordI_ok _ (List.mem_map.mpr ⟨q, (y4 rfl).1, rfl⟩)) rfl, hts _ (ax_sub_mem _ _ ax_ordS_ok _ (List.mem_map.mpr ⟨q, (y4 rfl).2, rfl⟩)) rfl⟩
          refine go _ (va_runV (b := b) (As := ((st.take n).reverse).map (ax_cv base av)) F hM cw ⟨ax_blind, ⟨cell, b2, b3, b4⟩, fun U hU hWm => ⟨by rw [List.map_cons, b1], by rw [hU]; exact hR, KC.warm hWm⟩⟩ rfl (by rw [List.length_map, List.length_reverse]; exact c1) hsize ?_ (hW _ c2) hd hf)
          show st.map (ax_cv base av) = _
          conv => lhs; rw [est]
          rw [List.map_append, List.map_cons, b1, ← List.map_reverse, List.reverse_reverse]
        · cases hc
      · cases hc
    · cases hc
  case invokestatic k =>
    simp only [ax_callv] at hc
    split at hc
    · rename_i q0 n hk
      split at hc
      · rename_i hcc
        cases hc
        obtain ⟨c1, c2⟩ := hcc
        obtain ⟨⟨y1, y2, hM⟩, hRm, hde, hini⟩ := common 1 n k hk (by decide)
        obtain ⟨hm1, hm2, hm3⟩ := ax_cal_in hk
        rcases hm3 with z | ⟨-, -, -, -, y4, -⟩
        · exact absurd z.1 (by show ¬ 4 ≤ 1; decide)
        have hl0 : (Cond.methodLink (ax_nm (ax_own m)) k (ax_y q)).before args s = true := hts _ hm2 rfl
        refine go _ (va_runS (As := ((st.take n).reverse).map (ax_cv base av)) F hM ⟨callB_of n ht (ax_WS_good y1 fun w h => h) rfl rfl rfl hini hl0 hde hRm, hts _ (ax_sub_mem _ _ ax_ordT_ok _ (List.mem_map.mpr ⟨q, y4 (Or.inl rfl), rfl⟩)) rfl⟩ ⟨ax_blind, fun U hU hWm => ⟨rfl, by rw [hU]; exact hR, KC.warm hWm⟩⟩ rfl (by rw [List.length_map, List.length_reverse]; exact c1) hsize ?_ (hW _ c2) hd hf)
        show st.map (ax_cv base av) = _
        conv => lhs; rw [← List.take_append_drop n st]
        rw [List.map_append, ← List.map_reverse, List.reverse_reverse]
      · cases hc
    · rename_i q0 n hk
      split at hc
      · rename_i hcc
        cases hc
        obtain ⟨c1, c2⟩ := hcc
        obtain ⟨⟨y1, y2, hM⟩, hRm, hde, hini⟩ := common 10 n k hk (by decide)
        obtain ⟨hm1, hm2, hm3⟩ := ax_cal_in hk
        rcases hm3 with z | ⟨-, -, -, -, y4, -⟩
        · exact absurd rfl z.2
        have hnw := KC.2.2.2.1.2.2.2 _ hm1 (Or.inr rfl)
        refine go _ (va_runSN (As := ((st.take n).reverse).map (ax_cv base av)) F hM ⟨va_cnB (bytes := ax_code q) (maxL := ax_L q) (ret := ax_ret q) n ht (ax_WS_good y1 fun w h => h) rfl (rm := ax_rm d (h1.2.2.1 - h.2.2.1) (h1.2.2.2.1 - h.2.2.2.1)) rfl rfl hnw hini hde hRm, hts _ (ax_sub_mem _ _ ax_ordT_ok _ (List.mem_map.mpr ⟨q, y4 (Or.inr rfl), rfl⟩)) rfl, trivial⟩ ⟨ax_blind, fun U hU hWm => ⟨rfl, by rw [hU]; exact hR, KC.warm hWm⟩⟩ rfl (by rw [List.length_map, List.length_reverse]; exact c1) hsize ?_ (hW _ c2) hd hf)
        show st.map (ax_cv base av) = _
        conv => lhs; rw [← List.take_append_drop n st]
        rw [List.map_append, ← List.map_reverse, List.reverse_reverse]
      · cases hc
    · cases hc
  case invokespecial k =>
    simp only [ax_callv] at hc
    split at hc
    · rename_i q0 n hk
      split at hc
      · rename_i a r0 hdr
        split at hc
        · rename_i hcc
          cases hc
          obtain ⟨c1, c2, c3⟩ := hcc
          obtain ⟨⟨y1, y2, hM⟩, hRm, hde, hini⟩ := common 2 n k hk (by decide)
          obtain ⟨hm1, hm2, hm3⟩ := ax_cal_in hk
          rcases hm3 with z | ⟨-, -, -, -, -, y4⟩
          · exact absurd z.1 (by show ¬ 4 ≤ 2; decide)
          obtain ⟨g1, g2, g3⟩ := y4 ⟨Nat.le_refl _, by show 2 ≠ 10; decide⟩
          have hl0 : (Cond.methodLink (ax_nm (ax_own m)) k (ax_y q)).before args s = true := hts _ hm2 rfl
          have est : st = st.take n ++ (.ref a :: rest) := by rw [← hdr, List.take_append_drop]
          have hcb := callB_of (bytes := ax_code q) (maxL := ax_L q) (ret := ax_ret q) n ht (ax_WS_good y1 fun w h => h) rfl rfl rfl hini hl0 hde hRm
          rw [g3] at hcb
          refine go _ (va_runI (b := base + (a - 64)) (As := ((st.take n).reverse).map (ax_cv base av)) F hM ⟨hcb, g2, hts _ (ax_sub_mem _ _ ax_ordI_ok _ (List.mem_map.mpr ⟨q, g1, rfl⟩)) rfl⟩ ⟨ax_blind, fun U hU hWm => ⟨by rw [List.map_cons, ax_adr_own c3], by rw [hU]; exact hR, KC.warm hWm⟩⟩ rfl (by rw [List.length_map, List.length_reverse]; exact c1) hsize ?_ (hW _ c2) hd hf)
          show st.map (ax_cv base av) = _
          conv => lhs; rw [est]
          rw [List.map_append, List.map_cons, ax_adr_own c3, ← List.map_reverse, List.reverse_reverse]
        · cases hc
      · cases hc
    · rename_i q0 n hk
      split at hc
      · rename_i a r0 hdr
        split at hc
        · rename_i hcc
          cases hc
          obtain ⟨c1, c2, c3⟩ := hcc
          obtain ⟨⟨y1, y2, hM⟩, hRm, hde, hini⟩ := common 3 n k hk (by decide)
          obtain ⟨hm1, hm2, hm3⟩ := ax_cal_in hk
          rcases hm3 with z | ⟨-, -, -, -, -, y4⟩
          · exact absurd z.1 (by show ¬ 4 ≤ 3; decide)
          obtain ⟨g1, g2, g3⟩ := y4 ⟨by show 2 ≤ 3; decide, by show 3 ≠ 10; decide⟩
          have hnw := KC.2.2.2.1.2.2.2 _ hm1 (Or.inl rfl)
          have est : st = st.take n ++ (.ref a :: rest) := by rw [← hdr, List.take_append_drop]
          have hcb := va_cnB (bytes := ax_code q) (maxL := ax_L q) (ret := ax_ret q) n ht (ax_WS_good y1 fun w h => h) rfl (rm := ax_rm d (h1.2.2.1 - h.2.2.1) (h1.2.2.2.1 - h.2.2.2.1)) rfl rfl hnw hini hde hRm
          rw [g3] at hcb
          refine go _ (va_runIN (b := base + (a - 64)) (As := ((st.take n).reverse).map (ax_cv base av)) F hM ⟨hcb, g2, hts _ (ax_sub_mem _ _ ax_ordI_ok _ (List.mem_map.mpr ⟨q, g1, rfl⟩)) rfl⟩ ⟨ax_blind, fun U hU hWm => ⟨by rw [List.map_cons, ax_adr_own c3], by rw [hU]; exact hR, KC.warm hWm⟩⟩ rfl (by rw [List.length_map, List.length_reverse]; exact c1) hsize ?_ (hW _ c2) hd hf)
          show st.map (ax_cv base av) = _
          conv => lhs; rw [est]
          rw [List.map_append, List.map_cons, ax_adr_own c3, ← List.map_reverse, List.reverse_reverse]
        · cases hc
      · cases hc
    · split at hc
      · split at hc
        · cases hc
        · cases hc
      · cases hc
    · cases hc
/-- Object's constructor -/
theorem ax_objS (hv : ax_vok av) {i : Instr} {d m pc : Nat} {ls st as rest : List Value} {h h9 : AH} {r : Option Value}
    (hd : decode (ax_code m) pc = .ok (i, 3)) (hc : ax_callv ph m i st h = some (none, as, rest)) (S2 : ax_Sound base av D cA Hs Ls xs ph d m (pc + 3) ls rest h r h9) : ax_Sound base av D cA Hs Ls xs ph d m pc ls st h r h9 := by
  obtain ⟨n2, z2, S2⟩ := S2
  refine ⟨n2, z2, ?_⟩
  intro p l e R s mth args below meth c H locs cells slots mF sF Q cls CX hL hl hR hlo hfr hlc hmF hsF hce hsl hret
  obtain ⟨hx, hb, hml, hown, hts, hnm, KC⟩ := id CX
  have K := S2 p l e R s mth args below meth c H locs cells slots mF sF Q cls CX hL hl hR hlo hfr hlc hmF hsF hce hsl hret
  cases i <;> try (exact absurd hc (by intro z; cases z))
  case invokevirtual k =>
    simp only [ax_callv] at hc
    repeat' split at hc
    all_goals cases hc
  case invokestatic k =>
    simp only [ax_callv] at hc
    repeat' split at hc
    all_goals cases hc
  case invokespecial k =>
    simp only [ax_callv] at hc
    split at hc
    · repeat' split at hc
      all_goals cases hc
    · repeat' split at hc
      all_goals cases hc
    · rename_i q0 n0 hk
      split at hc
      · rename_i a r0
        split at hc
        · rename_i hcc
          cases hc
          obtain ⟨-, hm2, -⟩ := ax_cal_in hk
          have hl0 : (Cond.methodLink (ax_nm (ax_own m)) k Lib.objectInit).before args s = true := hts _ hm2 rfl
          unfold ax_W at K ⊢
          rw [List.map_cons, ax_adr_own hcc.2]
          refine W.objInit hx hb hown hl0 (hts _ ax_obj_in.1 rfl) (hts _ ax_obj_in.2 rfl) rfl ((hl.1.trans hL).trans hml.symm) rfl hd (by omega) ?_ K
          rw [ax_wt_le hv]
          have := hcc.1
          show 2 * 0 + _ + 12 ≤ _
          omega
        · cases hc
      · cases hc
    · cases hc
theorem ax_sound (hv : ax_vok av) (hnn : ax_vnn av) : ∀ (f d m pc : Nat) (ls st : List Value) (h : AH) (r : Option Value) (h9 : AH), ax_ex ph f d m pc ls st h = some (r, h9) → ax_Sound base av D cA Hs Ls xs ph d m pc ls st h r h9
  | 0, _, _, _, _, _, _, _, _, hx => by cases hx
  | f + 1, d, m, pc, ls, st, h, r, h9, hx => by
    unfold ax_ex at hx
    split at hx
    · cases hx
    · rename_i i len hdc
      split at hx
      · rename_i pc1 ls1 st1 h1 hs
        split at hx
        · rename_i hlen
          obtain ⟨n2, z2, S2⟩ := ax_sound hv hnn f d m pc1 ls1 st1 h1 r h9 hx
          have hln := ax_step_len hs
          -- the cells only grow
          have grow : h.2.2.1 ≤ h1.2.2.1 ∧ h.2.2.2.1 ≤ h1.2.2.2.1 := ax_step_grow hs
          refine ⟨Nat.le_trans grow.1 n2, Nat.le_trans grow.2 z2, ?_⟩
          intro p l e R s mth args below meth c H locs cells slots mF sF Q cls CX hL hl hR hlo hfr hlc hmF hsF hce hsl hret
          obtain ⟨g1, g2⟩ := grow
          refine ax_stepS hv hnn hs hdc hlen CX hl hR hlo (by omega) (by omega) (by omega) (by omega) (by omega) (by omega) fun _ _ cls1 H1 locs1 hl1 hR1 hlo1 => ?_
          exact S2 p l e R s mth args below meth c H1 locs1 _ _ mF sF Q cls1 CX (hln.trans hL) hl1 hR1 hlo1 hfr hlc (by omega) (by omega) hce hsl hret
        · cases hx
      · split at hx
        · rename_i r0 hrv
          split at hx
          · rename_i hlen
            cases hx
            refine ⟨Nat.le_refl _, Nat.le_refl _, ?_⟩
            intro p l e R s mth args below meth c H locs cells slots mF sF Q cls CX hL hl hR hlo hfr hlc hmF hsF hce hsl hret
            rw [ax_retv_len hrv] at hlen
            subst hlen
            have := hret pc cls H locs st i hdc hrv hR hlo
            rw [Nat.sub_self, Nat.add_zero] at hmF hsF
            subst hmF
            subst hsF
            exact this
          · cases hx
        · split at hx
          · rename_i as rest hc
            split at hx
            · rename_i hlen
              subst hlen
              exact ax_objS hv hdc hc (ax_sound hv hnn f d m (pc + 3) ls rest h r h9 hx)
            · cases hx
          · rename_i q as rest hc
            split at hx
            · rename_i hlen
              obtain ⟨rfl, he⟩ := hlen
              split at hx
              · cases hx
              · rename_i d1
                split at hx
                · rename_i v h1 hcl
                  exact ax_callS hv hdc hc he (ax_sound hv hnn f d1 q 0 _ [] h v h1 hcl) (ax_sound hv hnn f (d1 + 1) m (pc + 3) ls _ h1 r h9 hx)
                · cases hx
            · cases hx
          · cases hx
end AxI
end
section
/-! ROWS OF THE SMALL MACHINE: an instruction, a row -/
theorem ax_mono {ph : Bool} : ∀ (f d m pc : Nat) (ls st : List Value) (h : AH) (R : Option Value × AH), ax_ex ph f d m pc ls st h = some R → ∀ f' d', f ≤ f' → d ≤ d' → ax_ex ph f' d' m pc ls st h = some R
  | 0, _, _, _, _, _, _, _, hx, _, _, _, _ => by cases hx
  | f + 1, d, m, pc, ls, st, h, R, hx, f', d', hf, hd => by
    obtain ⟨f', rfl⟩ : ∃ g, f' = g + 1 := ⟨f' - 1, by omega⟩
    have hf : f ≤ f' := by omega
    unfold ax_ex at hx ⊢
    split at hx
    · cases hx
    · rename_i i len hdc
      split at hx
      · rename_i pc1 ls1 st1 h1 hs
        split at hx
        · rename_i hlen
          rw [if_pos hlen]
          exact ax_mono f d m pc1 ls1 st1 h1 R hx f' d' hf hd
        · cases hx
      · rename_i hs
        split at hx
        · rename_i r0 hrv
          split at hx
          · rename_i hlen
            try simp only [hrv]
            rw [if_pos hlen]
            exact hx
          · cases hx
        · rename_i hrv
          try simp only [hrv]
          split at hx
          · rename_i as rest hc
            split at hx
            · rename_i hlen
              try simp only [hc]
              rw [if_pos hlen]
              exact ax_mono f d m _ ls rest h R hx f' d' hf hd
            · cases hx
          · rename_i q as rest hc
            split at hx
            · rename_i hlen
              try simp only [hc]
              rw [if_pos hlen]
              split at hx
              · cases hx
              · rename_i d1
                obtain ⟨d', rfl⟩ : ∃ g, d' = g + 1 := ⟨d' - 1, by omega⟩
                split at hx
                · rename_i v h1 hcl
                  have h2 := ax_mono f d1 q 0 _ [] h _ hcl f' d' hf (by omega)
                  simp only [h2]
                  exact ax_mono f (d1 + 1) m _ ls _ h1 R hx f' (d' + 1) hf hd
                · cases hx
            · cases hx
          · cases hx
theorem XX.mono {ph : Bool} {d d' m pc : Nat} {ls st : List Value} {h : AH} {R : Option Value × AH} (hx : XX ph d m pc ls st h R) (hd : d ≤ d') : XX ph d' m pc ls st h R := by
  obtain ⟨f, hf⟩ := hx
  exact ⟨f, ax_mono f d m pc ls st h R hf f d' (Nat.le_refl _) hd⟩
theorem XX.det {ph : Bool} {d d' m pc : Nat} {ls st : List Value} {h : AH} {R R' : Option Value × AH} (h1 : XX ph d m pc ls st h R) (h2 : XX ph d' m pc ls st h R') : R = R' := by
  obtain ⟨f, hf⟩ := h1
  obtain ⟨f', hf'⟩ := h2
  have a := ax_mono f d m pc ls st h R hf (max f f') (max d d') (Nat.le_max_left _ _) (Nat.le_max_left _ _)
  have b := ax_mono f' d' m pc ls st h R' hf' (max f f') (max d d') (Nat.le_max_right _ _) (Nat.le_max_right _ _)
  exact Option.some.inj (a.symm.trans b)
section Rows
variable {ph : Bool} {d m pc : Nat} {ls st : List Value} {h : AH} {R : Option Value × AH}
theorem xx_step {i : Instr} {len pc1 : Nat} {ls1 st1 : List Value} {h1 : AH} (hd : decode (ax_code m) pc = .ok (i, len)) (hs : ax_step ph m i pc ls st h = some (pc1, ls1, st1, h1)) (hl : len = ax_len i ∨ ax_tsw i = true) : XX ph d m pc ls st h R ↔ XX ph d m pc1 ls1 st1 h1 R := by
  constructor
  · rintro ⟨f, hf⟩
    cases f with
    | zero => cases hf
    | succ f =>
      unfold ax_ex at hf
      simp only [hd, hs] at hf
      rw [if_pos hl] at hf
      exact ⟨f, hf⟩
  · rintro ⟨f, hf⟩
    refine ⟨f + 1, ?_⟩
    unfold ax_ex
    simp only [hd, hs]
    rw [if_pos hl]
    exact hf
theorem xx_ret {i : Instr} {len : Nat} {r : Option Value} (hd : decode (ax_code m) pc = .ok (i, len)) (hs : ax_step ph m i pc ls st h = none) (hr : ax_retv m i st = some r) (hl : len = ax_len i) : XX ph d m pc ls st h R ↔ R = (r, h) := by
  constructor
  · rintro ⟨f, hf⟩
    cases f with
    | zero => cases hf
    | succ f =>
      unfold ax_ex at hf
      simp only [hd, hs, hr] at hf
      rw [if_pos hl] at hf
      exact (Option.some.inj hf).symm
  · rintro rfl
    refine ⟨1, ?_⟩
    unfold ax_ex
    simp only [hd, hs, hr]
    rw [if_pos hl]
theorem xx_stuck {i : Instr} {len : Nat} (hd : decode (ax_code m) pc = .ok (i, len)) (hs : ax_step ph m i pc ls st h = none) (hr : ax_retv m i st = none) (hc : ax_callv ph m i st h = none) : XX ph d m pc ls st h R ↔ False := by
  refine ⟨?_, False.elim⟩
  rintro ⟨f, hf⟩
  cases f with
  | zero => cases hf
  | succ f =>
    unfold ax_ex at hf
    simp only [hd, hs, hr, hc] at hf
    cases hf
/-- a call whose run is known -/
theorem xx_call0 {i : Instr} {d1 dq q : Nat} {as rest : List Value} {r : Option Value} {h1 : AH} (hd : decode (ax_code m) pc = .ok (i, 3)) (hs : ax_step ph m i pc ls st h = none) (hr : ax_retv m i st = none) (hc : ax_callv ph m i st h = some (some q, as, rest)) (he : (ax_ent0 as).length ≤ ax_L q) (hdd : d = d1 + 1) (hdq : dq ≤ d1) (hx : XX ph dq q 0 (ax_ent as (ax_L q)) [] h (r, h1)) : XX ph d m pc ls st h R ↔ XX ph d m (pc + 3) ls (r.toList ++ rest) h1 R := by
  subst hdd
  constructor
  · rintro ⟨f, hf⟩
    cases f with
    | zero => cases hf
    | succ f =>
      unfold ax_ex at hf
      simp only [hd, hs, hr, hc] at hf
      rw [if_pos ⟨trivial, he⟩] at hf
      split at hf
      · rename_i v h2 hcl
        have := XX.det hx ⟨f, hcl⟩
        cases this
        exact ⟨f, hf⟩
      · cases hf
  · rintro ⟨f, hf⟩
    obtain ⟨g, hg⟩ := hx
    refine ⟨max f g + 1, ?_⟩
    unfold ax_ex
    simp only [hd, hs, hr, hc]
    rw [if_pos ⟨trivial, he⟩]
    have a := ax_mono g dq q 0 _ [] h _ hg (max f g) d1 (Nat.le_max_right _ _) hdq
    simp only [a]
    exact ax_mono f (d1 + 1) m (pc + 3) ls _ h1 R hf (max f g) (d1 + 1) (Nat.le_max_left _ _) (Nat.le_refl _)
theorem xx_obj {k n q : Nat} {rest : List Value} {a : Nat} (hd : decode (ax_code m) pc = .ok (.invokespecial k, 3)) (hc : ax_cal (ax_own m) k = some (4, q, n)) (hw : ax_wt rest ≤ 8) (ha : 64 ≤ a) : XX ph d m pc ls (.ref a :: rest) h R ↔ XX ph d m (pc + 3) ls rest h R := by
  have hcv : ax_callv ph m (.invokespecial k) (.ref a :: rest) h = some (none, [], rest) := by
    simp only [ax_callv, hc]
    rw [if_pos ⟨hw, ha⟩]
  have hs : ax_step ph m (.invokespecial k) pc ls (.ref a :: rest) h = none := rfl
  have hr : ax_retv m (.invokespecial k) (.ref a :: rest) = none := rfl
  constructor
  · rintro ⟨f, hf⟩
    cases f with
    | zero => cases hf
    | succ f =>
      unfold ax_ex at hf
      simp only [hd, hs, hr, hcv] at hf
      rw [if_pos trivial] at hf
      exact ⟨f, hf⟩
  · rintro ⟨f, hf⟩
    refine ⟨f + 1, ?_⟩
    unfold ax_ex
    simp only [hd, hs, hr, hcv]
    rw [if_pos trivial]
    exact hf
end Rows
end
section
/-! AN INSTRUCTION, A ROW: of the small machine, as equivalences -/
def hI (h : AH) (a j : Nat) : Int32 := toI (h.1 a j)
def hL (h : AH) (a j : Nat) : Int64 := toL (h.1 a j)
def hR (h : AH) (a j : Nat) : Value := toR (h.1 a j)
abbrev ix (i : Int32) : Nat := i.toNatClampNeg
section Instr
variable {ph : Bool} {d m pc : Nat} {ls st : List Value} {h : AH} {R : Option Value × AH}
theorem ax_lod_of {c n : Nat} {v : Value} (hv : ls.getD n ax_junk = v) (hk : ax_kd v = c) : ax_lod c ls n = some v := by
  unfold ax_lod
  rw [hv, if_pos hk]
theorem ax_sto_of {c n : Nat} {v : Value} {ls1 : List Value} {k : Nat} (hk : ax_kd v = c) (hL : ax_L m = k) (hl : ls.length = k) (hn : (if c = 1 ∨ c = 4 then n + 1 else n) < k) (h1 : ax_put ls n v = ls1) : ax_sto c m ls (v :: st) n = some (ls1, st) := by
  show (if ax_kd v = c ∧ (if c = 1 ∨ c = 4 then n + 1 else n) < ls.length ∧ ls.length = ax_L m then some (ax_put ls n v, st) else none) = _
  rw [if_pos ⟨hk, by rw [hl]; exact hn, by rw [hl, hL]⟩, h1]
theorem xr_iload {n : Nat} {v : Value} (hd : decode (ax_code m) pc = .ok (.iload n, 2)) (hv : ls.getD n ax_junk = v) (hk : ax_kd v = 0) : XX ph d m pc ls st h R ↔ XX ph d m (pc + 2) ls (v :: st) h R := xx_step hd (by simp only [ax_step, ax_lod_of hv hk]; rfl) (Or.inl rfl)
theorem xr_iload_n {n : Fin 4} {v : Value} (hd : decode (ax_code m) pc = .ok (.iload_n n, 1)) (hv : ls.getD n.val ax_junk = v) (hk : ax_kd v = 0) : XX ph d m pc ls st h R ↔ XX ph d m (pc + 1) ls (v :: st) h R := xx_step hd (by simp only [ax_step, ax_lod_of hv hk]; rfl) (Or.inl rfl)
theorem xr_lload {n : Nat} {v : Value} (hd : decode (ax_code m) pc = .ok (.lload n, 2)) (hv : ls.getD n ax_junk = v) (hk : ax_kd v = 1) : XX ph d m pc ls st h R ↔ XX ph d m (pc + 2) ls (v :: st) h R := xx_step hd (by simp only [ax_step, ax_lod_of hv hk]; rfl) (Or.inl rfl)
theorem xr_lload_n {n : Fin 4} {v : Value} (hd : decode (ax_code m) pc = .ok (.lload_n n, 1)) (hv : ls.getD n.val ax_junk = v) (hk : ax_kd v = 1) : XX ph d m pc ls st h R ↔ XX ph d m (pc + 1) ls (v :: st) h R := xx_step hd (by simp only [ax_step, ax_lod_of hv hk]; rfl) (Or.inl rfl)
theorem xr_aload {n : Nat} {v : Value} (hd : decode (ax_code m) pc = .ok (.aload n, 2)) (hv : ls.getD n ax_junk = v) (hk : ax_kd v = 2) : XX ph d m pc ls st h R ↔ XX ph d m (pc + 2) ls (v :: st) h R := xx_step hd (by simp only [ax_step, ax_lod_of hv hk]; rfl) (Or.inl rfl)
theorem xr_aload_n {n : Fin 4} {v : Value} (hd : decode (ax_code m) pc = .ok (.aload_n n, 1)) (hv : ls.getD n.val ax_junk = v) (hk : ax_kd v = 2) : XX ph d m pc ls st h R ↔ XX ph d m (pc + 1) ls (v :: st) h R := xx_step hd (by simp only [ax_step, ax_lod_of hv hk]; rfl) (Or.inl rfl)
theorem xr_istore {n k : Nat} {v : Value} {ls1 : List Value} (hd : decode (ax_code m) pc = .ok (.istore n, 2)) (hk : ax_kd v = 0) (hL : ax_L m = k) (hl : ls.length = k) (hn : n < k) (h1 : ax_put ls n v = ls1) : XX ph d m pc ls (v :: st) h R ↔ XX ph d m (pc + 2) ls1 st h R := xx_step hd (by simp only [ax_step, ax_sto_of (c := 0) hk hL hl hn h1]; rfl) (Or.inl rfl)
theorem xr_istore_n {n : Fin 4} {k : Nat} {v : Value} {ls1 : List Value} (hd : decode (ax_code m) pc = .ok (.istore_n n, 1)) (hk : ax_kd v = 0) (hL : ax_L m = k) (hl : ls.length = k) (hn : n.val < k) (h1 : ax_put ls n.val v = ls1) : XX ph d m pc ls (v :: st) h R ↔ XX ph d m (pc + 1) ls1 st h R := xx_step hd (by simp only [ax_step, ax_sto_of (c := 0) hk hL hl hn h1]; rfl) (Or.inl rfl)
theorem xr_lstore {n k : Nat} {v : Value} {ls1 : List Value} (hd : decode (ax_code m) pc = .ok (.lstore n, 2)) (hk : ax_kd v = 1) (hL : ax_L m = k) (hl : ls.length = k) (hn : n + 1 < k) (h1 : ax_put ls n v = ls1) : XX ph d m pc ls (v :: st) h R ↔ XX ph d m (pc + 2) ls1 st h R := xx_step hd (by simp only [ax_step, ax_sto_of (c := 1) hk hL hl hn h1]; rfl) (Or.inl rfl)
theorem xr_lstore_n {n : Fin 4} {k : Nat} {v : Value} {ls1 : List Value} (hd : decode (ax_code m) pc = .ok (.lstore_n n, 1)) (hk : ax_kd v = 1) (hL : ax_L m = k) (hl : ls.length = k) (hn : n.val + 1 < k) (h1 : ax_put ls n.val v = ls1) : XX ph d m pc ls (v :: st) h R ↔ XX ph d m (pc + 1) ls1 st h R := xx_step hd (by simp only [ax_step, ax_sto_of (c := 1) hk hL hl hn h1]; rfl) (Or.inl rfl)
theorem xr_astore {n k : Nat} {v : Value} {ls1 : List Value} (hd : decode (ax_code m) pc = .ok (.astore n, 2)) (hk : ax_kd v = 2) (hL : ax_L m = k) (hl : ls.length = k) (hn : n < k) (h1 : ax_put ls n v = ls1) : XX ph d m pc ls (v :: st) h R ↔ XX ph d m (pc + 2) ls1 st h R := xx_step hd (by simp only [ax_step, ax_sto_of (c := 2) hk hL hl hn h1]; rfl) (Or.inl rfl)
theorem xr_astore_n {n : Fin 4} {k : Nat} {v : Value} {ls1 : List Value} (hd : decode (ax_code m) pc = .ok (.astore_n n, 1)) (hk : ax_kd v = 2) (hL : ax_L m = k) (hl : ls.length = k) (hn : n.val < k) (h1 : ax_put ls n.val v = ls1) : XX ph d m pc ls (v :: st) h R ↔ XX ph d m (pc + 1) ls1 st h R := xx_step hd (by simp only [ax_step, ax_sto_of (c := 2) hk hL hl hn h1]; rfl) (Or.inl rfl)
theorem xr_iinc {n k : Nat} {c : Int} {x y : Int32} {ls1 : List Value} (hd : decode (ax_code m) pc = .ok (.iinc n c, 3)) (hv : ls.getD n ax_junk = .int x) (hc : Int32.ofInt c = y) (hL : ax_L m = k) (hl : ls.length = k) (hn : n < k) (h1 : ax_put ls n (.int (x + y)) = ls1) : XX ph d m pc ls st h R ↔ XX ph d m (pc + 3) ls1 st h R := xx_step hd (by simp only [ax_step, hv]; rw [if_pos ⟨by rw [hl]; exact hn, by rw [hl, hL]⟩, hc, h1]) (Or.inl rfl)
theorem xr_iconst {n : Int} {v : Int32} (hd : decode (ax_code m) pc = .ok (.iconst n, 1)) (hv : Int32.ofInt n = v) : XX ph d m pc ls st h R ↔ XX ph d m (pc + 1) ls (.int v :: st) h R := xx_step hd (by simp only [ax_step, hv]) (Or.inl rfl)
theorem xr_bipush {n : Int} {v : Int32} (hd : decode (ax_code m) pc = .ok (.bipush n, 2)) (hv : (Int8.ofInt n).toInt32 = v) : XX ph d m pc ls st h R ↔ XX ph d m (pc + 2) ls (.int v :: st) h R := xx_step hd (by simp only [ax_step, hv]) (Or.inl rfl)
theorem xr_sipush {n : Int} {v : Int32} (hd : decode (ax_code m) pc = .ok (.sipush n, 3)) (hv : (Int16.ofInt n).toInt32 = v) : XX ph d m pc ls st h R ↔ XX ph d m (pc + 3) ls (.int v :: st) h R := xx_step hd (by simp only [ax_step, hv]) (Or.inl rfl)
theorem xr_lconst {n : Fin 2} {v : Int64} (hd : decode (ax_code m) pc = .ok (.lconst n, 1)) (hv : Int64.ofNat n.val = v) : XX ph d m pc ls st h R ↔ XX ph d m (pc + 1) ls (.long v :: st) h R := xx_step hd (by simp only [ax_step, hv]) (Or.inl rfl)
theorem xr_null (hd : decode (ax_code m) pc = .ok (.aconst_null, 1)) : XX ph d m pc ls st h R ↔ XX ph d m (pc + 1) ls (.null :: st) h R := xx_step hd rfl (Or.inl rfl)
theorem xr_ldcI {o k : Nat} {x : Int32} (hd : decode (ax_code m) pc = .ok (.ldc k, 2)) (ho : ax_own m = o) (hv : ax_ldc o k = some (.int x)) : XX ph d m pc ls st h R ↔ XX ph d m (pc + 2) ls (.int x :: st) h R := xx_step hd (by simp only [ax_step, ho, hv]) (Or.inl rfl)
theorem xr_ldcS {o k : Nat} {x : Nat} (hd : decode (ax_code m) pc = .ok (.ldc k, 2)) (ho : ax_own m = o) (hv : ax_ldc o k = some (.ref x)) : XX ph d m pc ls st h R ↔ XX ph d m (pc + 2) ls (.ref x :: st) h R := xx_step hd (by simp only [ax_step, ho, hv]) (Or.inl rfl)
theorem xr_ldcw {o k : Nat} {x : Int32} (hd : decode (ax_code m) pc = .ok (.ldc_w k, 3)) (ho : ax_own m = o) (hv : ax_ldc o k = some (.int x)) : XX ph d m pc ls st h R ↔ XX ph d m (pc + 3) ls (.int x :: st) h R := xx_step hd (by simp only [ax_step, ho, hv]) (Or.inl rfl)
theorem xr_ldcwS {o k : Nat} {x : Nat} (hd : decode (ax_code m) pc = .ok (.ldc_w k, 3)) (ho : ax_own m = o) (hv : ax_ldc o k = some (.ref x)) : XX ph d m pc ls st h R ↔ XX ph d m (pc + 3) ls (.ref x :: st) h R := xx_step hd (by simp only [ax_step, ho, hv]) (Or.inl rfl)
theorem xr_ldc2 {o k : Nat} {x : Int64} (hd : decode (ax_code m) pc = .ok (.ldc2_w k, 3)) (ho : ax_own m = o) (hv : ax_ldc o k = some (.long x)) : XX ph d m pc ls st h R ↔ XX ph d m (pc + 3) ls (.long x :: st) h R := xx_step hd (by simp only [ax_step, ho, hv]) (Or.inl rfl)
theorem xx_safe {i : Instr} {len pc1 : Nat} {s : Bool} {st0 ls1 st1 : List Value} {h1 : AH} (hd : decode (ax_code m) pc = .ok (i, len)) (hs : s = true → ax_step ph m i pc ls st0 h = some (pc1, ls1, st1, h1)) (hn : s = false → ax_step ph m i pc ls st0 h = none) (hr : ax_retv m i st0 = none) (hc : ax_callv ph m i st0 h = none) (hl : len = ax_len i ∨ ax_tsw i = true) : XX ph d m pc ls st0 h R ↔ s = true ∧ XX ph d m pc1 ls1 st1 h1 R := by
  cases s with
  | true => rw [xx_step hd (hs rfl) hl]; simp
  | false => rw [xx_stuck hd (hn rfl) hr hc]; simp
theorem xr_iadd {x y : Int32} (hd : decode (ax_code m) pc = .ok (.iadd, 1)) : XX ph d m pc ls (.int y :: .int x :: st) h R ↔ XX ph d m (pc + 1) ls (.int (x + y) :: st) h R := xx_step hd rfl (Or.inl rfl)
theorem xr_isub {x y : Int32} (hd : decode (ax_code m) pc = .ok (.isub, 1)) : XX ph d m pc ls (.int y :: .int x :: st) h R ↔ XX ph d m (pc + 1) ls (.int (x - y) :: st) h R := xx_step hd rfl (Or.inl rfl)
theorem xr_imul {x y : Int32} (hd : decode (ax_code m) pc = .ok (.imul, 1)) : XX ph d m pc ls (.int y :: .int x :: st) h R ↔ XX ph d m (pc + 1) ls (.int (x * y) :: st) h R := xx_step hd rfl (Or.inl rfl)
theorem xr_iand {x y : Int32} (hd : decode (ax_code m) pc = .ok (.iand, 1)) : XX ph d m pc ls (.int y :: .int x :: st) h R ↔ XX ph d m (pc + 1) ls (.int (x &&& y) :: st) h R := xx_step hd rfl (Or.inl rfl)
theorem xr_ior {x y : Int32} (hd : decode (ax_code m) pc = .ok (.ior, 1)) : XX ph d m pc ls (.int y :: .int x :: st) h R ↔ XX ph d m (pc + 1) ls (.int (x ||| y) :: st) h R := xx_step hd rfl (Or.inl rfl)
theorem xr_ixor {x y : Int32} (hd : decode (ax_code m) pc = .ok (.ixor, 1)) : XX ph d m pc ls (.int y :: .int x :: st) h R ↔ XX ph d m (pc + 1) ls (.int (x ^^^ y) :: st) h R := xx_step hd rfl (Or.inl rfl)
theorem xr_ishl {x y : Int32} (hd : decode (ax_code m) pc = .ok (.ishl, 1)) : XX ph d m pc ls (.int y :: .int x :: st) h R ↔ XX ph d m (pc + 1) ls (.int (x <<< (y &&& 31)) :: st) h R := xx_step hd rfl (Or.inl rfl)
theorem xr_ishr {x y : Int32} (hd : decode (ax_code m) pc = .ok (.ishr, 1)) : XX ph d m pc ls (.int y :: .int x :: st) h R ↔ XX ph d m (pc + 1) ls (.int (x >>> (y &&& 31)) :: st) h R := xx_step hd rfl (Or.inl rfl)
theorem xr_iushr {x y : Int32} (hd : decode (ax_code m) pc = .ok (.iushr, 1)) : XX ph d m pc ls (.int y :: .int x :: st) h R ↔ XX ph d m (pc + 1) ls (.int ((x.toUInt32 >>> (y.toUInt32 &&& Int32.toUInt32 31)).toInt32) :: st) h R := xx_step hd rfl (Or.inl rfl)
theorem xr_ladd {x y : Int64} (hd : decode (ax_code m) pc = .ok (.ladd, 1)) : XX ph d m pc ls (.long y :: .long x :: st) h R ↔ XX ph d m (pc + 1) ls (.long (x + y) :: st) h R := xx_step hd rfl (Or.inl rfl)
theorem xr_lmul {x y : Int64} (hd : decode (ax_code m) pc = .ok (.lmul, 1)) : XX ph d m pc ls (.long y :: .long x :: st) h R ↔ XX ph d m (pc + 1) ls (.long (x * y) :: st) h R := xx_step hd rfl (Or.inl rfl)
theorem xr_land {x y : Int64} (hd : decode (ax_code m) pc = .ok (.land, 1)) : XX ph d m pc ls (.long y :: .long x :: st) h R ↔ XX ph d m (pc + 1) ls (.long (x &&& y) :: st) h R := xx_step hd rfl (Or.inl rfl)
theorem xr_lor {x y : Int64} (hd : decode (ax_code m) pc = .ok (.lor, 1)) : XX ph d m pc ls (.long y :: .long x :: st) h R ↔ XX ph d m (pc + 1) ls (.long (x ||| y) :: st) h R := xx_step hd rfl (Or.inl rfl)
theorem xr_lcmp {x y : Int64} (hd : decode (ax_code m) pc = .ok (.lcmp, 1)) : XX ph d m pc ls (.long y :: .long x :: st) h R ↔ XX ph d m (pc + 1) ls (.int (lg_cmp x y) :: st) h R := xx_step hd rfl (Or.inl rfl)
theorem xr_lshl {x : Int64} {y : Int32} (hd : decode (ax_code m) pc = .ok (.lshl, 1)) : XX ph d m pc ls (.int y :: .long x :: st) h R ↔ XX ph d m (pc + 1) ls (.long (x <<< (y.toInt64 &&& 63)) :: st) h R := xx_step hd rfl (Or.inl rfl)
theorem xr_lshr {x : Int64} {y : Int32} (hd : decode (ax_code m) pc = .ok (.lshr, 1)) : XX ph d m pc ls (.int y :: .long x :: st) h R ↔ XX ph d m (pc + 1) ls (.long (x >>> (y.toInt64 &&& 63)) :: st) h R := xx_step hd rfl (Or.inl rfl)
theorem xr_lneg {x : Int64} (hd : decode (ax_code m) pc = .ok (.lneg, 1)) : XX ph d m pc ls (.long x :: st) h R ↔ XX ph d m (pc + 1) ls (.long (-x) :: st) h R := xx_step hd rfl (Or.inl rfl)
theorem xr_i2l {x : Int32} (hd : decode (ax_code m) pc = .ok (.i2l, 1)) : XX ph d m pc ls (.int x :: st) h R ↔ XX ph d m (pc + 1) ls (.long x.toInt64 :: st) h R := xx_step hd rfl (Or.inl rfl)
theorem xr_l2i {x : Int64} (hd : decode (ax_code m) pc = .ok (.l2i, 1)) : XX ph d m pc ls (.long x :: st) h R ↔ XX ph d m (pc + 1) ls (.int x.toInt32 :: st) h R := xx_step hd rfl (Or.inl rfl)
theorem xr_i2c {x : Int32} (hd : decode (ax_code m) pc = .ok (.i2c, 1)) : XX ph d m pc ls (.int x :: st) h R ↔ XX ph d m (pc + 1) ls (.int (x.toUInt32 % 65536).toInt32 :: st) h R := xx_step hd rfl (Or.inl rfl)
theorem xr_idiv {x y : Int32} (hd : decode (ax_code m) pc = .ok (.idiv, 1)) : XX ph d m pc ls (.int y :: .int x :: st) h R ↔ (!decide (y = 0)) = true ∧ XX ph d m (pc + 1) ls (.int (x / y) :: st) h R := xx_safe hd (fun z => by simp only [ax_step, ax_ii]; rw [if_neg (by simpa using z)]; rfl) (fun z => by simp only [ax_step, ax_ii]; rw [if_pos (by simpa using z)]; rfl) rfl rfl (Or.inl rfl)
theorem xr_irem {x y : Int32} (hd : decode (ax_code m) pc = .ok (.irem, 1)) : XX ph d m pc ls (.int y :: .int x :: st) h R ↔ (!decide (y = 0)) = true ∧ XX ph d m (pc + 1) ls (.int (x - x / y * y) :: st) h R := xx_safe hd (fun z => by simp only [ax_step, ax_ii]; rw [if_neg (by simpa using z)]; rfl) (fun z => by simp only [ax_step, ax_ii]; rw [if_pos (by simpa using z)]; rfl) rfl rfl (Or.inl rfl)
theorem xr_ldiv {x y : Int64} (hd : decode (ax_code m) pc = .ok (.ldiv, 1)) : XX ph d m pc ls (.long y :: .long x :: st) h R ↔ (!decide (y = 0)) = true ∧ XX ph d m (pc + 1) ls (.long (x / y) :: st) h R := xx_safe hd (fun z => by simp only [ax_step, ax_ll]; rw [if_neg (by simpa using z)]; rfl) (fun z => by simp only [ax_step, ax_ll]; rw [if_pos (by simpa using z)]; rfl) rfl rfl (Or.inl rfl)
theorem xr_lrem {x y : Int64} (hd : decode (ax_code m) pc = .ok (.lrem, 1)) : XX ph d m pc ls (.long y :: .long x :: st) h R ↔ (!decide (y = 0)) = true ∧ XX ph d m (pc + 1) ls (.long (x - x / y * y) :: st) h R := xx_safe hd (fun z => by simp only [ax_step, ax_ll]; rw [if_neg (by simpa using z)]; rfl) (fun z => by simp only [ax_step, ax_ll]; rw [if_pos (by simpa using z)]; rfl) rfl rfl (Or.inl rfl)
theorem xr_dup {v : Value} (hd : decode (ax_code m) pc = .ok (.dup, 1)) (hk : ax_kd v = 0 ∨ ax_kd v = 2) : XX ph d m pc ls (v :: st) h R ↔ XX ph d m (pc + 1) ls (v :: v :: st) h R := xx_step hd (by simp only [ax_step]; rw [if_pos hk]) (Or.inl rfl)
theorem xr_pop {v : Value} (hd : decode (ax_code m) pc = .ok (.pop, 1)) (hk : ax_kd v = 0 ∨ ax_kd v = 2) : XX ph d m pc ls (v :: st) h R ↔ XX ph d m (pc + 1) ls st h R := xx_step hd (by simp only [ax_step]; rw [if_pos hk]) (Or.inl rfl)
theorem xr_dup2 {v w : Value} (hd : decode (ax_code m) pc = .ok (.dup2, 1)) (hk : (ax_kd v = 0 ∨ ax_kd v = 2) ∧ (ax_kd w = 0 ∨ ax_kd w = 2)) : XX ph d m pc ls (v :: w :: st) h R ↔ XX ph d m (pc + 1) ls (v :: w :: v :: w :: st) h R := xx_step hd (by simp only [ax_step]; rw [if_pos hk]) (Or.inl rfl)
theorem xr_goto {off : Int} {t : Nat} (hd : decode (ax_code m) pc = .ok (.goto off, 3)) (ht : ax_tg pc off = some t) : XX ph d m pc ls st h R ↔ XX ph d m t ls st h R := xx_step hd (by simp only [ax_step, ht]; rfl) (Or.inl rfl)
theorem xx_br {c : Prop} [Decidable c] {i : Instr} {len t f : Nat} {st0 : List Value} (hd : decode (ax_code m) pc = .ok (i, len)) (hs : ax_step ph m i pc ls st0 h = some (if c then t else f, ls, st, h)) (hl : len = ax_len i ∨ ax_tsw i = true) : XX ph d m pc ls st0 h R ↔ if c then XX ph d m t ls st h R else XX ph d m f ls st h R := by
  rw [xx_step hd hs hl]
  split <;> rfl
theorem xx_brn {c : Prop} [Decidable c] {i : Instr} {len t f : Nat} {st0 : List Value} (hd : decode (ax_code m) pc = .ok (i, len)) (hs : ax_step ph m i pc ls st0 h = some (if c then t else f, ls, st, h)) (hl : len = ax_len i ∨ ax_tsw i = true) {P : Prop} (hP : P ↔ if c then XX ph d m t ls st h R else XX ph d m f ls st h R) : XX ph d m pc ls st0 h R ↔ P := (xx_br hd hs hl).trans hP.symm
theorem xr_ifeq {off : Int} {t : Nat} {x : Int32} (hd : decode (ax_code m) pc = .ok (.ifCond .eq off, 3)) (ht : ax_tg pc off = some t) : XX ph d m pc ls (.int x :: st) h R ↔ if x = nI 0 then XX ph d m t ls st h R else XX ph d m (pc + 3) ls st h R := by
  rw [xx_step hd (by simp only [ax_step, ht]; rfl) (Or.inl rfl)]
  by_cases q : x = nI 0
  · rw [if_pos q, if_pos (by rw [nI_0] at q; unfold ax_c0; simpa using q)]
  · rw [if_neg q, if_neg (by rw [nI_0] at q; unfold ax_c0; simpa using q)]
theorem xr_ifne {off : Int} {t : Nat} {x : Int32} (hd : decode (ax_code m) pc = .ok (.ifCond .ne off, 3)) (ht : ax_tg pc off = some t) : XX ph d m pc ls (.int x :: st) h R ↔ if x = nI 0 then XX ph d m (pc + 3) ls st h R else XX ph d m t ls st h R := by
  rw [xx_step hd (by simp only [ax_step, ht]; rfl) (Or.inl rfl)]
  by_cases q : x = nI 0
  · rw [if_pos q, if_neg (by rw [nI_0] at q; unfold ax_c0; simpa using q)]
  · rw [if_neg q, if_pos (by rw [nI_0] at q; unfold ax_c0; simpa using q)]
theorem xr_iflt {off : Int} {t : Nat} {x : Int32} (hd : decode (ax_code m) pc = .ok (.ifCond .lt off, 3)) (ht : ax_tg pc off = some t) : XX ph d m pc ls (.int x :: st) h R ↔ if x < nI 0 then XX ph d m t ls st h R else XX ph d m (pc + 3) ls st h R := by
  rw [xx_step hd (by simp only [ax_step, ht]; rfl) (Or.inl rfl)]
  by_cases q : x < nI 0
  · rw [if_pos q, if_pos (by rw [nI_0] at q; unfold ax_c0; simpa using q)]
  · rw [if_neg q, if_neg (by rw [nI_0] at q; unfold ax_c0; simpa using q)]
theorem xr_ifge {off : Int} {t : Nat} {x : Int32} (hd : decode (ax_code m) pc = .ok (.ifCond .ge off, 3)) (ht : ax_tg pc off = some t) : XX ph d m pc ls (.int x :: st) h R ↔ if x < nI 0 then XX ph d m (pc + 3) ls st h R else XX ph d m t ls st h R := by
  rw [xx_step hd (by simp only [ax_step, ht]; rfl) (Or.inl rfl)]
  by_cases q : x < nI 0
  · rw [if_pos q, if_neg (by unfold ax_c0; simp only [decide_eq_true_eq]; exact Int32.not_le.mpr q)]
  · rw [if_neg q, if_pos (by unfold ax_c0; simp only [decide_eq_true_eq]; exact Int32.not_lt.mp q)]
theorem xr_ifgt {off : Int} {t : Nat} {x : Int32} (hd : decode (ax_code m) pc = .ok (.ifCond .gt off, 3)) (ht : ax_tg pc off = some t) : XX ph d m pc ls (.int x :: st) h R ↔ if x ≤ nI 0 then XX ph d m (pc + 3) ls st h R else XX ph d m t ls st h R := by
  rw [xx_step hd (by simp only [ax_step, ht]; rfl) (Or.inl rfl)]
  by_cases q : x ≤ nI 0
  · rw [if_pos q, if_neg (by unfold ax_c0; simp only [decide_eq_true_eq]; exact Int32.not_lt.mpr q)]
  · rw [if_neg q, if_pos (by unfold ax_c0; simp only [decide_eq_true_eq]; exact Int32.not_le.mp q)]
theorem xr_ifle {off : Int} {t : Nat} {x : Int32} (hd : decode (ax_code m) pc = .ok (.ifCond .le off, 3)) (ht : ax_tg pc off = some t) : XX ph d m pc ls (.int x :: st) h R ↔ if x ≤ nI 0 then XX ph d m t ls st h R else XX ph d m (pc + 3) ls st h R := by
  rw [xx_step hd (by simp only [ax_step, ht]; rfl) (Or.inl rfl)]
  by_cases q : x ≤ nI 0
  · rw [if_pos q, if_pos (by rw [nI_0] at q; unfold ax_c0; simpa using q)]
  · rw [if_neg q, if_neg (by rw [nI_0] at q; unfold ax_c0; simpa using q)]
theorem xr_icmpeq {off : Int} {t : Nat} {x y : Int32} (hd : decode (ax_code m) pc = .ok (.if_icmp .eq off, 3)) (ht : ax_tg pc off = some t) : XX ph d m pc ls (.int y :: .int x :: st) h R ↔ if x = y then XX ph d m t ls st h R else XX ph d m (pc + 3) ls st h R := by
  rw [xx_step hd (by simp only [ax_step, ht]; rfl) (Or.inl rfl)]
  by_cases q : x = y
  · rw [if_pos q, if_pos (by unfold ax_c2; simpa using q)]
  · rw [if_neg q, if_neg (by unfold ax_c2; simpa using q)]
theorem xr_icmpne {off : Int} {t : Nat} {x y : Int32} (hd : decode (ax_code m) pc = .ok (.if_icmp .ne off, 3)) (ht : ax_tg pc off = some t) : XX ph d m pc ls (.int y :: .int x :: st) h R ↔ if x = y then XX ph d m (pc + 3) ls st h R else XX ph d m t ls st h R := by
  rw [xx_step hd (by simp only [ax_step, ht]; rfl) (Or.inl rfl)]
  by_cases q : x = y
  · rw [if_pos q, if_neg (by unfold ax_c2; simpa using q)]
  · rw [if_neg q, if_pos (by unfold ax_c2; simpa using q)]
theorem xr_icmplt {off : Int} {t : Nat} {x y : Int32} (hd : decode (ax_code m) pc = .ok (.if_icmp .lt off, 3)) (ht : ax_tg pc off = some t) : XX ph d m pc ls (.int y :: .int x :: st) h R ↔ if x < y then XX ph d m t ls st h R else XX ph d m (pc + 3) ls st h R := by
  rw [xx_step hd (by simp only [ax_step, ht]; rfl) (Or.inl rfl)]
  by_cases q : x < y
  · rw [if_pos q, if_pos (by unfold ax_c2; simpa using q)]
  · rw [if_neg q, if_neg (by unfold ax_c2; simpa using q)]
theorem xr_icmpge {off : Int} {t : Nat} {x y : Int32} (hd : decode (ax_code m) pc = .ok (.if_icmp .ge off, 3)) (ht : ax_tg pc off = some t) : XX ph d m pc ls (.int y :: .int x :: st) h R ↔ if x < y then XX ph d m (pc + 3) ls st h R else XX ph d m t ls st h R := by
  rw [xx_step hd (by simp only [ax_step, ht]; rfl) (Or.inl rfl)]
  by_cases q : x < y
  · rw [if_pos q, if_neg (by unfold ax_c2; simp only [decide_eq_true_eq]; exact Int32.not_le.mpr q)]
  · rw [if_neg q, if_pos (by unfold ax_c2; simp only [decide_eq_true_eq]; exact Int32.not_lt.mp q)]
theorem xr_icmpgt {off : Int} {t : Nat} {x y : Int32} (hd : decode (ax_code m) pc = .ok (.if_icmp .gt off, 3)) (ht : ax_tg pc off = some t) : XX ph d m pc ls (.int y :: .int x :: st) h R ↔ if x ≤ y then XX ph d m (pc + 3) ls st h R else XX ph d m t ls st h R := by
  rw [xx_step hd (by simp only [ax_step, ht]; rfl) (Or.inl rfl)]
  by_cases q : x ≤ y
  · rw [if_pos q, if_neg (by unfold ax_c2; simp only [decide_eq_true_eq]; exact Int32.not_lt.mpr q)]
  · rw [if_neg q, if_pos (by unfold ax_c2; simp only [decide_eq_true_eq]; exact Int32.not_le.mp q)]
theorem xr_icmple {off : Int} {t : Nat} {x y : Int32} (hd : decode (ax_code m) pc = .ok (.if_icmp .le off, 3)) (ht : ax_tg pc off = some t) : XX ph d m pc ls (.int y :: .int x :: st) h R ↔ if x ≤ y then XX ph d m t ls st h R else XX ph d m (pc + 3) ls st h R := by
  rw [xx_step hd (by simp only [ax_step, ht]; rfl) (Or.inl rfl)]
  by_cases q : x ≤ y
  · rw [if_pos q, if_pos (by unfold ax_c2; simpa using q)]
  · rw [if_neg q, if_neg (by unfold ax_c2; simpa using q)]
theorem xr_ifnullN {off : Int} {t : Nat} (hd : decode (ax_code m) pc = .ok (.ifnull off, 3)) (ht : ax_tg pc off = some t) : XX ph d m pc ls (.null :: st) h R ↔ XX ph d m t ls st h R := xx_step hd (by simp only [ax_step, ht]; rfl) (Or.inl rfl)
theorem xr_ifnullR {off : Int} {k : Nat} (hd : decode (ax_code m) pc = .ok (.ifnull off, 3)) (hk : ¬ k = 9) : XX ph d m pc ls (.ref k :: st) h R ↔ XX ph d m (pc + 3) ls st h R := xx_step hd (by simp only [ax_step]; rw [if_neg hk]) (Or.inl rfl)
theorem xr_ifnonnullN {off : Int} (hd : decode (ax_code m) pc = .ok (.ifnonnull off, 3)) : XX ph d m pc ls (.null :: st) h R ↔ XX ph d m (pc + 3) ls st h R := xx_step hd rfl (Or.inl rfl)
theorem xr_ifnonnullR {off : Int} {k t : Nat} (hd : decode (ax_code m) pc = .ok (.ifnonnull off, 3)) (hk : ¬ k = 9) (ht : ax_tg pc off = some t) : XX ph d m pc ls (.ref k :: st) h R ↔ XX ph d m t ls st h R := xx_step hd (by simp only [ax_step, ht]; rw [if_neg hk]; rfl) (Or.inl rfl)
theorem xr_acmp_eq {off : Int} {x y t : Nat} (hd : decode (ax_code m) pc = .ok (.if_acmp .eq off, 3)) (hk : x < 8 ∧ y < 8) (ht : ax_tg pc off = some t) : XX ph d m pc ls (.ref y :: .ref x :: st) h R ↔ if x = y then XX ph d m t ls st h R else XX ph d m (pc + 3) ls st h R := xx_br hd (by simp only [ax_step, ht]; rw [if_pos hk]; by_cases q : x = y <;> simp [q]) (Or.inl rfl)
theorem xr_acmp_ne {off : Int} {x y t : Nat} (hd : decode (ax_code m) pc = .ok (.if_acmp .ne off, 3)) (hk : x < 8 ∧ y < 8) (ht : ax_tg pc off = some t) : XX ph d m pc ls (.ref y :: .ref x :: st) h R ↔ if x = y then XX ph d m (pc + 3) ls st h R else XX ph d m t ls st h R := xx_br hd (by simp only [ax_step, ht]; rw [if_pos hk]; by_cases q : x = y <;> simp [q]) (Or.inl rfl)
theorem xr_tsw {dd lo hi : Int} {offs : Array Int} {len t : Nat} {x : Int32} (hd : decode (ax_code m) pc = .ok (.tableswitch dd lo hi offs, len)) (hs : ax_step ph m (.tableswitch dd lo hi offs) pc ls (.int x :: st) h = some (t, ls, st, h)) : XX ph d m pc ls (.int x :: st) h R ↔ XX ph d m t ls st h R := xx_step hd hs (Or.inr rfl)
-- the heap
theorem xr_getfield {o k a t : Nat} {q : Nat × Nat} {v : Value} (hd : decode (ax_code m) pc = .ok (.getfield k, 3)) (ho : ax_own m = o) (hf : ax_fld o k = some q) (hq : q.1 < 14) (hc : ax_fc q.1 q.2 = t) (ht : (ax_ty h a).1 = q.1) (hok : ax_ok ph h a = true) (hv : ax_tv t (ax_rd ph h a q.2) = v) : XX ph d m pc ls (.ref a :: st) h R ↔ XX ph d m (pc + 3) ls (v :: st) h R := xx_step hd (by simp only [ax_step, ho, hf]; rw [if_pos ⟨ht, hq, hok⟩, hc, hv]) (Or.inl rfl)
theorem xr_putfield {o k a : Nat} {q : Nat × Nat} {v : Value} (hd : decode (ax_code m) pc = .ok (.putfield k, 3)) (ho : ax_own m = o) (hf : ax_fld o k = some q) (ht : (ax_ty h a).1 = q.1) (hq : q.1 < 12) (hw : ax_wok ph a q.2 = true) (hok : ax_ok ph h a = true) (hff : ax_ff q.1 q.2 = true → (ax_y m).name = "<init>" ∧ q.1 = ax_own m) (hk : ax_kd v = ax_fk (ax_fc q.1 q.2)) (hb : ax_fc q.1 q.2 = 3 → toI v = 0 ∨ toI v = 1) : XX ph d m pc ls (v :: .ref a :: st) h R ↔ XX ph d m (pc + 3) ls st (ax_wr h a q.2 v) R := xx_step hd (by simp only [ax_step, ho, hf]; rw [if_pos ⟨ht, hq, hw, hok, (by rw [← ho]; exact hff), hk, hb⟩]) (Or.inl rfl)
theorem xr_getstatic {o k : Nat} {v : Value} (hd : decode (ax_code m) pc = .ok (.getstatic k, 3)) (ho : ax_own m = o) (hv : ax_sta o k = some v) : XX ph d m pc ls st h R ↔ XX ph d m (pc + 3) ls (v :: st) h R := xx_step hd (by simp only [ax_step, ho, hv]) (Or.inl rfl)
theorem xr_alen {a n : Nat} {c : Nat} {v : Int32} (hd : decode (ax_code m) pc = .ok (.arraylength, 1)) (ht : ax_ty h a = (c, n)) (hc : 20 ≤ c ∧ c ≠ 99) (hok : ax_ok ph h a = true) (hv : Int32.ofNat n = v) : XX ph d m pc ls (.ref a :: st) h R ↔ XX ph d m (pc + 1) ls (.int v :: st) h R := xx_step hd (by simp only [ax_step, ht]; rw [if_pos ⟨hc.1, hc.2, hok⟩, hv]) (Or.inl rfl)
theorem xr_iaload {a n : Nat} {i x : Int32} (hd : decode (ax_code m) pc = .ok (.iaload, 1)) (ht : ax_ty h a = (20, n)) (hok : ax_ok ph h a = true) (hv : toI (ax_rd ph h a (ix i)) = x) : XX ph d m pc ls (.int i :: .ref a :: st) h R ↔ ax_in i n = true ∧ XX ph d m (pc + 1) ls (.int x :: st) h R := xx_safe hd (fun z => by simp only [ax_step, ht]; rw [if_pos ⟨trivial, z, hok⟩, hv]) (fun z => by simp only [ax_step, ht]; rw [if_neg (by simp [z])]) rfl rfl (Or.inl rfl)
theorem xr_baload {a n : Nat} {i x : Int32} (hd : decode (ax_code m) pc = .ok (.baload, 1)) (ht : ax_ty h a = (22, n)) (hok : ax_ok ph h a = true) (hv : toI (ax_rd ph h a (ix i)) = x) : XX ph d m pc ls (.int i :: .ref a :: st) h R ↔ ax_in i n = true ∧ XX ph d m (pc + 1) ls (.int x :: st) h R := xx_safe hd (fun z => by simp only [ax_step, ht]; rw [if_pos ⟨trivial, z, hok⟩, hv]) (fun z => by simp only [ax_step, ht]; rw [if_neg (by simp [z])]) rfl rfl (Or.inl rfl)
theorem xr_laload {a n : Nat} {i : Int32} {x : Int64} (hd : decode (ax_code m) pc = .ok (.laload, 1)) (ht : ax_ty h a = (21, n)) (hok : ax_ok ph h a = true) (hv : toL (ax_rd ph h a (ix i)) = x) : XX ph d m pc ls (.int i :: .ref a :: st) h R ↔ ax_in i n = true ∧ XX ph d m (pc + 1) ls (.long x :: st) h R := xx_safe hd (fun z => by simp only [ax_step, ht]; rw [if_pos ⟨trivial, z, hok⟩, hv]) (fun z => by simp only [ax_step, ht]; rw [if_neg (by simp [z])]) rfl rfl (Or.inl rfl)
theorem xr_aaload {a n c : Nat} {i : Int32} {x : Value} (hd : decode (ax_code m) pc = .ok (.aaload, 1)) (ht : ax_ty h a = (c, n)) (hc : (c = 24 ∨ 30 ≤ c) ∧ c ≠ 99) (hok : ax_ok ph h a = true) (hv : toR (ax_rd ph h a (ix i)) = x) : XX ph d m pc ls (.int i :: .ref a :: st) h R ↔ ax_in i n = true ∧ XX ph d m (pc + 1) ls (x :: st) h R := xx_safe hd (fun z => by simp only [ax_step, ht]; rw [if_pos ⟨hc.1, hc.2, z, hok⟩, hv]) (fun z => by simp only [ax_step, ht]; rw [if_neg (by simp [z])]) rfl rfl (Or.inl rfl)
theorem xr_iastore {a n : Nat} {i x : Int32} (hd : decode (ax_code m) pc = .ok (.iastore, 1)) (ht : ax_ty h a = (20, n)) (hok : ax_ok ph h a = true) (hw : ax_wok ph a (ix i) = true) : XX ph d m pc ls (.int x :: .int i :: .ref a :: st) h R ↔ ax_in i n = true ∧ XX ph d m (pc + 1) ls st (ax_wr h a (ix i) (.int x)) R := xx_safe hd (fun z => by simp only [ax_step, ht]; rw [if_pos ⟨trivial, z, hw, hok⟩]) (fun z => by simp only [ax_step, ht]; rw [if_neg (by simp [z])]) rfl rfl (Or.inl rfl)
theorem xr_lastore {a n : Nat} {i : Int32} {x : Int64} (hd : decode (ax_code m) pc = .ok (.lastore, 1)) (ht : ax_ty h a = (21, n)) (hok : ax_ok ph h a = true) (hw : ax_wok ph a (ix i) = true) : XX ph d m pc ls (.long x :: .int i :: .ref a :: st) h R ↔ ax_in i n = true ∧ XX ph d m (pc + 1) ls st (ax_wr h a (ix i) (.long x)) R := xx_safe hd (fun z => by simp only [ax_step, ht]; rw [if_pos ⟨trivial, z, hw, hok⟩]) (fun z => by simp only [ax_step, ht]; rw [if_neg (by simp [z])]) rfl rfl (Or.inl rfl)
theorem xr_aastoreN {a n c : Nat} {i : Int32} (hd : decode (ax_code m) pc = .ok (.aastore, 1)) (ht : ax_ty h a = (c, n)) (hc : 30 ≤ c ∧ c < 44) (hok : ax_ok ph h a = true) (hw : ax_wok ph a (ix i) = true) : XX ph d m pc ls (.null :: .int i :: .ref a :: st) h R ↔ ax_in i n = true ∧ XX ph d m (pc + 1) ls st (ax_wr h a (ix i) .null) R := xx_safe hd (fun z => by simp only [ax_step, ht]; rw [if_pos ⟨hc, z, hw, hok⟩]) (fun z => by simp only [ax_step, ht]; rw [if_neg (by simp [z])]) rfl rfl (Or.inl rfl)
theorem xr_aastoreR {a n c v : Nat} {i : Int32} (hd : decode (ax_code m) pc = .ok (.aastore, 1)) (ht : ax_ty h a = (c, n)) (hc : (30 ≤ c ∧ c < 42 ∧ (ax_ty h v).1 + 30 = c) ∨ (c = 24 ∧ (ax_ty h v).1 = 20)) (hv : 64 ≤ v) (hvo : ax_ok ph h v = true) (hok : ax_ok ph h a = true) (hw : ax_wok ph a (ix i) = true) : XX ph d m pc ls (.ref v :: .int i :: .ref a :: st) h R ↔ ax_in i n = true ∧ XX ph d m (pc + 1) ls st (ax_wr h a (ix i) (.ref v)) R := xx_safe hd (fun z => by simp only [ax_step, ht]; rw [if_pos ⟨hc, hv, hvo, z, hw, hok⟩]) (fun z => by simp only [ax_step, ht]; rw [if_neg (by simp [z])]) rfl rfl (Or.inl rfl)
theorem xr_new {o k c n : Nat} {h1 : AH} (hd : decode (ax_code m) pc = .ok (.new k, 3)) (ho : ax_own m = o) (hc : ax_new o k = some c) (hm : ax_mkO h c = some h1) (hn : h.2.2.1 = n) : XX ph d m pc ls st h R ↔ XX ph d m (pc + 3) ls (.ref n :: st) h1 R := xx_step hd (by simp only [ax_step, ho, hc, hm, Option.map_some, hn]) (Or.inl rfl)
theorem xr_newI {n : Int32} {k q : Nat} {h1 : AH} (hd : decode (ax_code m) pc = .ok (.newarray .int, 2)) (hn : ¬ n < 0) (hk : n.toNatClampNeg = k) (hm : ax_mkA h 20 k (.int 0) = some h1) (hq : h.2.2.1 = q) : XX ph d m pc ls (.int n :: st) h R ↔ XX ph d m (pc + 2) ls (.ref q :: st) h1 R := xx_step hd (by simp only [ax_step]; rw [if_neg hn, hk, hm]; simp only [Option.map_some, hq]) (Or.inl rfl)
theorem xr_newJ {n : Int32} {k q : Nat} {h1 : AH} (hd : decode (ax_code m) pc = .ok (.newarray .long, 2)) (hn : ¬ n < 0) (hk : n.toNatClampNeg = k) (hm : ax_mkA h 21 k (.long 0) = some h1) (hq : h.2.2.1 = q) : XX ph d m pc ls (.int n :: st) h R ↔ XX ph d m (pc + 2) ls (.ref q :: st) h1 R := xx_step hd (by simp only [ax_step]; rw [if_neg hn, hk, hm]; simp only [Option.map_some, hq]) (Or.inl rfl)
theorem xr_newA {n : Int32} {o c i k q : Nat} {h1 : AH} (hd : decode (ax_code m) pc = .ok (.anewarray i, 3)) (ho : ax_own m = o) (hc : ax_new o i = some c) (hn : ¬ n < 0) (hk : n.toNatClampNeg = k) (h17 : c ≠ 17) (hm : ax_mkA h (30 + c) k .null = some h1) (hq : h.2.2.1 = q) : XX ph d m pc ls (.int n :: st) h R ↔ XX ph d m (pc + 3) ls (.ref q :: st) h1 R := xx_step hd (by simp only [ax_step, ho, hc]; rw [if_neg hn, hk, if_neg h17, hm]; simp only [Option.map_some, hq]) (Or.inl rfl)
theorem xr_newA17 {n : Int32} {o i k q : Nat} {h1 : AH} (hd : decode (ax_code m) pc = .ok (.anewarray i, 3)) (ho : ax_own m = o) (hc : ax_new o i = some 17) (hn : ¬ n < 0) (hk : n.toNatClampNeg = k) (hm : ax_mkA h 24 k .null = some h1) (hq : h.2.2.1 = q) : XX ph d m pc ls (.int n :: st) h R ↔ XX ph d m (pc + 3) ls (.ref q :: st) h1 R := xx_step hd (by simp only [ax_step, ho, hc]; rw [if_neg hn, hk]; simp only [if_true, hm, Option.map_some, hq]) (Or.inl rfl)
theorem xr_clone {o k q n a len : Nat} {h1 : AH} (hd : decode (ax_code m) pc = .ok (.invokevirtual k, 3)) (ho : ax_own m = o) (hc : ax_cal o k = some (9, q, n)) (ht : ax_ty h a = (20, len)) (ha : 64 ≤ a) (hok : ax_ok ph h a = true) (hw : ax_wt st ≤ 8) (hL : ls.length = ax_L m) (hm : ax_mkC h a len = some h1) : XX ph d m pc ls (.ref a :: st) h R ↔ XX ph d m (pc + 3) ls (.ref h.2.2.1 :: st) h1 R := xx_step hd (by simp only [ax_step, ho, hc, ht]; rw [if_pos ⟨trivial, ha, hok, hw, hL⟩, hm]; rfl) (Or.inl rfl)
theorem xr_castI {o k a : Nat} (hd : decode (ax_code m) pc = .ok (.checkcast k, 3)) (ho : ax_own m = o) (hc : ax_new o k = some 17) (ht : (ax_ty h a).1 = 20) (ha : 64 ≤ a) (hok : ax_ok ph h a = true) : XX ph d m pc ls (.ref a :: st) h R ↔ XX ph d m (pc + 3) ls (.ref a :: st) h R := xx_step hd (by simp only [ax_step, ho, hc, ht]; rw [if_pos ⟨trivial, trivial, ha, hok⟩]) (Or.inl rfl)
def dNN (x : UInt64) : Bool := decide (x &&& 0x7fffffffffffffff ≤ 0x7ff0000000000000)
theorem xr_dload {n : Nat} {v : Value} (hd : decode (ax_code m) pc = .ok (.dload n, 2)) (hv : ls.getD n ax_junk = v) (hk : ax_kd v = 4) : XX ph d m pc ls st h R ↔ XX ph d m (pc + 2) ls (v :: st) h R := xx_step hd (by simp only [ax_step, ax_lod_of hv hk]; rfl) (Or.inl rfl)
theorem xr_dstore {n k : Nat} {v : Value} {ls1 : List Value} (hd : decode (ax_code m) pc = .ok (.dstore n, 2)) (hk : ax_kd v = 4) (hL : ax_L m = k) (hl : ls.length = k) (hn : n + 1 < k) (h1 : ax_put ls n v = ls1) : XX ph d m pc ls (v :: st) h R ↔ XX ph d m (pc + 2) ls1 st h R := xx_step hd (by simp only [ax_step, ax_sto_of (c := 4) hk hL hl hn h1]; rfl) (Or.inl rfl)
theorem xr_dconst0 (hd : decode (ax_code m) pc = .ok (.dconst 0, 1)) : XX ph d m pc ls st h R ↔ XX ph d m (pc + 1) ls (.double 0 :: st) h R := xx_step hd rfl (Or.inl rfl)
theorem xr_ddiv {x y : UInt64} (hd : decode (ax_code m) pc = .ok (.ddiv, 1)) : XX ph d m pc ls (.double y :: .double x :: st) h R ↔ dNN (FP.ddiv x y) = true ∧ XX ph d m (pc + 1) ls (.double (FP.ddiv x y) :: st) h R := xx_safe hd (fun z => by simp only [ax_step, ax_dd]; rw [if_pos (of_decide_eq_true z)]; rfl) (fun z => by simp only [ax_step, ax_dd]; rw [if_neg (of_decide_eq_false z)]; rfl) rfl rfl (Or.inl rfl)
theorem xr_dadd {x y : UInt64} (hd : decode (ax_code m) pc = .ok (.dadd, 1)) : XX ph d m pc ls (.double y :: .double x :: st) h R ↔ dNN (FP.dadd x y) = true ∧ XX ph d m (pc + 1) ls (.double (FP.dadd x y) :: st) h R := xx_safe hd (fun z => by simp only [ax_step, ax_dd]; rw [if_pos (of_decide_eq_true z)]; rfl) (fun z => by simp only [ax_step, ax_dd]; rw [if_neg (of_decide_eq_false z)]; rfl) rfl rfl (Or.inl rfl)
theorem xr_dsub {x y : UInt64} (hd : decode (ax_code m) pc = .ok (.dsub, 1)) : XX ph d m pc ls (.double y :: .double x :: st) h R ↔ dNN (FP.dsub x y) = true ∧ XX ph d m (pc + 1) ls (.double (FP.dsub x y) :: st) h R := xx_safe hd (fun z => by simp only [ax_step, ax_dd]; rw [if_pos (of_decide_eq_true z)]; rfl) (fun z => by simp only [ax_step, ax_dd]; rw [if_neg (of_decide_eq_false z)]; rfl) rfl rfl (Or.inl rfl)
theorem xr_dcmp {x y : UInt64} {op : CmpOp} (hd : decode (ax_code m) pc = .ok (.dcmp op, 1)) : XX ph d m pc ls (.double y :: .double x :: st) h R ↔ XX ph d m (pc + 1) ls (.int (Op.cmpValue (FP.dcmp x y) op) :: st) h R := xx_step hd rfl (Or.inl rfl)
theorem xr_l2d {x : Int64} (hd : decode (ax_code m) pc = .ok (.l2d, 1)) : XX ph d m pc ls (.long x :: st) h R ↔ XX ph d m (pc + 1) ls (.double (FP.l2d x) :: st) h R := xx_step hd rfl (Or.inl rfl)
theorem xr_dup_x1 {v w : Value} (hd : decode (ax_code m) pc = .ok (.dup_x1, 1)) (hk : (ax_kd v = 0 ∨ ax_kd v = 2) ∧ (ax_kd w = 0 ∨ ax_kd w = 2)) : XX ph d m pc ls (v :: w :: st) h R ↔ XX ph d m (pc + 1) ls (v :: w :: v :: st) h R := xx_step hd (by simp only [ax_step]; rw [if_pos hk]) (Or.inl rfl)
theorem xr_ldc2D {o k : Nat} {v : UInt64} (hd : decode (ax_code m) pc = .ok (.ldc2_w k, 3)) (ho : ax_own m = o) (hv : ax_ldc o k = some (.double v)) : XX ph d m pc ls st h R ↔ XX ph d m (pc + 3) ls (.double v :: st) h R := xx_step hd (by simp only [ax_step, ho, hv]) (Or.inl rfl)
theorem xr_newM {n w : Int32} {o i k g q : Nat} {h1 : AH} (hd : decode (ax_code m) pc = .ok (.multianewarray i 2, 4)) (ho : ax_own m = o) (hc : ax_mna o i = true) (hn : ¬ n < 0) (hw : ¬ w < 0) (hk : n.toNatClampNeg = k) (hg : w.toNatClampNeg = g) (hm : ax_mkM h k g = some h1) (hq : h.2.2.1 = q) : XX ph d m pc ls (.int w :: .int n :: st) h R ↔ XX ph d m (pc + 4) ls (.ref q :: st) h1 R := xx_step hd (by simp only [ax_step, ho, hc]; rw [if_neg (by simp [hn, hw]), hk, hg, hm]; simp only [Option.map_some, hq]) (Or.inl rfl)
-- returns
theorem xr_ireturn {v : Int32} (hd : decode (ax_code m) pc = .ok (.ireturn, 1)) (hr : ax_ret m = some .int) : XX ph d m pc ls [.int v] h R ↔ R = (some (.int v), h) := xx_ret hd rfl (by simp only [ax_retv]; rw [if_pos (Or.inl hr)]) rfl
theorem xr_zreturn {v : Int32} (hd : decode (ax_code m) pc = .ok (.ireturn, 1)) (hr : ax_ret m = some .boolean) (hv : v = 0 ∨ v = 1) : XX ph d m pc ls [.int v] h R ↔ R = (some (.int v), h) := xx_ret hd rfl (by simp only [ax_retv]; rw [if_pos (Or.inr (Or.inl ⟨hr, hv⟩))]) rfl
theorem xr_creturn {v : Int32} (hd : decode (ax_code m) pc = .ok (.ireturn, 1)) (hr : ax_ret m = some .char) (hv : v.toUInt32.toUInt16.toUInt32.toInt32 = v) : XX ph d m pc ls [.int v] h R ↔ R = (some (.int v), h) := xx_ret hd rfl (by simp only [ax_retv]; rw [if_pos (Or.inr (Or.inr (Or.inl ⟨hr, hv⟩)))]) rfl
theorem xr_breturn {v : Int32} (hd : decode (ax_code m) pc = .ok (.ireturn, 1)) (hr : ax_ret m = some .byte) (hv : v.toInt8.toInt32 = v) : XX ph d m pc ls [.int v] h R ↔ R = (some (.int v), h) := xx_ret hd rfl (by simp only [ax_retv]; rw [if_pos (Or.inr (Or.inr (Or.inr ⟨hr, hv⟩)))]) rfl
theorem xr_lreturn {v : Int64} (hd : decode (ax_code m) pc = .ok (.lreturn, 1)) (hr : ax_ret m = some .long) : XX ph d m pc ls [.long v] h R ↔ R = (some (.long v), h) := xx_ret hd rfl (by simp only [ax_retv]; rw [if_pos hr]) rfl
theorem xr_areturn {v : Value} {n : String} (hd : decode (ax_code m) pc = .ok (.areturn, 1)) (hr : ax_ret m = some (.object n)) (hv : ax_kd v = 2) : XX ph d m pc ls [v] h R ↔ R = (some v, h) := xx_ret hd rfl (by simp only [ax_retv, hr]; rw [if_pos hv]) rfl
theorem xr_areturnA {v : Value} {n : FieldType} (hd : decode (ax_code m) pc = .ok (.areturn, 1)) (hr : ax_ret m = some (.array n)) (hv : ax_kd v = 2) : XX ph d m pc ls [v] h R ↔ R = (some v, h) := xx_ret hd rfl (by simp only [ax_retv, hr]; rw [if_pos hv]) rfl
theorem xr_return (hd : decode (ax_code m) pc = .ok (.return_, 1)) (hr : ax_ret m = none) : XX ph d m pc ls [] h R ↔ R = (none, h) := xx_ret hd rfl (by simp only [ax_retv]; rw [if_pos hr]) rfl
-- Math's own
theorem xr_mmax {o k q n : Nat} {x y : Int32} (hd : decode (ax_code m) pc = .ok (.invokestatic k, 3)) (ho : ax_own m = o) (hc : ax_cal o k = some (5, q, n)) (hw : ax_wt st ≤ 8) (hL : ls.length = ax_L m) : XX ph d m pc ls (.int y :: .int x :: st) h R ↔ XX ph d m (pc + 3) ls (.int (if x < y then y else x) :: st) h R := xx_step hd (by simp only [ax_step, ho, hc]; rw [if_pos ⟨hw, hL⟩]; rfl) (Or.inl rfl)
theorem xr_mmin {o k q n : Nat} {x y : Int32} (hd : decode (ax_code m) pc = .ok (.invokestatic k, 3)) (ho : ax_own m = o) (hc : ax_cal o k = some (6, q, n)) (hw : ax_wt st ≤ 8) (hL : ls.length = ax_L m) : XX ph d m pc ls (.int y :: .int x :: st) h R ↔ XX ph d m (pc + 3) ls (.int (if y < x then y else x) :: st) h R := xx_step hd (by simp only [ax_step, ho, hc]; rw [if_pos ⟨hw, hL⟩]; rfl) (Or.inl rfl)
theorem xr_mabsL {o k q n : Nat} {x : Int64} (hd : decode (ax_code m) pc = .ok (.invokestatic k, 3)) (ho : ax_own m = o) (hc : ax_cal o k = some (7, q, n)) (hw : ax_wt st ≤ 8) (hL : ls.length = ax_L m) : XX ph d m pc ls (.long x :: st) h R ↔ XX ph d m (pc + 3) ls (.long (if 0 < x then x else -x) :: st) h R := xx_step hd (by simp only [ax_step, ho, hc]; rw [if_pos ⟨hw, hL⟩]; rfl) (Or.inl rfl)
theorem xr_mmaxL {o k q n : Nat} {x y : Int64} (hd : decode (ax_code m) pc = .ok (.invokestatic k, 3)) (ho : ax_own m = o) (hc : ax_cal o k = some (8, q, n)) (hw : ax_wt st ≤ 8) (hL : ls.length = ax_L m) : XX ph d m pc ls (.long y :: .long x :: st) h R ↔ XX ph d m (pc + 3) ls (.long (if y < x then x else y) :: st) h R := xx_step hd (by simp only [ax_step, ho, hc]; rw [if_pos ⟨hw, hL⟩]; rfl) (Or.inl rfl)
-- calls
theorem xr_callS {o k q n d1 dq : Nat} {as rest : List Value} {r : Option Value} {h1 : AH} (hd : decode (ax_code m) pc = .ok (.invokestatic k, 3)) (ho : ax_own m = o) (hc : ax_cal o k = some (1, q, n)) (hst : st = as.reverse ++ rest) (hn : as.length = n) (hw : ax_wt rest ≤ 8) {nL : Nat} (hL : ax_L q = nL) (he : (ax_ent0 as).length ≤ nL) (hdd : d = d1 + 1) (hdq : dq ≤ d1) (hx : XX ph dq q 0 (ax_ent as nL) [] h (r, h1)) : XX ph d m pc ls st h R ↔ XX ph d m (pc + 3) ls (r.toList ++ rest) h1 R := by
  subst hst; subst hn; subst hL
  have e1 : (as.reverse ++ rest).take as.length = as.reverse := by rw [← List.length_reverse, List.take_left]
  have e2 : (as.reverse ++ rest).drop as.length = rest := by rw [← List.length_reverse, List.drop_left]
  refine xx_call0 hd (by simp only [ax_step, ho, hc]) rfl (q := q) (as := as) (rest := rest) ?_ he hdd hdq hx
  simp only [ax_callv, ho, hc, e1, e2]
  rw [if_pos ⟨List.length_reverse, hw⟩, List.reverse_reverse]
theorem xr_callSN {o k q n d1 dq : Nat} {as rest : List Value} {r : Option Value} {h1 : AH} (hd : decode (ax_code m) pc = .ok (.invokestatic k, 3)) (ho : ax_own m = o) (hc : ax_cal o k = some (10, q, n)) (hst : st = as.reverse ++ rest) (hn : as.length = n) (hw : ax_wt rest ≤ 8) {nL : Nat} (hL : ax_L q = nL) (he : (ax_ent0 as).length ≤ nL) (hdd : d = d1 + 1) (hdq : dq ≤ d1) (hx : XX ph dq q 0 (ax_ent as nL) [] h (r, h1)) : XX ph d m pc ls st h R ↔ XX ph d m (pc + 3) ls (r.toList ++ rest) h1 R := by
  subst hst; subst hn; subst hL
  have e1 : (as.reverse ++ rest).take as.length = as.reverse := by rw [← List.length_reverse, List.take_left]
  have e2 : (as.reverse ++ rest).drop as.length = rest := by rw [← List.length_reverse, List.drop_left]
  refine xx_call0 hd (by simp only [ax_step, ho, hc]) rfl (q := q) (as := as) (rest := rest) ?_ he hdd hdq hx
  simp only [ax_callv, ho, hc, e1, e2]
  rw [if_pos ⟨List.length_reverse, hw⟩, List.reverse_reverse]
theorem xr_callV {o k q n d1 dq a c : Nat} {as rest : List Value} {r : Option Value} {h1 : AH} (hd : decode (ax_code m) pc = .ok (.invokevirtual k, 3)) (ho : ax_own m = o) (hc : ax_cal o k = some (0, q, n)) (hst : st = as.reverse ++ .ref a :: rest) (hn : as.length = n) (hw : ax_wt rest ≤ 8) (hoq : ax_own q = c) (hc14 : c < 14) (hty : (ax_ty h a).1 = c) (hok : ax_ok ph h a = true) {nL : Nat} (hL : ax_L q = nL) (he : (ax_ent0 (.ref a :: as)).length ≤ nL) (hdd : d = d1 + 1) (hdq : dq ≤ d1) (hx : XX ph dq q 0 (ax_ent (.ref a :: as) nL) [] h (r, h1)) : XX ph d m pc ls st h R ↔ XX ph d m (pc + 3) ls (r.toList ++ rest) h1 R := by
  subst hst; subst hn; subst hL
  have e1 : (as.reverse ++ .ref a :: rest).take as.length = as.reverse := by rw [← List.length_reverse, List.take_left]
  have e2 : (as.reverse ++ .ref a :: rest).drop as.length = .ref a :: rest := by rw [← List.length_reverse, List.drop_left]
  refine xx_call0 hd (by simp only [ax_step, ho, hc]) rfl (q := q) (as := .ref a :: as) (rest := rest) ?_ he hdd hdq hx
  simp only [ax_callv, ho, hc, e1, e2]
  rw [if_pos ⟨List.length_reverse, hw, hty.trans hoq.symm, by rw [hoq]; exact hc14, hok⟩, List.reverse_reverse]
theorem xr_callI {o k q n kd d1 dq a : Nat} {as rest : List Value} {r : Option Value} {h1 : AH} (hd : decode (ax_code m) pc = .ok (.invokespecial k, 3)) (ho : ax_own m = o) (hkd : kd = 2 ∨ kd = 3) (hc : ax_cal o k = some (kd, q, n)) (hst : st = as.reverse ++ .ref a :: rest) (hn : as.length = n) (hw : ax_wt rest ≤ 8) (ha : 64 ≤ a) {nL : Nat} (hL : ax_L q = nL) (he : (ax_ent0 (.ref a :: as)).length ≤ nL) (hdd : d = d1 + 1) (hdq : dq ≤ d1) (hx : XX ph dq q 0 (ax_ent (.ref a :: as) nL) [] h (r, h1)) : XX ph d m pc ls st h R ↔ XX ph d m (pc + 3) ls (r.toList ++ rest) h1 R := by
  subst hst; subst hn; subst hL
  have e1 : (as.reverse ++ .ref a :: rest).take as.length = as.reverse := by rw [← List.length_reverse, List.take_left]
  have e2 : (as.reverse ++ .ref a :: rest).drop as.length = .ref a :: rest := by rw [← List.length_reverse, List.drop_left]
  refine xx_call0 hd rfl rfl (q := q) (as := .ref a :: as) (rest := rest) ?_ he hdd hdq hx
  rcases hkd with rfl | rfl <;>
  · simp only [ax_callv, ho, hc, e1, e2]
    rw [if_pos ⟨List.length_reverse, hw, ha⟩, List.reverse_reverse]
end Instr
-- longs compared
section Lcmp
variable {ph : Bool} {d m pc : Nat} {ls st : List Value} {h : AH} {R : Option Value × AH}
theorem lg_lt0 (x y : Int64) : (lg_cmp x y < nI 0) ↔ x < y := by
  rw [nI_0]
  unfold lg_cmp
  simp only [gt_iff_lt, Int64.lt_iff_toInt_lt, ← Int64.toInt_inj]
  repeat' split
  all_goals (constructor <;> intro hh <;> first | omega | decide | exact absurd hh (by decide))
theorem lg_le0 (x y : Int64) : (lg_cmp x y ≤ nI 0) ↔ x ≤ y := by
  rw [nI_0]
  unfold lg_cmp
  simp only [gt_iff_lt, Int64.lt_iff_toInt_lt, Int64.le_iff_toInt_le, ← Int64.toInt_inj]
  repeat' split
  all_goals (constructor <;> intro hh <;> first | omega | decide | exact absurd hh (by decide))
theorem lg_eq0 (x y : Int64) : (lg_cmp x y = nI 0) ↔ x = y := by
  rw [nI_0]
  unfold lg_cmp
  simp only [gt_iff_lt, Int64.lt_iff_toInt_lt, ← Int64.toInt_inj]
  repeat' split
  all_goals (constructor <;> intro hh <;> first | omega | decide | exact absurd hh (by decide))
end Lcmp
/-- a slot of the locals that is no longer known: what runs without it runs with it -/
def ax_jle (ls ls' : List Value) : Prop := ls.length = ls'.length ∧ ∀ i, ls.getD i ax_junk = ax_junk ∨ ls.getD i ax_junk = ls'.getD i ax_junk
theorem ax_jle.rf (ls : List Value) : ax_jle ls ls := ⟨rfl, fun _ => Or.inr rfl⟩
theorem ax_put_getD (ls : List Value) (n j : Nat) (v : Value) (hn : n < ls.length) : (ax_put ls n v).getD j ax_junk = if j = n then (if ax_isL v = true ∧ False then ax_junk else v) else if ax_isL v = true ∧ j = n + 1 then ax_junk else if j + 1 = n ∧ ax_isL (ls.getD j ax_junk) = true then ax_junk else ls.getD j ax_junk := by
  have hset : ∀ (l : List Value) (k : Nat) (w : Value) (i : Nat), (l.set k w).getD i ax_junk = if i = k ∧ k < l.length then w else l.getD i ax_junk := by
    intro l k w i
    rw [List.getD_eq_getElem?_getD, List.getElem?_set, List.getD_eq_getElem?_getD]
    by_cases e : k = i
    · subst e
      by_cases q : k < l.length
      · simp [q]
      · simp [q]
    · rw [if_neg e, if_neg (fun z => e z.1.symm)]
  have hjunk : ∀ (l : List Value) (k i : Nat), (l.set k ax_junk).getD i ax_junk = if i = k then ax_junk else l.getD i ax_junk := by
    intro l k i
    rw [hset]
    by_cases e : i = k
    · subst e
      by_cases q : i < l.length
      · simp [q]
      · rw [if_neg (fun z => q z.2), if_pos rfl, List.getD_eq_getElem?_getD, List.getElem?_eq_none (Nat.not_lt.mp q)]
        rfl
    · rw [if_neg (fun z => e z.1), if_neg e]
  unfold ax_put
  dsimp only
  have inner : ∀ i, ((if n = 0 then ls else if ax_isL (ls.getD (n - 1) ax_junk) = true then ls.set (n - 1) ax_junk else ls).set n v).getD i ax_junk = if i = n then v else if i + 1 = n ∧ ax_isL (ls.getD i ax_junk) = true then ax_junk else ls.getD i ax_junk := by
    intro i
    rw [hset]
    by_cases e : i = n
    · subst e
      rw [if_pos ⟨rfl, by split <;> (try split) <;> simp [hn]⟩, if_pos rfl]
    · rw [if_neg (fun z => e z.1), if_neg e]
      by_cases n0 : n = 0
      · rw [if_pos n0, if_neg (fun z => by omega)]
      · rw [if_neg n0]
        by_cases q : ax_isL (ls.getD (n - 1) ax_junk) = true
        · rw [if_pos q, hjunk]
          by_cases z : i = n - 1
          · subst z
            rw [if_pos rfl, if_pos ⟨by omega, q⟩]
          · rw [if_neg z, if_neg (fun y => z (by omega))]
        · rw [if_neg q, if_neg]
          rintro ⟨y1, y2⟩
          have : i = n - 1 := by omega
          subst this
          exact q y2
  split
  · rename_i hL
    rw [hjunk, inner]
    by_cases e : j = n
    · subst e
      rw [if_neg (by omega), if_pos rfl, if_pos rfl, if_neg (fun z => z.2)]
    · rw [if_neg e, if_neg e]
      by_cases e2 : j = n + 1
      · rw [if_pos e2, if_pos ⟨hL, e2⟩]
      · rw [if_neg e2, if_neg (show ¬ (ax_isL v = true ∧ j = n + 1) from fun z => e2 z.2)]
  · rename_i hL
    rw [inner]
    by_cases e : j = n
    · rw [if_pos e, if_pos e, if_neg (fun z => z.2)]
    · rw [if_neg e, if_neg e, if_neg (show ¬ (ax_isL v = true ∧ j = n + 1) from fun z => hL z.1)]
theorem ax_jle.put {ls ls' : List Value} (h : ax_jle ls ls') {n : Nat} (hn : n < ls.length) (v : Value) : ax_jle (ax_put ls n v) (ax_put ls' n v) := by
  refine ⟨by rw [ax_put_len, ax_put_len]; exact h.1, fun j => ?_⟩
  rw [ax_put_getD ls n j v hn, ax_put_getD ls' n j v (by rw [← h.1]; exact hn)]
  by_cases e : j = n
  · rw [if_pos e, if_pos e]; exact Or.inr rfl
  · rw [if_neg e, if_neg e]
    by_cases q : ax_isL v = true ∧ j = n + 1
    · rw [if_pos q]; exact Or.inl rfl
    · rw [if_neg q, if_neg q]
      rcases h.2 j with z | z
      · left
        split
        · rfl
        · exact z
      · rw [z]
        exact Or.inr rfl
theorem ax_jle.get {ls ls' : List Value} (h : ax_jle ls ls') {n : Nat} {v : Value} (hv : ls.getD n ax_junk = v) (hk : ax_kd v ≠ 3) : ls'.getD n ax_junk = v := by
  rcases h.2 n with z | z
  · rw [z] at hv
    subst hv
    exact absurd rfl hk
  · rw [← z]; exact hv
theorem ax_jle.lod {ls ls' : List Value} (h : ax_jle ls ls') {c n : Nat} {v : Value} (hc : c ≠ 3) (hv : ax_lod c ls n = some v) : ax_lod c ls' n = some v := by
  unfold ax_lod at hv
  split at hv
  · rename_i hk
    have e := h.get rfl (n := n) (by rw [hk]; exact hc)
    cases hv
    exact ax_lod_of e hk
  · cases hv
theorem ax_jle.sto {ls ls' st : List Value} (h : ax_jle ls ls') {c m n : Nat} {q : List Value × List Value} (hv : ax_sto c m ls st n = some q) : ∃ q', ax_sto c m ls' st n = some q' ∧ ax_jle q.1 q'.1 ∧ q'.2 = q.2 := by
  obtain ⟨v, r, rfl, h1, h2, h3, rfl⟩ := ax_sto_inv hv
  refine ⟨(ax_put ls' n v, r), ?_, h.put (Nat.lt_of_le_of_lt (by split <;> omega) h2) v, rfl⟩
  exact ax_sto_of (k := ax_L m) h1 rfl (by rw [← h.1]; exact h3) (by rw [← h3]; exact h2) rfl
/-- an instruction that doesn't look at the locals -/
def ax_nl (i : Instr) : Bool := match i with
  | .iload _ => false
  | .iload_n _ => false
  | .lload _ => false
  | .lload_n _ => false
  | .aload _ => false
  | .aload_n _ => false
  | .istore _ => false
  | .istore_n _ => false
  | .lstore _ => false
  | .lstore_n _ => false
  | .astore _ => false
  | .astore_n _ => false
  | .dload _ => false
  | .dload_n _ => false
  | .dstore _ => false
  | .dstore_n _ => false
  | .invokevirtual _ => false
  | .invokestatic _ => false
  | .iinc _ _ => false
  | _ => true
theorem ax_step_ls {ph : Bool} {m pc : Nat} {i : Instr} {st : List Value} {h : AH} (hi : ax_nl i = true) (l : List Value) : ax_step ph m i pc l st h = (ax_step ph m i pc [] st h).map (fun q => (q.1, l, q.2.2)) := by
  cases i <;> first
    | (cases hi; done)
    | rfl
    | (simp only [ax_step, Option.map_map, Function.comp_def]; done)
    | (simp only [ax_step]
       repeat' split
       all_goals first
         | rfl
         | (simp only [Option.map_map, Function.comp_def]; done))
theorem ax_jle.step {ph : Bool} {m pc pc1 : Nat} {i : Instr} {ls ls' st ls1 st1 : List Value} {h h1 : AH} (hj : ax_jle ls ls') (hs : ax_step ph m i pc ls st h = some (pc1, ls1, st1, h1)) : ∃ ls1', ax_step ph m i pc ls' st h = some (pc1, ls1', st1, h1) ∧ ax_jle ls1 ls1' := by
  cases i
  case iload n => obtain ⟨v, hv, e⟩ := Option.map_eq_some_iff.mp hs; cases e; exact ⟨ls', by simp only [ax_step, hj.lod (by decide) hv]; rfl, hj⟩
  case iload_n n => obtain ⟨v, hv, e⟩ := Option.map_eq_some_iff.mp hs; cases e; exact ⟨ls', by simp only [ax_step, hj.lod (by decide) hv]; rfl, hj⟩
  case lload n => obtain ⟨v, hv, e⟩ := Option.map_eq_some_iff.mp hs; cases e; exact ⟨ls', by simp only [ax_step, hj.lod (by decide) hv]; rfl, hj⟩
  case lload_n n => obtain ⟨v, hv, e⟩ := Option.map_eq_some_iff.mp hs; cases e; exact ⟨ls', by simp only [ax_step, hj.lod (by decide) hv]; rfl, hj⟩
  case aload n => obtain ⟨v, hv, e⟩ := Option.map_eq_some_iff.mp hs; cases e; exact ⟨ls', by simp only [ax_step, hj.lod (by decide) hv]; rfl, hj⟩
  case aload_n n => obtain ⟨v, hv, e⟩ := Option.map_eq_some_iff.mp hs; cases e; exact ⟨ls', by simp only [ax_step, hj.lod (by decide) hv]; rfl, hj⟩
  case istore n => obtain ⟨q, hq, e⟩ := Option.map_eq_some_iff.mp hs; cases e; obtain ⟨q', h2, h3, h4⟩ := hj.sto hq; exact ⟨q'.1, by simp only [ax_step, h2, Option.map_some, h4], h3⟩
  case istore_n n => obtain ⟨q, hq, e⟩ := Option.map_eq_some_iff.mp hs; cases e; obtain ⟨q', h2, h3, h4⟩ := hj.sto hq; exact ⟨q'.1, by simp only [ax_step, h2, Option.map_some, h4], h3⟩
  case lstore n => obtain ⟨q, hq, e⟩ := Option.map_eq_some_iff.mp hs; cases e; obtain ⟨q', h2, h3, h4⟩ := hj.sto hq; exact ⟨q'.1, by simp only [ax_step, h2, Option.map_some, h4], h3⟩
  case lstore_n n => obtain ⟨q, hq, e⟩ := Option.map_eq_some_iff.mp hs; cases e; obtain ⟨q', h2, h3, h4⟩ := hj.sto hq; exact ⟨q'.1, by simp only [ax_step, h2, Option.map_some, h4], h3⟩
  case astore n => obtain ⟨q, hq, e⟩ := Option.map_eq_some_iff.mp hs; cases e; obtain ⟨q', h2, h3, h4⟩ := hj.sto hq; exact ⟨q'.1, by simp only [ax_step, h2, Option.map_some, h4], h3⟩
  case astore_n n => obtain ⟨q, hq, e⟩ := Option.map_eq_some_iff.mp hs; cases e; obtain ⟨q', h2, h3, h4⟩ := hj.sto hq; exact ⟨q'.1, by simp only [ax_step, h2, Option.map_some, h4], h3⟩
  case dload n => obtain ⟨v, hv, e⟩ := Option.map_eq_some_iff.mp hs; cases e; exact ⟨ls', by simp only [ax_step, hj.lod (by decide) hv]; rfl, hj⟩
  case dload_n n => obtain ⟨v, hv, e⟩ := Option.map_eq_some_iff.mp hs; cases e; exact ⟨ls', by simp only [ax_step, hj.lod (by decide) hv]; rfl, hj⟩
  case dstore n => obtain ⟨q, hq, e⟩ := Option.map_eq_some_iff.mp hs; cases e; obtain ⟨q', h2, h3, h4⟩ := hj.sto hq; exact ⟨q'.1, by simp only [ax_step, h2, Option.map_some, h4], h3⟩
  case dstore_n n => obtain ⟨q, hq, e⟩ := Option.map_eq_some_iff.mp hs; cases e; obtain ⟨q', h2, h3, h4⟩ := hj.sto hq; exact ⟨q'.1, by simp only [ax_step, h2, Option.map_some, h4], h3⟩
  case invokevirtual k =>
    simp only [ax_step] at hs ⊢
    rw [← hj.1]
    repeat' split at hs
    all_goals first
      | (obtain ⟨v, hv, e⟩ := Option.map_eq_some_iff.mp hs; cases e; exact ⟨ls', by simp [*], hj⟩)
      | (cases hs)
  case iinc n k =>
    simp only [ax_step] at hs
    split at hs
    · rename_i x hx
      split at hs
      · rename_i hc
        cases hs
        refine ⟨ax_put ls' n (.int (x + Int32.ofInt k)), ?_, hj.put hc.1 _⟩
        simp only [ax_step, hj.get hx (fun q => by cases q)]
        rw [if_pos ⟨by rw [← hj.1]; exact hc.1, by rw [← hj.1]; exact hc.2⟩]
      · cases hs
    · cases hs
  case invokestatic k =>
    simp only [ax_step] at hs ⊢
    rw [← hj.1]
    repeat' split at hs
    all_goals first
      | (obtain ⟨v, hv, e⟩ := Option.map_eq_some_iff.mp hs; cases e; exact ⟨ls', by rename_i hc _; simp only [*]; rfl, hj⟩)
      | (obtain ⟨v, hv, e⟩ := Option.map_eq_some_iff.mp hs; cases e; exact ⟨ls', by simp [*], hj⟩)
      | (cases hs)
  all_goals
    rw [ax_step_ls rfl ls] at hs
    obtain ⟨⟨q1, q2, q3, q4⟩, hq, e2⟩ := Option.map_eq_some_iff.mp hs
    cases e2
    exact ⟨ls', by rw [ax_step_ls rfl ls', hq]; rfl, hj⟩
theorem ax_jle.nonex {ph : Bool} {m pc : Nat} {i : Instr} {ls ls' st : List Value} {h : AH} (hn : ax_nl i = true) (hs : ax_step ph m i pc ls st h = none) : ax_step ph m i pc ls' st h = none := by
  rw [ax_step_ls hn ls] at hs
  rw [ax_step_ls hn ls', Option.map_eq_none_iff.mp hs]
  rfl
/-- a return, or a call, isn't an instruction that looks at the locals -/
theorem ax_retv_nl {m : Nat} {i : Instr} {st : List Value} {r : Option Value} (h : ax_retv m i st = some r) : ax_nl i = true := by
  cases i <;> first | rfl | (exact absurd h (by intro z; cases z))
theorem ax_callv_step {ph : Bool} {m pc : Nat} {i : Instr} {st : List Value} {h : AH} {x : Option Nat × List Value × List Value} (hc : ax_callv ph m i st h = some x) (ls : List Value) : ax_step ph m i pc ls st h = none := by
  cases i <;> first
    | rfl
    | (exact absurd hc (by intro z; cases z))
    | (simp only [ax_callv] at hc
       simp only [ax_step]
       split at hc
       · rename_i e
         simp only [e]
       · cases hc)
    | (simp only [ax_callv] at hc
       simp only [ax_step]
       split at hc
       · rename_i e
         simp only [e]
       · rename_i e
         simp only [e]
       · cases hc)
theorem ax_jle.run {ph : Bool} : ∀ (f d m pc : Nat) (ls ls' st : List Value) (h : AH) (R : Option Value × AH), ax_jle ls ls' → ax_ex ph f d m pc ls st h = some R → ax_ex ph f d m pc ls' st h = some R
  | 0, _, _, _, _, _, _, _, _, _, hx => by cases hx
  | f + 1, d, m, pc, ls, ls', st, h, R, hj, hx => by
    unfold ax_ex at hx
    split at hx
    · cases hx
    · rename_i i len hdc
      split at hx
      · rename_i pc1 ls1 st1 h1 hs
        split at hx
        · rename_i hlen
          obtain ⟨ls2, h2, h3⟩ := hj.step hs
          unfold ax_ex
          simp only [hdc, h2]
          rw [if_pos hlen]
          exact ax_jle.run f d m pc1 ls1 ls2 st1 h1 R h3 hx
        · cases hx
      · rename_i hs
        split at hx
        · rename_i r0 hrv
          unfold ax_ex
          simp only [hdc, ax_jle.nonex (ls' := ls') (ax_retv_nl hrv) hs, hrv]
          exact hx
        · rename_i hrv
          split at hx
          · rename_i as rest hc
            unfold ax_ex
            simp only [hdc, ax_callv_step hc ls', hrv, hc]
            split at hx
            · rename_i hlen
              rw [if_pos hlen]
              exact ax_jle.run f d m _ ls ls' rest h R hj hx
            · cases hx
          · rename_i q as rest hc
            unfold ax_ex
            simp only [hdc, ax_callv_step hc ls', hrv, hc]
            split at hx
            · rename_i hlen
              rw [if_pos hlen]
              split at hx
              · cases hx
              · rename_i d1
                split at hx
                · rename_i v h1 hcl
                  try simp only [hcl]
                  exact ax_jle.run f (d1 + 1) m _ ls ls' _ h1 R hj hx
                · cases hx
            · cases hx
          · cases hx
/-- forget slots that are not needed any more -/
theorem XX.junk {ph : Bool} {d m pc : Nat} {ls ls' st : List Value} {h : AH} {R : Option Value × AH} (hx : XX ph d m pc ls st h R) (hj : ax_jle ls ls') : XX ph d m pc ls' st h R := by
  obtain ⟨f, hf⟩ := hx
  exact ⟨f, ax_jle.run f d m pc ls ls' st h R hj hf⟩
theorem ax_jle.nil : ax_jle [] [] := ax_jle.rf []
theorem ax_jle.cons {v : Value} {ls ls' : List Value} (h : ax_jle ls ls') : ax_jle (v :: ls) (v :: ls') := ⟨by rw [List.length_cons, List.length_cons, h.1], fun i => by cases i with
  | zero => exact Or.inr rfl
  | succ i => exact h.2 i⟩
theorem ax_jle.skip {v : Value} {ls ls' : List Value} (h : ax_jle ls ls') : ax_jle (ax_junk :: ls) (v :: ls') := ⟨by rw [List.length_cons, List.length_cons, h.1], fun i => by cases i with
  | zero => exact Or.inl rfl
  | succ i => exact h.2 i⟩
end
section
theorem i_vc : Claimed_1_1 ∧ Claimed_1_2 := sorry
end
