-- ===== PART A: goes FIRST, ahead of the names: the tables' words, and 'selects' of the private methods out of them =====
/-- a private method of a class that the tables say can be made, by its rows of tables_1 -/
def lw_okq (q : MethodName × Nat) : Prop := (q.1.cls ≠ "java/lang/invoke/MethodHandle" ∧ q.1.cls ≠ "java/lang/invoke/VarHandle") ∧ Cond.instantiable q.1.cls q.2 ∈ tables_1 ∧ Cond.privateMethod q.1 ∈ tables_1 ∧ Cond.instanceMethod q.1 ∈ tables_1
theorem lw_p0 : lw_okq (⟨"VeiledTable", "isAhead", "(II)Z"⟩, 13) := ⟨⟨by decide +kernel, by decide +kernel⟩, List.mem_of_getElem? (i := 17) (by decide +kernel), List.mem_of_getElem? (i := 298) (by decide +kernel), List.mem_of_getElem? (i := 299) (by decide +kernel)⟩
theorem lw_p1 : lw_okq (⟨"VeiledTable", "isPoint", "(I)Z"⟩, 13) := ⟨⟨by decide +kernel, by decide +kernel⟩, List.mem_of_getElem? (i := 17) (by decide +kernel), List.mem_of_getElem? (i := 302) (by decide +kernel), List.mem_of_getElem? (i := 303) (by decide +kernel)⟩
theorem lw_p2 : lw_okq (⟨"VeiledTable", "isWay", "(I)Z"⟩, 13) := ⟨⟨by decide +kernel, by decide +kernel⟩, List.mem_of_getElem? (i := 17) (by decide +kernel), List.mem_of_getElem? (i := 314) (by decide +kernel), List.mem_of_getElem? (i := 315) (by decide +kernel)⟩
theorem lw_p3 : lw_okq (⟨"VeiledTable$Play", "step", "(LVeiledTable$Game;II)V"⟩, 9) := ⟨⟨by decide +kernel, by decide +kernel⟩, List.mem_of_getElem? (i := 175) (by decide +kernel), List.mem_of_getElem? (i := 370) (by decide +kernel), List.mem_of_getElem? (i := 371) (by decide +kernel)⟩
theorem lw_p4 : lw_okq (⟨"VeiledTable$Sets", "gatherAt", "(LVeiledTable$Table;II)V"⟩, 6) := ⟨⟨by decide +kernel, by decide +kernel⟩, List.mem_of_getElem? (i := 144) (by decide +kernel), List.mem_of_getElem? (i := 434) (by decide +kernel), List.mem_of_getElem? (i := 435) (by decide +kernel)⟩
theorem lw_p5 : lw_okq (⟨"VeiledTable$Sets", "sort", "(I)V"⟩, 6) := ⟨⟨by decide +kernel, by decide +kernel⟩, List.mem_of_getElem? (i := 144) (by decide +kernel), List.mem_of_getElem? (i := 439) (by decide +kernel), List.mem_of_getElem? (i := 440) (by decide +kernel)⟩
theorem lw_p6 : lw_okq (⟨"VeiledTable$Test", "isSoByItself", "(LVeiledTable$Table;)Z"⟩, 4) := ⟨⟨by decide +kernel, by decide +kernel⟩, List.mem_of_getElem? (i := 483) (by decide +kernel), List.mem_of_getElem? (i := 481) (by decide +kernel), List.mem_of_getElem? (i := 482) (by decide +kernel)⟩
theorem lw_p7 : lw_okq (⟨"VeiledTable$Amount", "byItself", "(LVeiledTable$Table;)I"⟩, 5) := ⟨⟨by decide +kernel, by decide +kernel⟩, List.mem_of_getElem? (i := 492) (by decide +kernel), List.mem_of_getElem? (i := 490) (by decide +kernel), List.mem_of_getElem? (i := 491) (by decide +kernel)⟩
theorem lw_p8 : lw_okq (⟨"VeiledTable$Table", "isChanceAt", "(I)Z"⟩, 9) := ⟨⟨by decide +kernel, by decide +kernel⟩, List.mem_of_getElem? (i := 31) (by decide +kernel), List.mem_of_getElem? (i := 516) (by decide +kernel), List.mem_of_getElem? (i := 517) (by decide +kernel)⟩
theorem lw_p9 : lw_okq (⟨"VeiledTable", "isMuchFor", "(I)Z"⟩, 13) := ⟨⟨by decide +kernel, by decide +kernel⟩, List.mem_of_getElem? (i := 17) (by decide +kernel), List.mem_of_getElem? (i := 540) (by decide +kernel), List.mem_of_getElem? (i := 541) (by decide +kernel)⟩
theorem lw_p10 : lw_okq (⟨"VeiledTable$Play", "gatherCourses", "(LVeiledTable$Game;LVeiledTable$Sets;I)V"⟩, 9) := ⟨⟨by decide +kernel, by decide +kernel⟩, List.mem_of_getElem? (i := 175) (by decide +kernel), List.mem_of_getElem? (i := 548) (by decide +kernel), List.mem_of_getElem? (i := 549) (by decide +kernel)⟩
theorem lw_p11 : lw_okq (⟨"VeiledTable$Play", "courseOf", "(LVeiledTable$Table;LVeiledTable$Sets;I)J"⟩, 9) := ⟨⟨by decide +kernel, by decide +kernel⟩, List.mem_of_getElem? (i := 175) (by decide +kernel), List.mem_of_getElem? (i := 553) (by decide +kernel), List.mem_of_getElem? (i := 554) (by decide +kernel)⟩
theorem lw_p12 : lw_okq (⟨"VeiledTable$Play", "sumTried", "()I"⟩, 9) := ⟨⟨by decide +kernel, by decide +kernel⟩, List.mem_of_getElem? (i := 175) (by decide +kernel), List.mem_of_getElem? (i := 562) (by decide +kernel), List.mem_of_getElem? (i := 563) (by decide +kernel)⟩
theorem lw_p13 : lw_okq (⟨"VeiledTable$Play", "isTried", "(J)Z"⟩, 9) := ⟨⟨by decide +kernel, by decide +kernel⟩, List.mem_of_getElem? (i := 175) (by decide +kernel), List.mem_of_getElem? (i := 566) (by decide +kernel), List.mem_of_getElem? (i := 567) (by decide +kernel)⟩
theorem lw_p14 : lw_okq (⟨"VeiledTable$Play", "tryNext", "(LVeiledTable$Table;LVeiledTable$Sets;)Z"⟩, 9) := ⟨⟨by decide +kernel, by decide +kernel⟩, List.mem_of_getElem? (i := 175) (by decide +kernel), List.mem_of_getElem? (i := 571) (by decide +kernel), List.mem_of_getElem? (i := 572) (by decide +kernel)⟩
theorem lw_p15 : lw_okq (⟨"VeiledTable", "untold", "(I)I"⟩, 13) := ⟨⟨by decide +kernel, by decide +kernel⟩, List.mem_of_getElem? (i := 17) (by decide +kernel), List.mem_of_getElem? (i := 582) (by decide +kernel), List.mem_of_getElem? (i := 583) (by decide +kernel)⟩
def lw_privs_1 : List (MethodName × Nat) := [(⟨"VeiledTable", "isAhead", "(II)Z"⟩, 13), (⟨"VeiledTable", "isPoint", "(I)Z"⟩, 13), (⟨"VeiledTable", "isWay", "(I)Z"⟩, 13), (⟨"VeiledTable$Play", "step", "(LVeiledTable$Game;II)V"⟩, 9), (⟨"VeiledTable$Sets", "gatherAt", "(LVeiledTable$Table;II)V"⟩, 6), (⟨"VeiledTable$Sets", "sort", "(I)V"⟩, 6), (⟨"VeiledTable$Test", "isSoByItself", "(LVeiledTable$Table;)Z"⟩, 4), (⟨"VeiledTable$Amount", "byItself", "(LVeiledTable$Table;)I"⟩, 5), (⟨"VeiledTable$Table", "isChanceAt", "(I)Z"⟩, 9), (⟨"VeiledTable", "isMuchFor", "(I)Z"⟩, 13), (⟨"VeiledTable$Play", "gatherCourses", "(LVeiledTable$Game;LVeiledTable$Sets;I)V"⟩, 9), (⟨"VeiledTable$Play", "courseOf", "(LVeiledTable$Table;LVeiledTable$Sets;I)J"⟩, 9), (⟨"VeiledTable$Play", "sumTried", "()I"⟩, 9), (⟨"VeiledTable$Play", "isTried", "(J)Z"⟩, 9), (⟨"VeiledTable$Play", "tryNext", "(LVeiledTable$Table;LVeiledTable$Sets;)Z"⟩, 9), (⟨"VeiledTable", "untold", "(I)I"⟩, 13)]
theorem lw_r1 : ∀ q ∈ lw_privs_1, lw_okq q := List.forall_mem_cons.mpr ⟨lw_p0, List.forall_mem_cons.mpr ⟨lw_p1, List.forall_mem_cons.mpr ⟨lw_p2, List.forall_mem_cons.mpr ⟨lw_p3, List.forall_mem_cons.mpr ⟨lw_p4, List.forall_mem_cons.mpr ⟨lw_p5, List.forall_mem_cons.mpr ⟨lw_p6, List.forall_mem_cons.mpr ⟨lw_p7, List.forall_mem_cons.mpr ⟨lw_p8, List.forall_mem_cons.mpr ⟨lw_p9, List.forall_mem_cons.mpr ⟨lw_p10, List.forall_mem_cons.mpr ⟨lw_p11, List.forall_mem_cons.mpr ⟨lw_p12, List.forall_mem_cons.mpr ⟨lw_p13, List.forall_mem_cons.mpr ⟨lw_p14, List.forall_mem_cons.mpr ⟨lw_p15, fun _ h => absurd h List.not_mem_nil⟩⟩⟩⟩⟩⟩⟩⟩⟩⟩⟩⟩⟩⟩⟩⟩
theorem lw_p16 : lw_okq (⟨"VeiledTable$Table", "cardsLeft", "()I"⟩, 9) := ⟨⟨by decide +kernel, by decide +kernel⟩, List.mem_of_getElem? (i := 31) (by decide +kernel), List.mem_of_getElem? (i := 719) (by decide +kernel), List.mem_of_getElem? (i := 720) (by decide +kernel)⟩
theorem lw_p17 : lw_okq (⟨"VeiledTable$Table", "isCardAt", "(I)Z"⟩, 9) := ⟨⟨by decide +kernel, by decide +kernel⟩, List.mem_of_getElem? (i := 31) (by decide +kernel), List.mem_of_getElem? (i := 723) (by decide +kernel), List.mem_of_getElem? (i := 724) (by decide +kernel)⟩
theorem lw_p18 : lw_okq (⟨"VeiledTable$Table", "branch", "(LVeiledTable$Kind;I)V"⟩, 9) := ⟨⟨by decide +kernel, by decide +kernel⟩, List.mem_of_getElem? (i := 31) (by decide +kernel), List.mem_of_getElem? (i := 754) (by decide +kernel), List.mem_of_getElem? (i := 755) (by decide +kernel)⟩
theorem lw_p19 : lw_okq (⟨"VeiledTable$Table", "cardsGone", "(II)I"⟩, 9) := ⟨⟨by decide +kernel, by decide +kernel⟩, List.mem_of_getElem? (i := 31) (by decide +kernel), List.mem_of_getElem? (i := 758) (by decide +kernel), List.mem_of_getElem? (i := 759) (by decide +kernel)⟩
theorem lw_p20 : lw_okq (⟨"VeiledTable$Table", "letSee", "(LVeiledTable$Stage;I)V"⟩, 9) := ⟨⟨by decide +kernel, by decide +kernel⟩, List.mem_of_getElem? (i := 31) (by decide +kernel), List.mem_of_getElem? (i := 762) (by decide +kernel), List.mem_of_getElem? (i := 763) (by decide +kernel)⟩
def lw_privs_2 : List (MethodName × Nat) := [(⟨"VeiledTable$Table", "cardsLeft", "()I"⟩, 9), (⟨"VeiledTable$Table", "isCardAt", "(I)Z"⟩, 9), (⟨"VeiledTable$Table", "branch", "(LVeiledTable$Kind;I)V"⟩, 9), (⟨"VeiledTable$Table", "cardsGone", "(II)I"⟩, 9), (⟨"VeiledTable$Table", "letSee", "(LVeiledTable$Stage;I)V"⟩, 9)]
theorem lw_r2 : ∀ q ∈ lw_privs_2, lw_okq q := List.forall_mem_cons.mpr ⟨lw_p16, List.forall_mem_cons.mpr ⟨lw_p17, List.forall_mem_cons.mpr ⟨lw_p18, List.forall_mem_cons.mpr ⟨lw_p19, List.forall_mem_cons.mpr ⟨lw_p20, fun _ h => absurd h List.not_mem_nil⟩⟩⟩⟩⟩
def lw_privs : List (MethodName × Nat) := lw_privs_1 ++ (lw_privs_2)
def lw_tbl : List Cond := k2_sels lw_privs ++ tables_1
theorem lw_privs_ok : ∀ q ∈ lw_privs, lw_okq q := by
  show ∀ q ∈ lw_privs_1 ++ (lw_privs_2), lw_okq q
  exact List.forall_mem_append.mpr ⟨lw_r1, lw_r2⟩

def RX0 : String := "VeiledTable$Amount"
def TX0 : u_T := fun k => match k with
  | 0 => ("VeiledTable$Amount", "sort", "I", true)
  | 1 => ("VeiledTable$Amount", "x", "I", true)
  | 2 => ("VeiledTable$Amount", "y", "I", true)
  | 3 => ("VeiledTable$Amount", "v", "I", true)
  | _ => ("VeiledTable$Amount", "ahead", "LVeiledTable$Amount;", true)
def tyX0 : Nat → FieldType := fun k => match k with
  | 0 => .int
  | 1 => .int
  | 2 => .int
  | 3 => .int
  | _ => .object "VeiledTable$Amount"
abbrev wsX00 : List Cond := u_ws RX0 TX0 5
theorem nmX0 : ∀ a, a < 5 → ∀ b, b < 5 → a ≠ b → (TX0 a).2.1 ≠ (TX0 b).2.1 := by decide +kernel
theorem tyX0_ok : ∀ k, k < 5 → parseFieldDescriptor (TX0 k).2.2.1 = some (tyX0 k) := by decide +kernel
theorem inX0 : ∀ w ∈ wsX00, w ∈ lw_tbl := by decide +kernel
def RX1 : String := "VeiledTable$Game"
def TX1 : u_T := fun k => match k with
  | 0 => ("VeiledTable$Game", "table", "LVeiledTable$Table;", true)
  | 1 => ("VeiledTable$Game", "plans", "LVeiledTable$Plans;", true)
  | 2 => ("VeiledTable$Game", "tests", "[LVeiledTable$Test;", true)
  | 3 => ("VeiledTable$Game", "amounts", "[LVeiledTable$Amount;", true)
  | 4 => ("VeiledTable$Game", "payers", "[I", true)
  | 5 => ("VeiledTable$Game", "payees", "[I", true)
  | 6 => ("VeiledTable$Game", "ruled", "I", false)
  | _ => ("VeiledTable$Game", "stake", "J", false)
def tyX1 : Nat → FieldType := fun k => match k with
  | 0 => .object "VeiledTable$Table"
  | 1 => .object "VeiledTable$Plans"
  | 2 => .array (.object "VeiledTable$Test")
  | 3 => .array (.object "VeiledTable$Amount")
  | 4 => .array .int
  | 5 => .array .int
  | 6 => .int
  | _ => .long
abbrev wsX10 : List Cond := u_ws RX1 TX1 8
theorem nmX1 : ∀ a, a < 8 → ∀ b, b < 8 → a ≠ b → (TX1 a).2.1 ≠ (TX1 b).2.1 := by decide +kernel
theorem tyX1_ok : ∀ k, k < 8 → parseFieldDescriptor (TX1 k).2.2.1 = some (tyX1 k) := by decide +kernel
theorem inX1 : ∀ w ∈ wsX10, w ∈ lw_tbl := by decide +kernel
def RX3 : String := "VeiledTable$Plans"
def TX3 : u_T := fun k => match k with
  | 0 => ("VeiledTable$Plans", "keys", "[I", true)
  | 1 => ("VeiledTable$Plans", "choices", "[I", true)
  | _ => ("VeiledTable$Plans", "many", "I", false)
def tyX3 : Nat → FieldType := fun k => match k with
  | 0 => .array .int
  | 1 => .array .int
  | _ => .int
abbrev wsX30 : List Cond := u_ws RX3 TX3 3
theorem nmX3 : ∀ a, a < 3 → ∀ b, b < 3 → a ≠ b → (TX3 a).2.1 ≠ (TX3 b).2.1 := by decide +kernel
theorem tyX3_ok : ∀ k, k < 3 → parseFieldDescriptor (TX3 k).2.2.1 = some (tyX3 k) := by decide +kernel
theorem inX3 : ∀ w ∈ wsX30, w ∈ lw_tbl := by decide +kernel
def RX4 : String := "VeiledTable$Play"
def TX4 : u_T := fun k => match k with
  | 0 => ("VeiledTable$Play", "followed", "[I", false)
  | 1 => ("VeiledTable$Play", "next", "[I", false)
  | 2 => ("VeiledTable$Play", "many", "I", false)
  | 3 => ("VeiledTable$Play", "courses", "[J", true)
  | 4 => ("VeiledTable$Play", "wins", "[I", true)
  | 5 => ("VeiledTable$Play", "coursed", "I", false)
  | 6 => ("VeiledTable$Play", "marks", "I", false)
  | 7 => ("VeiledTable$Play", "tried", "[I", true)
  | _ => ("VeiledTable$Play", "firsts", "[I", true)
def tyX4 : Nat → FieldType := fun k => match k with
  | 0 => .array .int
  | 1 => .array .int
  | 2 => .int
  | 3 => .array .long
  | 4 => .array .int
  | 5 => .int
  | 6 => .int
  | 7 => .array .int
  | _ => .array .int
abbrev wsX40 : List Cond := u_ws RX4 TX4 9
theorem nmX4 : ∀ a, a < 9 → ∀ b, b < 9 → a ≠ b → (TX4 a).2.1 ≠ (TX4 b).2.1 := by decide +kernel
theorem tyX4_ok : ∀ k, k < 9 → parseFieldDescriptor (TX4 k).2.2.1 = some (tyX4 k) := by decide +kernel
theorem inX4 : ∀ w ∈ wsX40, w ∈ lw_tbl := by decide +kernel
def RX5 : String := "VeiledTable$Sets"
def TX5 : u_T := fun k => match k with
  | 0 => ("VeiledTable$Sets", "points", "[I", true)
  | 1 => ("VeiledTable$Sets", "sights", "[I", true)
  | 2 => ("VeiledTable$Sets", "sizes", "[I", true)
  | 3 => ("VeiledTable$Sets", "many", "I", false)
  | 4 => ("VeiledTable$Sets", "row", "[I", true)
  | _ => ("VeiledTable$Sets", "pasts", "[I", true)
def tyX5 : Nat → FieldType := fun k => match k with
  | 0 => .array .int
  | 1 => .array .int
  | 2 => .array .int
  | 3 => .int
  | 4 => .array .int
  | _ => .array .int
abbrev wsX50 : List Cond := u_ws RX5 TX5 6
theorem nmX5 : ∀ a, a < 6 → ∀ b, b < 6 → a ≠ b → (TX5 a).2.1 ≠ (TX5 b).2.1 := by decide +kernel
theorem tyX5_ok : ∀ k, k < 6 → parseFieldDescriptor (TX5 k).2.2.1 = some (tyX5 k) := by decide +kernel
theorem inX5 : ∀ w ∈ wsX50, w ∈ lw_tbl := by decide +kernel
def RX6 : String := "VeiledTable$Sheet"
def TX6 : u_T := fun k => match k with
  | 0 => ("VeiledTable$Sheet", "sort", "I", false)
  | 1 => ("VeiledTable$Sheet", "size", "I", false)
  | _ => ("VeiledTable$Sheet", "cells", "[I", true)
def tyX6 : Nat → FieldType := fun k => match k with
  | 0 => .int
  | 1 => .int
  | _ => .array .int
abbrev wsX60 : List Cond := u_ws RX6 TX6 3
theorem nmX6 : ∀ a, a < 3 → ∀ b, b < 3 → a ≠ b → (TX6 a).2.1 ≠ (TX6 b).2.1 := by decide +kernel
theorem tyX6_ok : ∀ k, k < 3 → parseFieldDescriptor (TX6 k).2.2.1 = some (tyX6 k) := by decide +kernel
theorem inX6 : ∀ w ∈ wsX60, w ∈ lw_tbl := by decide +kernel
def RX7 : String := "VeiledTable$Stage"
def TX7 : u_T := fun k => match k with
  | 0 => ("VeiledTable$Stage", "kind", "LVeiledTable$Kind;", true)
  | 1 => ("VeiledTable$Stage", "player", "I", true)
  | _ => ("VeiledTable$Stage", "k", "I", true)
def tyX7 : Nat → FieldType := fun k => match k with
  | 0 => .object "VeiledTable$Kind"
  | 1 => .int
  | _ => .int
abbrev wsX70 : List Cond := u_ws RX7 TX7 3
theorem nmX7 : ∀ a, a < 3 → ∀ b, b < 3 → a ≠ b → (TX7 a).2.1 ≠ (TX7 b).2.1 := by decide +kernel
theorem tyX7_ok : ∀ k, k < 3 → parseFieldDescriptor (TX7 k).2.2.1 = some (tyX7 k) := by decide +kernel
theorem inX7 : ∀ w ∈ wsX70, w ∈ lw_tbl := by decide +kernel
def RX8 : String := "VeiledTable$Table"
def TX8 : u_T := fun k => match k with
  | 0 => ("VeiledTable$Table", "cards", "I", false)
  | 1 => ("VeiledTable$Table", "worths", "[I", true)
  | 2 => ("VeiledTable$Table", "stages", "[LVeiledTable$Stage;", true)
  | 3 => ("VeiledTable$Table", "staged", "I", false)
  | 4 => ("VeiledTable$Table", "fans", "[I", true)
  | 5 => ("VeiledTable$Table", "behind", "[I", true)
  | 6 => ("VeiledTable$Table", "seers", "[[I", true)
  | 7 => ("VeiledTable$Table", "befell", "[[I", true)
  | _ => ("VeiledTable$Table", "what", "[I", true)
def tyX8 : Nat → FieldType := fun k => match k with
  | 0 => .int
  | 1 => .array .int
  | 2 => .array (.object "VeiledTable$Stage")
  | 3 => .int
  | 4 => .array .int
  | 5 => .array .int
  | 6 => .array (.array .int)
  | 7 => .array (.array .int)
  | _ => .array .int
abbrev wsX80 : List Cond := u_ws RX8 TX8 9
theorem nmX8 : ∀ a, a < 9 → ∀ b, b < 9 → a ≠ b → (TX8 a).2.1 ≠ (TX8 b).2.1 := by decide +kernel
theorem tyX8_ok : ∀ k, k < 9 → parseFieldDescriptor (TX8 k).2.2.1 = some (tyX8 k) := by decide +kernel
theorem inX8 : ∀ w ∈ wsX80, w ∈ lw_tbl := by decide +kernel
def RX9 : String := "VeiledTable$Tape"
def TX9 : u_T := fun k => match k with
  | 0 => ("VeiledTable$Tape", "bytes", "[I", true)
  | 1 => ("VeiledTable$Tape", "many", "I", false)
  | 2 => ("VeiledTable$Tape", "sort", "I", false)
  | 3 => ("VeiledTable$Tape", "from", "I", false)
  | 4 => ("VeiledTable$Tape", "to", "I", false)
  | _ => ("VeiledTable$Tape", "value", "I", false)
def tyX9 : Nat → FieldType := fun k => match k with
  | 0 => .array .int
  | 1 => .int
  | 2 => .int
  | 3 => .int
  | 4 => .int
  | _ => .int
abbrev wsX90 : List Cond := u_ws RX9 TX9 6
theorem nmX9 : ∀ a, a < 6 → ∀ b, b < 6 → a ≠ b → (TX9 a).2.1 ≠ (TX9 b).2.1 := by decide +kernel
theorem tyX9_ok : ∀ k, k < 6 → parseFieldDescriptor (TX9 k).2.2.1 = some (tyX9 k) := by decide +kernel
theorem inX9 : ∀ w ∈ wsX90, w ∈ lw_tbl := by decide +kernel
def RX10 : String := "VeiledTable$Test"
def TX10 : u_T := fun k => match k with
  | 0 => ("VeiledTable$Test", "sort", "I", true)
  | 1 => ("VeiledTable$Test", "x", "I", true)
  | 2 => ("VeiledTable$Test", "y", "I", true)
  | _ => ("VeiledTable$Test", "ahead", "LVeiledTable$Test;", true)
def tyX10 : Nat → FieldType := fun k => match k with
  | 0 => .int
  | 1 => .int
  | 2 => .int
  | _ => .object "VeiledTable$Test"
abbrev wsX100 : List Cond := u_ws RX10 TX10 4
theorem nmX10 : ∀ a, a < 4 → ∀ b, b < 4 → a ≠ b → (TX10 a).2.1 ≠ (TX10 b).2.1 := by decide +kernel
theorem tyX10_ok : ∀ k, k < 4 → parseFieldDescriptor (TX10 k).2.2.1 = some (tyX10 k) := by decide +kernel
theorem inX10 : ∀ w ∈ wsX100, w ∈ lw_tbl := by decide +kernel
def RX11 : String := "VeiledTable"
def TX11 : u_T := fun k => match k with
  | 0 => ("VeiledTable", "game", "LVeiledTable$Game;", true)
  | 1 => ("VeiledTable", "kept", "LVeiledTable$Game;", true)
  | 2 => ("VeiledTable", "isKept", "Z", false)
  | 3 => ("VeiledTable", "held", "LVeiledTable$Sets;", true)
  | 4 => ("VeiledTable", "play", "LVeiledTable$Play;", true)
  | 5 => ("VeiledTable", "tape", "LVeiledTable$Tape;", true)
  | 6 => ("VeiledTable", "racked", "[LVeiledTable$Stage;", true)
  | 7 => ("VeiledTable", "rackSizes", "[I", true)
  | 8 => ("VeiledTable", "sheets", "[LVeiledTable$Sheet;", true)
  | 9 => ("VeiledTable", "handSorts", "[I", true)
  | 10 => ("VeiledTable", "handStages", "[LVeiledTable$Stage;", true)
  | 11 => ("VeiledTable", "handAmounts", "[LVeiledTable$Amount;", true)
  | _ => ("VeiledTable", "handViews", "[J", true)
def tyX11 : Nat → FieldType := fun k => match k with
  | 0 => .object "VeiledTable$Game"
  | 1 => .object "VeiledTable$Game"
  | 2 => .boolean
  | 3 => .object "VeiledTable$Sets"
  | 4 => .object "VeiledTable$Play"
  | 5 => .object "VeiledTable$Tape"
  | 6 => .array (.object "VeiledTable$Stage")
  | 7 => .array .int
  | 8 => .array (.object "VeiledTable$Sheet")
  | 9 => .array .int
  | 10 => .array (.object "VeiledTable$Stage")
  | 11 => .array (.object "VeiledTable$Amount")
  | _ => .array .long
abbrev wsX110 : List Cond := u_ws RX11 TX11 13
theorem nmX11 : ∀ a, a < 13 → ∀ b, b < 13 → a ≠ b → (TX11 a).2.1 ≠ (TX11 b).2.1 := by decide +kernel
theorem tyX11_ok : ∀ k, k < 13 → parseFieldDescriptor (TX11 k).2.2.1 = some (tyX11 k) := by decide +kernel
theorem inX11 : ∀ w ∈ wsX110, w ∈ lw_tbl := by decide +kernel
def RX12 : String := "VeiledTableLaw$Own"
def TX12 : u_T := fun k => match k with
  | 0 => ("VeiledTableLaw$Own", "m", "I", false)
  | 1 => ("VeiledTableLaw$Own", "n", "I", false)
  | 2 => ("VeiledTableLaw$Own", "rules", "I", false)
  | 3 => ("VeiledTableLaw$Own", "worth", "[I", true)
  | 4 => ("VeiledTableLaw$Own", "kind", "[I", true)
  | 5 => ("VeiledTableLaw$Own", "p", "[I", true)
  | 6 => ("VeiledTableLaw$Own", "k", "[I", true)
  | 7 => ("VeiledTableLaw$Own", "rule", "[[I", true)
  | 8 => ("VeiledTableLaw$Own", "told", "[[I", true)
  | 9 => ("VeiledTableLaw$Own", "plans", "I", false)
  | _ => ("VeiledTableLaw$Own", "stake", "J", false)
def tyX12 : Nat → FieldType := fun k => match k with
  | 0 => .int
  | 1 => .int
  | 2 => .int
  | 3 => .array .int
  | 4 => .array .int
  | 5 => .array .int
  | 6 => .array .int
  | 7 => .array (.array .int)
  | 8 => .array (.array .int)
  | 9 => .int
  | _ => .long
abbrev wsX120 : List Cond := u_ws RX12 TX12 11
theorem nmX12 : ∀ a, a < 11 → ∀ b, b < 11 → a ≠ b → (TX12 a).2.1 ≠ (TX12 b).2.1 := by decide +kernel
theorem tyX12_ok : ∀ k, k < 11 → parseFieldDescriptor (TX12 k).2.2.1 = some (tyX12 k) := by decide +kernel
theorem inX12 : ∀ w ∈ wsX120, w ∈ lw_tbl := by decide +kernel
abbrev ax_cl : List vw_C := [(RX0, TX0, 5), (RX1, TX1, 8), (RX3, TX3, 3), (RX4, TX4, 9), (RX5, TX5, 6), (RX6, TX6, 3), (RX7, TX7, 3), (RX8, TX8, 9), (RX9, TX9, 6), (RX10, TX10, 4), (RX11, TX11, 13), (RX12, TX12, 11)]
/-- names of the classes by their numbers -/
def ax_cn : List String := ["VeiledTable$Amount", "VeiledTable$Game", "VeiledTable$Plans", "VeiledTable$Play", "VeiledTable$Sets", "VeiledTable$Sheet", "VeiledTable$Stage", "VeiledTable$Table", "VeiledTable$Tape", "VeiledTable$Test", "VeiledTable", "VeiledTableLaw$Own", "VeiledTable$Kind", "java/lang/Enum", "java/lang/Math", "java/lang/Cloneable", "VeiledTableModel", "[I", "VeiledTableLaw", "java/lang/Object"]
abbrev cX11_init : ByteArray := prog_1_method_1_code
abbrev cX1_init : ByteArray := prog_3_method_1_code
abbrev cX8_init : ByteArray := prog_10_method_1_code
abbrev cX3_init : ByteArray := prog_5_method_1_code
abbrev cX5_init : ByteArray := prog_7_method_1_code
abbrev cX4_init : ByteArray := prog_6_method_1_code
abbrev cX9_init : ByteArray := prog_11_method_1_code
abbrev cX6_init : ByteArray := prog_8_method_1_code
abbrev cX11_seen : ByteArray := prog_1_method_6_code
abbrev cX11_isAhead : ByteArray := prog_1_method_54_code
abbrev cX11_isPoint : ByteArray := prog_1_method_53_code
abbrev cX11_ways : ByteArray := prog_1_method_8_code
abbrev cX11_happened : ByteArray := prog_1_method_9_code
abbrev cX11_isWay : ByteArray := prog_1_method_55_code
abbrev cX8_go : ByteArray := prog_10_method_15_code
abbrev cJ9_max_7cf53 : ByteArray := prog_18_method_65_code
abbrev cX11_view : ByteArray := prog_1_method_11_code
abbrev cX11_isPlayer : ByteArray := prog_1_method_47_code
abbrev cX8_sight : ByteArray := prog_10_method_16_code
abbrev cX11_worlds : ByteArray := prog_1_method_12_code
abbrev cX8_alike : ByteArray := prog_10_method_18_code
abbrev cX8_sightOf : ByteArray := prog_10_method_17_code
abbrev cX11_world : ByteArray := prog_1_method_13_code
abbrev cX8_alikeAt : ByteArray := prog_10_method_19_code
abbrev cX11_odds : ByteArray := prog_1_method_14_code
abbrev cX11_isPart : ByteArray := prog_1_method_48_code
abbrev cX4_follow : ByteArray := prog_6_method_2_code
abbrev cX4_step : ByteArray := prog_6_method_3_code
abbrev cX8_at : ByteArray := prog_10_method_4_code
abbrev cX2_isChoice : ByteArray := prog_4_method_5_code
abbrev cX1_choice : ByteArray := prog_3_method_6_code
abbrev cX3_find : ByteArray := prog_5_method_4_code
abbrev cX3_key : ByteArray := prog_5_method_3_code
abbrev cX4_alike : ByteArray := prog_6_method_4_code
abbrev cX4_alikeWith : ByteArray := prog_6_method_5_code
abbrev cX11_share : ByteArray := prog_1_method_59_code
abbrev cJ9_abs_067f4 : ByteArray := prog_18_method_61_code
abbrev cX11_divisor : ByteArray := prog_1_method_60_code
abbrev cJ9_max_f86c9 : ByteArray := prog_18_method_66_code
abbrev cX11_sets : ByteArray := prog_1_method_15_code
abbrev cX5_gather : ByteArray := prog_7_method_2_code
abbrev cX8_picks : ByteArray := prog_10_method_10_code
abbrev cX5_gatherAt : ByteArray := prog_7_method_3_code
abbrev cX5_sort : ByteArray := prog_7_method_4_code
abbrev cX11_setOf : ByteArray := prog_1_method_16_code
abbrev cX11_plan : ByteArray := prog_1_method_18_code
abbrev cX3_tell : ByteArray := prog_5_method_5_code
abbrev cX11_pay : ByteArray := prog_1_method_24_code
abbrev cX1_won : ByteArray := prog_3_method_8_code
abbrev cX1_due : ByteArray := prog_3_method_7_code
abbrev cX1_testAt : ByteArray := prog_3_method_4_code
abbrev cX1_amountAt : ByteArray := prog_3_method_5_code
abbrev cX10_isSo : ByteArray := prog_12_method_2_code
abbrev cX10_isSoByItself : ByteArray := prog_12_method_3_code
abbrev cX0_comesTo : ByteArray := prog_2_method_2_code
abbrev cX0_byItself : ByteArray := prog_2_method_3_code
abbrev cX11_isProduct : ByteArray := prog_1_method_61_code
abbrev cX11_mean : ByteArray := prog_1_method_25_code
abbrev cX4_together : ByteArray := prog_6_method_6_code
abbrev cX8_chances : ByteArray := prog_10_method_20_code
abbrev cX8_isChanceAt : ByteArray := prog_10_method_9_code
abbrev cX2_isChance : ByteArray := prog_4_method_6_code
abbrev cX2_isCard : ByteArray := prog_4_method_4_code
abbrev cX11_reply : ByteArray := prog_1_method_26_code
abbrev cX11_isMuchFor : ByteArray := prog_1_method_57_code
abbrev cX4_best : ByteArray := prog_6_method_7_code
abbrev cX4_gatherCourses : ByteArray := prog_6_method_9_code
abbrev cX4_courseOf : ByteArray := prog_6_method_10_code
abbrev cX5_find : ByteArray := prog_7_method_5_code
abbrev cX4_sumTried : ByteArray := prog_6_method_11_code
abbrev cX4_isTried : ByteArray := prog_6_method_12_code
abbrev cX4_tryNext : ByteArray := prog_6_method_13_code
abbrev cJ9_min_7cf53 : ByteArray := prog_18_method_69_code
abbrev cX11_better : ByteArray := prog_1_method_27_code
abbrev cX11_untold : ByteArray := prog_1_method_58_code
abbrev cX4_first : ByteArray := prog_6_method_8_code
abbrev cX11_settled : ByteArray := prog_1_method_28_code
abbrev cX11_count : ByteArray := prog_1_method_46_code
abbrev cX12_ways : ByteArray := prog_14_method_2_code
abbrev cX12_goes : ByteArray := prog_14_method_3_code
abbrev cL_has : ByteArray := method_3_code
abbrev cX12_view : ByteArray := prog_14_method_6_code
abbrev cX12_seen : ByteArray := prog_14_method_5_code
abbrev cL_cell : ByteArray := method_2_code
abbrev cL_made : ByteArray := method_6_code
abbrev cX12_init : ByteArray := prog_14_method_1_code
abbrev cX11_pack : ByteArray := prog_1_method_2_code
abbrev cX1_open : ByteArray := prog_3_method_2_code
abbrev cX8_open : ByteArray := prog_10_method_2_code
abbrev cX11_worth : ByteArray := prog_1_method_3_code
abbrev cX12_left : ByteArray := prog_14_method_4_code
abbrev cX11_stage : ByteArray := prog_1_method_4_code
abbrev cX11_isStageToBe : ByteArray := prog_1_method_52_code
abbrev cX8_hasRoom : ByteArray := prog_10_method_5_code
abbrev cX8_hasCardFor : ByteArray := prog_10_method_6_code
abbrev cX8_cardsLeft : ByteArray := prog_10_method_7_code
abbrev cX8_isCardAt : ByteArray := prog_10_method_8_code
abbrev cX7_init : ByteArray := prog_9_method_1_code
abbrev cX8_put : ByteArray := prog_10_method_11_code
abbrev cX8_branch : ByteArray := prog_10_method_12_code
abbrev cX8_cardsGone : ByteArray := prog_10_method_13_code
abbrev cX8_letSee : ByteArray := prog_10_method_14_code
abbrev cX2_isSecret : ByteArray := prog_4_method_7_code
abbrev cX11_rule : ByteArray := prog_1_method_21_code
abbrev cX10_init : ByteArray := prog_12_method_1_code
abbrev cX0_init : ByteArray := prog_2_method_1_code
abbrev cL_lots : ByteArray := method_7_code
abbrev cX12_sets : ByteArray := prog_14_method_11_code
abbrev cX12_chooses : ByteArray := prog_14_method_7_code
abbrev cX12_tell : ByteArray := prog_14_method_9_code
abbrev cX11_lot : ByteArray := prog_1_method_19_code
abbrev cL_same : ByteArray := method_10_code
abbrev cL_law : ByteArray := code
def ax_mt0 : List (ByteArray × Nat × Option FieldType × Nat × Bool) := [(cX11_init, 1, none, 10, false), (cX1_init, 1, none, 1, false), (cX8_init, 1, none, 7, false), (cX3_init, 1, none, 2, false), (cX5_init, 1, none, 4, false), (cX4_init, 1, none, 3, false), (cX9_init, 1, none, 8, false), (cX6_init, 1, none, 5, false), (cX11_seen, 3, some .int, 10, false), (cX11_isAhead, 3, some .boolean, 10, false), (cX11_isPoint, 2, some .boolean, 10, false), (cX11_ways, 2, some .int, 10, false), (cX11_happened, 3, some .int, 10, false), (cX11_isWay, 2, some .boolean, 10, false), (cX8_go, 5, none, 7, false), (cJ9_max_7cf53, 2, some .int, 14, true), (cX11_view, 4, some .int, 10, false), (cX11_isPlayer, 1, some .boolean, 10, true), (cX8_sight, 6, some .int, 7, false), (cX11_worlds, 4, some .int, 10, false), (cX8_alike, 6, some .int, 7, false), (cX8_sightOf, 4, some .int, 7, false), (cX11_world, 6, some .int, 10, false), (cX8_alikeAt, 7, some .int, 7, false), (cX11_odds, 8, some .long, 10, false), (cX11_isPart, 1, some .boolean, 10, true), (cX4_follow, 5, none, 3, false), (cX4_step, 11, none, 3, false), (cX8_at, 2, some (.object "VeiledTable$Stage"), 7, false), (cX2_isChoice, 1, some .boolean, 12, false), (cX1_choice, 6, some .int, 1, false), (cX3_find, 6, some .int, 2, false), (cX3_key, 3, some .int, 2, true), (cX4_alike, 7, some .int, 3, false), (cX4_alikeWith, 9, some .int, 3, false), (cX11_share, 7, some .long, 10, true), (cJ9_abs_067f4, 2, some .long, 14, true), (cX11_divisor, 11, some .long, 10, true), (cJ9_max_f86c9, 4, some .long, 14, true), (cX11_sets, 2, some .int, 10, false)]
def ax_mt1 : List (ByteArray × Nat × Option FieldType × Nat × Bool) := [(cX5_gather, 4, none, 4, false), (cX8_picks, 4, some .boolean, 7, false), (cX5_gatherAt, 6, none, 4, false), (cX5_sort, 6, none, 4, false), (cX11_setOf, 4, some .int, 10, false), (cX11_plan, 6, some .int, 10, false), (cX3_tell, 7, some .boolean, 2, false), (cX11_pay, 5, some .long, 10, false), (cX1_won, 4, some .int, 1, false), (cX1_due, 4, some .int, 1, false), (cX1_testAt, 2, some (.object "VeiledTable$Test"), 1, false), (cX1_amountAt, 2, some (.object "VeiledTable$Amount"), 1, false), (cX10_isSo, 5, some .boolean, 9, false), (cX10_isSoByItself, 4, some .boolean, 9, false), (cX0_comesTo, 5, some .int, 0, false), (cX0_byItself, 3, some .int, 0, false), (cX11_isProduct, 4, some .boolean, 10, true), (cX11_mean, 13, some .long, 10, false), (cX4_together, 5, some .int, 3, false), (cX8_chances, 4, some .int, 7, false), (cX8_isChanceAt, 3, some .boolean, 7, false), (cX2_isChance, 1, some .boolean, 12, false), (cX2_isCard, 1, some .boolean, 12, false), (cX11_reply, 3, some .long, 10, false), (cX11_isMuchFor, 4, some .boolean, 10, false), (cX4_best, 8, some .int, 3, false), (cX4_gatherCourses, 8, none, 3, false), (cX4_courseOf, 8, some .long, 3, false), (cX5_find, 6, some .int, 4, false), (cX4_sumTried, 3, some .int, 3, false), (cX4_isTried, 7, some .boolean, 3, false), (cX4_tryNext, 4, some .boolean, 3, false), (cJ9_min_7cf53, 2, some .int, 14, true), (cX11_better, 5, some .int, 10, false), (cX11_untold, 4, some .int, 10, false), (cX4_first, 2, some .int, 3, false), (cX11_settled, 2, some .int, 10, false), (cX11_count, 2, some .long, 10, false), (cX12_ways, 6, some (.array (.array .int)), 11, false), (cX12_goes, 10, some .int, 11, false)]
def ax_mt2 : List (ByteArray × Nat × Option FieldType × Nat × Bool) := [(cL_has, 2, some .boolean, 18, true), (cX12_view, 7, some .int, 11, false), (cX12_seen, 5, some (.array .int), 11, false), (cL_cell, 2, some .int, 18, true), (cL_made, 11, some (.object "VeiledTableLaw$Own"), 18, true), (cX12_init, 1, none, 11, false), (cX11_pack, 3, some .int, 10, false), (cX1_open, 2, none, 1, false), (cX8_open, 3, none, 7, false), (cX11_worth, 4, some .int, 10, false), (cX12_left, 3, some .int, 11, false), (cX11_stage, 4, some .int, 10, false), (cX11_isStageToBe, 5, some .boolean, 10, true), (cX8_hasRoom, 1, some .boolean, 7, false), (cX8_hasCardFor, 2, some .boolean, 7, false), (cX8_cardsLeft, 3, some .int, 7, false), (cX8_isCardAt, 3, some .boolean, 7, false), (cX7_init, 4, none, 6, false), (cX8_put, 3, none, 7, false), (cX8_branch, 8, none, 7, false), (cX8_cardsGone, 5, some .int, 7, false), (cX8_letSee, 6, none, 7, false), (cX2_isSecret, 1, some .boolean, 12, false), (cX11_rule, 8, some .int, 10, false), (cX10_init, 5, none, 9, false), (cX0_init, 6, none, 0, false), (cL_lots, 11, some .boolean, 18, true), (cX12_sets, 13, some (.array (.array .int)), 11, false), (cX12_chooses, 3, some .boolean, 11, false), (cX12_tell, 6, some .boolean, 11, false), (cX11_lot, 7, some .int, 10, false), (cL_same, 4, some .boolean, 18, true), (cL_law, 15, some .boolean, 18, true)]
def ax_mt : List (ByteArray × Nat × Option FieldType × Nat × Bool) := ax_mt0 ++ (ax_mt1 ++ (ax_mt2))
def ax_yt0 : List MethodName := [⟨"VeiledTable", "<init>", "()V"⟩, ⟨"VeiledTable$Game", "<init>", "()V"⟩, ⟨"VeiledTable$Table", "<init>", "()V"⟩, ⟨"VeiledTable$Plans", "<init>", "()V"⟩, ⟨"VeiledTable$Sets", "<init>", "()V"⟩, ⟨"VeiledTable$Play", "<init>", "()V"⟩, ⟨"VeiledTable$Tape", "<init>", "()V"⟩, ⟨"VeiledTable$Sheet", "<init>", "()V"⟩, ⟨"VeiledTable", "seen", "(II)I"⟩, ⟨"VeiledTable", "isAhead", "(II)Z"⟩, ⟨"VeiledTable", "isPoint", "(I)Z"⟩, ⟨"VeiledTable", "ways", "(I)I"⟩, ⟨"VeiledTable", "happened", "(II)I"⟩, ⟨"VeiledTable", "isWay", "(I)Z"⟩, ⟨"VeiledTable$Table", "go", "(II)V"⟩, ⟨"java/lang/Math", "max", "(II)I"⟩, ⟨"VeiledTable", "view", "(III)I"⟩, ⟨"VeiledTable", "isPlayer", "(I)Z"⟩, ⟨"VeiledTable$Table", "sight", "(II)I"⟩, ⟨"VeiledTable", "worlds", "(III)I"⟩, ⟨"VeiledTable$Table", "alike", "(III)I"⟩, ⟨"VeiledTable$Table", "sightOf", "(III)I"⟩, ⟨"VeiledTable", "world", "(IIII)I"⟩, ⟨"VeiledTable$Table", "alikeAt", "(IIII)I"⟩, ⟨"VeiledTable", "odds", "(IIIIII)J"⟩, ⟨"VeiledTable", "isPart", "(I)Z"⟩, ⟨"VeiledTable$Play", "follow", "(LVeiledTable$Game;II)V"⟩, ⟨"VeiledTable$Play", "step", "(LVeiledTable$Game;II)V"⟩, ⟨"VeiledTable$Table", "at", "(I)LVeiledTable$Stage;"⟩, ⟨"VeiledTable$Kind", "isChoice", "()Z"⟩, ⟨"VeiledTable$Game", "choice", "(III)I"⟩, ⟨"VeiledTable$Plans", "find", "(III)I"⟩, ⟨"VeiledTable$Plans", "key", "(III)I"⟩, ⟨"VeiledTable$Play", "alike", "(LVeiledTable$Table;III)I"⟩, ⟨"VeiledTable$Play", "alikeWith", "(LVeiledTable$Table;IIIII)I"⟩, ⟨"VeiledTable", "share", "(JJI)J"⟩, ⟨"java/lang/Math", "abs", "(J)J"⟩, ⟨"VeiledTable", "divisor", "(JJ)J"⟩, ⟨"java/lang/Math", "max", "(JJ)J"⟩, ⟨"VeiledTable", "sets", "(I)I"⟩]
def ax_yt1 : List MethodName := [⟨"VeiledTable$Sets", "gather", "(LVeiledTable$Table;I)V"⟩, ⟨"VeiledTable$Table", "picks", "(II)Z"⟩, ⟨"VeiledTable$Sets", "gatherAt", "(LVeiledTable$Table;II)V"⟩, ⟨"VeiledTable$Sets", "sort", "(I)V"⟩, ⟨"VeiledTable", "setOf", "(III)I"⟩, ⟨"VeiledTable", "plan", "(IIII)I"⟩, ⟨"VeiledTable$Plans", "tell", "(IIII)Z"⟩, ⟨"VeiledTable", "pay", "(II)J"⟩, ⟨"VeiledTable$Game", "won", "(I)I"⟩, ⟨"VeiledTable$Game", "due", "(I)I"⟩, ⟨"VeiledTable$Game", "testAt", "(I)LVeiledTable$Test;"⟩, ⟨"VeiledTable$Game", "amountAt", "(I)LVeiledTable$Amount;"⟩, ⟨"VeiledTable$Test", "isSo", "(LVeiledTable$Table;)Z"⟩, ⟨"VeiledTable$Test", "isSoByItself", "(LVeiledTable$Table;)Z"⟩, ⟨"VeiledTable$Amount", "comesTo", "(LVeiledTable$Table;)I"⟩, ⟨"VeiledTable$Amount", "byItself", "(LVeiledTable$Table;)I"⟩, ⟨"VeiledTable", "isProduct", "(JJ)Z"⟩, ⟨"VeiledTable", "mean", "(II)J"⟩, ⟨"VeiledTable$Play", "together", "(LVeiledTable$Game;I)I"⟩, ⟨"VeiledTable$Table", "chances", "(I)I"⟩, ⟨"VeiledTable$Table", "isChanceAt", "(I)Z"⟩, ⟨"VeiledTable$Kind", "isChance", "()Z"⟩, ⟨"VeiledTable$Kind", "isCard", "()Z"⟩, ⟨"VeiledTable", "reply", "(II)J"⟩, ⟨"VeiledTable", "isMuchFor", "(I)Z"⟩, ⟨"VeiledTable$Play", "best", "(LVeiledTable$Game;LVeiledTable$Sets;I)I"⟩, ⟨"VeiledTable$Play", "gatherCourses", "(LVeiledTable$Game;LVeiledTable$Sets;I)V"⟩, ⟨"VeiledTable$Play", "courseOf", "(LVeiledTable$Table;LVeiledTable$Sets;I)J"⟩, ⟨"VeiledTable$Sets", "find", "(II)I"⟩, ⟨"VeiledTable$Play", "sumTried", "()I"⟩, ⟨"VeiledTable$Play", "isTried", "(J)Z"⟩, ⟨"VeiledTable$Play", "tryNext", "(LVeiledTable$Table;LVeiledTable$Sets;)Z"⟩, ⟨"java/lang/Math", "min", "(II)I"⟩, ⟨"VeiledTable", "better", "(I)I"⟩, ⟨"VeiledTable", "untold", "(I)I"⟩, ⟨"VeiledTable$Play", "first", "(I)I"⟩, ⟨"VeiledTable", "settled", "()I"⟩, ⟨"VeiledTable", "count", "(I)J"⟩, ⟨"VeiledTableLaw$Own", "ways", "(I)[[I"⟩, ⟨"VeiledTableLaw$Own", "goes", "([[I[IIIII)I"⟩]
def ax_yt2 : List MethodName := [⟨"VeiledTableLaw", "has", "(II)Z"⟩, ⟨"VeiledTableLaw$Own", "view", "(I[II)I"⟩, ⟨"VeiledTableLaw$Own", "seen", "(I)[I"⟩, ⟨"VeiledTableLaw", "cell", "([II)I"⟩, ⟨"VeiledTableLaw", "made", "(LVeiledTable;[II)LVeiledTableLaw$Own;"⟩, ⟨"VeiledTableLaw$Own", "<init>", "()V"⟩, ⟨"VeiledTable", "pack", "(I)I"⟩, ⟨"VeiledTable$Game", "open", "(I)V"⟩, ⟨"VeiledTable$Table", "open", "(I)V"⟩, ⟨"VeiledTable", "worth", "(II)I"⟩, ⟨"VeiledTableLaw$Own", "left", "()I"⟩, ⟨"VeiledTable", "stage", "(III)I"⟩, ⟨"VeiledTable", "isStageToBe", "(III)Z"⟩, ⟨"VeiledTable$Table", "hasRoom", "()Z"⟩, ⟨"VeiledTable$Table", "hasCardFor", "(LVeiledTable$Kind;)Z"⟩, ⟨"VeiledTable$Table", "cardsLeft", "()I"⟩, ⟨"VeiledTable$Table", "isCardAt", "(I)Z"⟩, ⟨"VeiledTable$Stage", "<init>", "(LVeiledTable$Kind;II)V"⟩, ⟨"VeiledTable$Table", "put", "(LVeiledTable$Stage;)V"⟩, ⟨"VeiledTable$Table", "branch", "(LVeiledTable$Kind;I)V"⟩, ⟨"VeiledTable$Table", "cardsGone", "(II)I"⟩, ⟨"VeiledTable$Table", "letSee", "(LVeiledTable$Stage;I)V"⟩, ⟨"VeiledTable$Kind", "isSecret", "()Z"⟩, ⟨"VeiledTable", "rule", "(IIIIIII)I"⟩, ⟨"VeiledTable$Test", "<init>", "(IIILVeiledTable$Test;)V"⟩, ⟨"VeiledTable$Amount", "<init>", "(IIIILVeiledTable$Amount;)V"⟩, ⟨"VeiledTableLaw", "lots", "(LVeiledTable;LVeiledTableLaw$Own;I)Z"⟩, ⟨"VeiledTableLaw$Own", "sets", "(I)[[I"⟩, ⟨"VeiledTableLaw$Own", "chooses", "(II)Z"⟩, ⟨"VeiledTableLaw$Own", "tell", "(IIII)Z"⟩, ⟨"VeiledTable", "lot", "(I)I"⟩, ⟨"VeiledTableLaw", "same", "([I[II)Z"⟩, ⟨"VeiledTableLaw", "law", "([I)Z"⟩]
def ax_yt : List MethodName := ax_yt0 ++ (ax_yt1 ++ (ax_yt2))
def ax_m0 : ByteArray × Nat × Option FieldType × Nat × Bool := (⟨#[]⟩, 0, none, 19, false)
def ax_mi (m : Nat) : ByteArray × Nat × Option FieldType × Nat × Bool := ax_mt.getD m ax_m0
def ax_code (m : Nat) : ByteArray := (ax_mi m).1
def ax_L (m : Nat) : Nat := (ax_mi m).2.1
def ax_ret (m : Nat) : Option FieldType := (ax_mi m).2.2.1
def ax_cp : List Nat := [41, 49, 55, 112, 168, 199, 234, 261, 317, 321, 325, 329, 333, 337, 341, 344, 348, 351, 355, 359, 363, 367, 373, 377, 381, 384, 389, 393, 397, 401, 410, 415, 418, 422, 427, 430, 433, 436, 439, 443, 447, 451, 457, 462, 466, 471, 476, 480, 484, 488, 492, 496, 500, 505, 509, 514, 517, 524, 528, 535, 539, 543, 547, 559, 563, 567, 571, 576, 581, 585, 589, 594, 597, 601, 605, 610, 614, 618, 622, 627, 636, 640, 644, 647, 652, 657, 704, 708, 712, 716, 720, 724, 727, 733, 737, 742, 746, 750, 771, 777, 781, 785, 793, 798, 803, 821, 841, 845, 849, 856, 860, 865, 0]
def ax_own (m : Nat) : Nat := (ax_mi m).2.2.2.1
def ax_stt (m : Nat) : Bool := (ax_mi m).2.2.2.2
def ax_y (m : Nat) : MethodName := ax_yt.getD m ⟨"", "", ""⟩
def ax_law : Nat := 112
/-- the class and the place of the field that a link names: own class, index, class, place -/
def ax_fldT : List ((Nat × Nat) × (Nat × Nat)) := [((7, 9), (7, 0)), ((10, 81), (7, 0)), ((0, 41), (7, 0)), ((7, 15), (7, 1)), ((10, 91), (7, 1)), ((0, 44), (7, 1)), ((7, 21), (7, 2)), ((7, 25), (7, 3)), ((4, 31), (7, 3)), ((9, 29), (7, 3)), ((0, 32), (7, 3)), ((10, 117), (7, 3)), ((3, 85), (7, 3)), ((7, 28), (7, 4)), ((3, 57), (7, 4)), ((10, 231), (7, 4)), ((7, 31), (7, 5)), ((4, 44), (7, 5)), ((10, 151), (7, 5)), ((7, 36), (7, 6)), ((10, 139), (7, 6)), ((7, 39), (7, 7)), ((7, 42), (7, 8)), ((0, 37), (7, 8)), ((9, 34), (7, 8)), ((3, 82), (7, 8)), ((10, 161), (7, 8)), ((2, 9), (2, 0)), ((2, 15), (2, 1)), ((2, 18), (2, 2)), ((1, 56), (2, 2)), ((10, 250), (2, 2)), ((1, 12), (1, 0)), ((10, 77), (1, 0)), ((3, 45), (1, 0)), ((1, 21), (1, 1)), ((10, 234), (1, 1)), ((1, 27), (1, 2)), ((10, 256), (1, 2)), ((1, 33), (1, 3)), ((10, 267), (1, 3)), ((1, 37), (1, 4)), ((10, 277), (1, 4)), ((1, 41), (1, 5)), ((10, 280), (1, 5)), ((1, 44), (1, 6)), ((10, 253), (1, 6)), ((1, 48), (1, 7)), ((10, 289), (1, 7)), ((4, 9), (4, 0)), ((3, 140), (4, 0)), ((10, 212), (4, 0)), ((4, 15), (4, 1)), ((10, 215), (4, 1)), ((4, 18), (4, 2)), ((10, 218), (4, 2)), ((4, 21), (4, 3)), ((3, 134), (4, 3)), ((10, 209), (4, 3)), ((4, 25), (4, 4)), ((4, 28), (4, 5)), ((3, 9), (3, 0)), ((3, 15), (3, 1)), ((3, 18), (3, 2)), ((3, 22), (3, 3)), ((3, 26), (3, 4)), ((3, 29), (3, 5)), ((3, 32), (3, 6)), ((3, 35), (3, 7)), ((3, 38), (3, 8)), ((8, 9), (8, 0)), ((8, 15), (8, 1)), ((8, 19), (8, 2)), ((8, 22), (8, 3)), ((8, 25), (8, 4)), ((8, 28), (8, 5)), ((5, 9), (5, 0)), ((5, 15), (5, 1)), ((5, 18), (5, 2)), ((10, 10), (10, 0)), ((10, 16), (10, 1)), ((10, 19), (10, 2)), ((10, 26), (10, 3)), ((10, 33), (10, 4)), ((10, 40), (10, 5)), ((10, 46), (10, 6)), ((10, 50), (10, 7)), ((10, 57), (10, 8)), ((10, 61), (10, 9)), ((10, 64), (10, 10)), ((10, 69), (10, 11)), ((10, 73), (10, 12)), ((11, 7), (11, 0)), ((18, 27), (11, 0)), ((11, 53), (11, 1)), ((18, 52), (11, 1)), ((18, 74), (11, 2)), ((11, 13), (11, 3)), ((18, 37), (11, 3)), ((11, 17), (11, 4)), ((18, 55), (11, 4)), ((11, 20), (11, 5)), ((18, 58), (11, 5)), ((11, 23), (11, 6)), ((18, 61), (11, 6)), ((11, 28), (11, 7)), ((18, 71), (11, 7)), ((11, 32), (11, 8)), ((11, 60), (11, 9)), ((11, 35), (11, 10)), ((6, 7), (6, 0)), ((3, 60), (6, 0)), ((7, 71), (6, 0)), ((6, 13), (6, 1)), ((3, 72), (6, 1)), ((7, 81), (6, 1)), ((6, 17), (6, 2)), ((1, 74), (6, 2)), ((7, 91), (6, 2)), ((9, 9), (9, 0)), ((9, 15), (9, 1)), ((9, 18), (9, 2)), ((9, 21), (9, 3)), ((0, 9), (0, 0)), ((0, 15), (0, 1)), ((0, 18), (0, 2)), ((0, 21), (0, 3)), ((0, 24), (0, 4)), ((10, 372), (12, 1)), ((10, 375), (12, 2))]
def ax_fld (o i : Nat) : Option (Nat × Nat) := ax_fldT.lookup (o, i)
/-- of each class' fields the sort: 0 int, 1 long, 2 a reference, 3 boolean; and whether it is final -/
def ax_fcL : List (List (Nat × Bool)) := [[(0, true), (0, true), (0, true), (0, true), (2, true)], [(2, true), (2, true), (2, true), (2, true), (2, true), (2, true), (0, false), (1, false)], [(2, true), (2, true), (0, false)], [(2, false), (2, false), (0, false), (2, true), (2, true), (0, false), (0, false), (2, true), (2, true)], [(2, true), (2, true), (2, true), (0, false), (2, true), (2, true)], [(0, false), (0, false), (2, true)], [(2, true), (0, true), (0, true)], [(0, false), (2, true), (2, true), (0, false), (2, true), (2, true), (2, true), (2, true), (2, true)], [(2, true), (0, false), (0, false), (0, false), (0, false), (0, false)], [(0, true), (0, true), (0, true), (2, true)], [(2, true), (2, true), (3, false), (2, true), (2, true), (2, true), (2, true), (2, true), (2, true), (2, true), (2, true), (2, true), (2, true)], [(0, false), (0, false), (0, false), (2, true), (2, true), (2, true), (2, true), (2, true), (2, true), (0, false), (1, false)], [(0, true), (3, true), (3, true)], []]
def ax_fT (c k : Nat) : String × String × String × Bool := if c < 12 then (ax_cl.getD c ("", fun _ => ("", "", "", false), 0)).2.1 k else (match k with | 0 => ("VeiledTable$Kind", "number", "I", true) | 1 => ("VeiledTable$Kind", "hasPlayer", "Z", true) | _ => ("VeiledTable$Kind", "hasNumber", "Z", true))
def ax_fc (c j : Nat) : Nat := ((ax_fcL.getD c []).getD j (0, false)).1
def ax_ff (c j : Nat) : Bool := ((ax_fcL.getD c []).getD j (0, false)).2
def ax_nf (c : Nat) : Nat := (ax_fcL.getD c []).length
/-- static cells: class (20 int[], 21 long[], 24 int[][], 30 + c an array of class c) and how long -/
def ax_styL : List (Nat × Nat) := [(10, 13), (1, 8), (7, 9), (20, 5), (36, 6), (20, 6), (20, 7), (24, 7), (20, 6), (20, 6), (20, 6), (20, 6), (20, 6), (20, 6), (20, 6), (24, 6), (20, 1620), (20, 1620), (20, 1620), (20, 1620), (20, 1620), (20, 1620), (20, 6), (2, 3), (20, 40), (20, 40), (39, 8), (30, 8), (20, 8), (20, 8), (1, 8), (7, 9), (20, 5), (36, 6), (20, 6), (20, 7), (24, 7), (20, 6), (20, 6), (20, 6), (20, 6), (20, 6), (20, 6), (20, 6), (24, 6), (20, 1620), (20, 1620), (20, 1620), (20, 1620), (20, 1620), (20, 1620), (20, 6), (2, 3), (20, 40), (20, 40), (39, 8), (30, 8), (20, 8), (20, 8), (4, 6), (20, 806), (20, 806), (20, 806), (20, 1620), (20, 806), (3, 9), (20, 1620), (20, 1620), (21, 1620), (20, 1620), (20, 63), (20, 9), (8, 6), (20, 120), (36, 12), (20, 2), (35, 4), (5, 3), (20, 40), (5, 3), (20, 40), (5, 3), (20, 40), (5, 3), (20, 40), (20, 4), (36, 4), (30, 4), (21, 4), (11, 11), (20, 5), (20, 6), (20, 6), (20, 6), (24, 8), (20, 7), (20, 7), (20, 7), (20, 7), (20, 7), (20, 7), (20, 7), (20, 7), (24, 40)]
/-- what the final references of static cells hold, once all is made -/
def ax_cfL : List (List (Option Nat)) := [[some 65, some 94, none, some 123, some 129, some 136, some 138, some 139, some 140, some 149, some 150, some 151, some 152], [some 66, some 87, some 90, some 91, some 92, some 93, none, none], [none, some 67, some 68, none, some 69, some 70, some 71, some 79, some 86], [], [], [], [], [some 72, some 73, some 74, some 75, some 76, some 77, some 78], [], [], [], [], [], [], [], [some 80, some 81, some 82, some 83, some 84, some 85], [], [], [], [], [], [], [], [some 88, some 89, none], [], [], [], [], [], [], [some 95, some 116, some 119, some 120, some 121, some 122, none, none], [none, some 96, some 97, none, some 98, some 99, some 100, some 108, some 115], [], [], [], [], [some 101, some 102, some 103, some 104, some 105, some 106, some 107], [], [], [], [], [], [], [], [some 109, some 110, some 111, some 112, some 113, some 114], [], [], [], [], [], [], [], [some 117, some 118, none], [], [], [], [], [], [], [some 124, some 125, some 126, none, some 127, some 128], [], [], [], [], [], [none, none, none, some 132, some 133, none, none, some 134, some 135], [], [], [], [], [], [], [some 137, none, none, none, none, none], [], [], [], [some 141, some 143, some 145, some 147], [none, none, some 142], [], [none, none, some 144], [], [none, none, some 146], [], [none, none, some 148], [], [], [], [], [], [none, none, none, some 154, some 155, some 156, some 157, some 158, some 167, none, none], [], [], [], [], [], [], [], [], [], [], [], [], [], []]
/-- kinds, KINDS, the formatter, texts, their bytes -/
def ax_ctyL : List (Nat × Nat) := [(12, 3), (12, 3), (12, 3), (12, 3), (12, 3), (12, 3), (12, 3), (12, 3), (42, 8)]
def ax_ccL : List (List Value) := [[.int 0, .int 1, .int 0], [.int 1, .int 0, .int 0], [.int 2, .int 1, .int 1], [.int 3, .int 1, .int 1], [.int 4, .int 1, .int 0], [.int 5, .int 1, .int 0], [.int 6, .int 0, .int 1], [.int 7, .int 1, .int 1], [.ref 0, .ref 1, .ref 2, .ref 3, .ref 4, .ref 5, .ref 6, .ref 7]]
/-- class named by a link: own class, index, class (an array of it for anewarray) -/
def ax_newT : List ((Nat × Nat) × Nat) := [((18, 32), 10), ((10, 7), 1), ((1, 9), 7), ((7, 19), 6), ((1, 18), 2), ((1, 25), 9), ((1, 31), 0), ((10, 23), 4), ((10, 30), 3), ((10, 37), 8), ((10, 44), 6), ((10, 54), 5), ((10, 67), 0), ((11, 31), 17), ((18, 20), 11), ((10, 251), 9)]
def ax_new (o i : Nat) : Option Nat := ax_newT.lookup (o, i)
def ax_mna (o i : Nat) : Bool := decide ((o, i) ∈ ([(7, 34), (11, 26)] : List (Nat × Nat)))
def ax_stT : List ((Nat × Nat) × Value) := [((12, 10), .ref 2), ((12, 13), .ref 3), ((12, 3), .ref 0), ((12, 7), .ref 1), ((12, 22), .ref 6), ((12, 25), .ref 7), ((10, 102), .ref 8), ((7, 115), .ref 4), ((7, 118), .ref 5)]
def ax_stN : List ((Nat × Nat) × (String × String × String)) := [((12, 10), ("VeiledTable$Kind", "ASK", "LVeiledTable$Kind;")), ((12, 13), ("VeiledTable$Kind", "VEIL", "LVeiledTable$Kind;")), ((12, 3), ("VeiledTable$Kind", "DEAL", "LVeiledTable$Kind;")), ((12, 7), ("VeiledTable$Kind", "TURN", "LVeiledTable$Kind;")), ((12, 22), ("VeiledTable$Kind", "TOSS", "LVeiledTable$Kind;")), ((12, 25), ("VeiledTable$Kind", "PEEK", "LVeiledTable$Kind;")), ((10, 102), ("VeiledTable", "KINDS", "[LVeiledTable$Kind;")), ((7, 115), ("VeiledTable$Kind", "SHOW", "LVeiledTable$Kind;")), ((7, 118), ("VeiledTable$Kind", "FORGET", "LVeiledTable$Kind;"))]
def ax_sta (o i : Nat) : Option Value := ax_stT.lookup (o, i)
def ax_ldT : List ((Nat × Nat) × Value) := [((10, 167), .long (-4611686018427387906)), ((10, 195), .long (-4611686018427387905)), ((10, 387), .long (9223372036854775807)), ((10, 389), .long (-9223372036854775808)), ((10, 297), .long (-4611686018427387909)), ((3, 132), .long (63)), ((18, 7), .int (2147483647)), ((18, 81), .int (1103515245)), ((10, 244), .int (1103515245)), ((18, 160), .long (-4611686018427387905)), ((18, 162), .double (4607182409792818153)), ((18, 164), .double (4607182423303617035)), ((18, 169), .long (-4611686018427387909)), ((18, 174), .double (4517329193108106637))]
def ax_ldc (o i : Nat) : Option Value := ax_ldT.lookup (o, i)
def ax_caT0 : List ((Nat × Nat) × (Nat × Nat × Nat)) := [((18, 107), (2, 0, 0)), ((10, 1), (4, 0, 0)), ((10, 9), (3, 1, 0)), ((1, 3), (4, 0, 0)), ((1, 11), (2, 2, 0)), ((7, 3), (4, 0, 0)), ((1, 20), (3, 3, 0)), ((2, 3), (4, 0, 0)), ((10, 25), (3, 4, 0)), ((4, 3), (4, 0, 0)), ((10, 32), (3, 5, 0)), ((3, 3), (4, 0, 0)), ((10, 39), (3, 6, 0)), ((8, 3), (4, 0, 0)), ((10, 56), (3, 7, 0)), ((5, 3), (4, 0, 0)), ((18, 119), (0, 8, 2)), ((10, 143), (0, 9, 2)), ((10, 147), (0, 10, 1)), ((18, 116), (0, 11, 1)), ((18, 125), (0, 12, 2)), ((10, 154), (0, 13, 1)), ((10, 157), (0, 14, 2)), ((7, 94), (5, 15, 2)), ((18, 128), (0, 16, 3)), ((10, 173), (1, 17, 1)), ((10, 176), (0, 18, 2)), ((18, 131), (0, 19, 3)), ((10, 180), (0, 20, 3)), ((7, 127), (0, 21, 3)), ((7, 111), (0, 14, 2)), ((7, 124), (0, 18, 2)), ((18, 143), (0, 22, 4)), ((10, 184), (0, 23, 4)), ((18, 156), (0, 24, 6)), ((10, 164), (1, 25, 1)), ((10, 188), (0, 26, 3)), ((3, 41), (0, 27, 3)), ((3, 51), (0, 28, 1)), ((3, 66), (0, 29, 0)), ((3, 75), (0, 21, 3)), ((3, 79), (0, 30, 3)), ((1, 66), (0, 28, 1)), ((1, 70), (0, 31, 3)), ((2, 22), (1, 32, 3)), ((10, 192), (0, 33, 4)), ((10, 197), (0, 34, 6)), ((10, 201), (1, 35, 3)), ((10, 381), (7, 36, 1)), ((10, 303), (1, 37, 2)), ((10, 385), (8, 38, 2)), ((18, 151), (0, 39, 1)), ((10, 205), (0, 40, 2)), ((4, 36), (0, 41, 2)), ((7, 67), (0, 28, 1)), ((7, 78), (0, 29, 0)), ((4, 40), (0, 42, 3)), ((4, 47), (0, 21, 3)), ((4, 51), (0, 43, 1)), ((18, 153), (0, 44, 3))]
def ax_caT1 : List ((Nat × Nat) × (Nat × Nat × Nat)) := [((10, 221), (0, 30, 3)), ((18, 182), (0, 45, 4)), ((10, 228), (0, 41, 2)), ((10, 238), (0, 46, 4)), ((18, 134), (0, 47, 2)), ((10, 286), (0, 48, 1)), ((1, 95), (0, 49, 1)), ((1, 79), (0, 50, 1)), ((1, 83), (0, 51, 1)), ((1, 87), (0, 52, 1)), ((9, 25), (0, 53, 1)), ((1, 91), (0, 54, 1)), ((0, 28), (0, 55, 1)), ((10, 293), (1, 56, 2)), ((18, 171), (0, 57, 2)), ((10, 299), (0, 58, 2)), ((3, 88), (0, 26, 3)), ((3, 91), (0, 14, 2)), ((3, 95), (0, 48, 1)), ((10, 169), (0, 59, 1)), ((7, 131), (0, 60, 1)), ((7, 75), (0, 61, 0)), ((12, 62), (0, 62, 0)), ((18, 166), (0, 63, 2)), ((10, 307), (0, 64, 1)), ((10, 310), (0, 65, 3)), ((3, 99), (0, 66, 3)), ((3, 111), (0, 41, 2)), ((3, 115), (0, 67, 3)), ((3, 119), (0, 18, 2)), ((3, 123), (0, 68, 2)), ((3, 103), (0, 69, 0)), ((3, 128), (0, 70, 1)), ((3, 107), (0, 71, 2)), ((3, 135), (6, 72, 2)), ((18, 179), (0, 73, 1)), ((10, 314), (0, 74, 1)), ((10, 378), (0, 31, 3)), ((10, 317), (0, 75, 1)), ((18, 176), (0, 76, 0)), ((18, 96), (0, 77, 1)), ((18, 138), (0, 78, 1)), ((11, 39), (0, 79, 6)), ((11, 43), (9, 0, 0)), ((11, 47), (10, 80, 2)), ((18, 140), (0, 81, 3)), ((11, 56), (0, 82, 1)), ((18, 23), (1, 83, 2)), ((18, 121), (1, 80, 2)), ((18, 108), (1, 84, 3)), ((18, 22), (3, 85, 0)), ((11, 1), (4, 0, 0)), ((18, 31), (0, 86, 1)), ((10, 87), (0, 87, 1)), ((1, 52), (0, 88, 1)), ((18, 41), (0, 89, 2)), ((18, 44), (0, 90, 0)), ((18, 48), (0, 91, 3)), ((10, 94), (1, 92, 3)), ((10, 98), (0, 93, 0))]
def ax_caT2 : List ((Nat × Nat) × (Nat × Nat × Nat)) := [((10, 106), (0, 94, 1)), ((7, 53), (0, 62, 0)), ((7, 59), (0, 95, 0)), ((7, 63), (0, 96, 1)), ((10, 110), (2, 97, 3)), ((6, 1), (4, 0, 0)), ((10, 113), (0, 98, 1)), ((7, 84), (0, 93, 0)), ((7, 87), (0, 94, 1)), ((7, 100), (0, 99, 2)), ((7, 108), (0, 100, 2)), ((7, 104), (0, 101, 2)), ((7, 121), (0, 102, 0)), ((18, 64), (5, 15, 2)), ((18, 67), (0, 103, 7)), ((10, 260), (0, 50, 1)), ((10, 264), (2, 104, 4)), ((9, 3), (4, 0, 0)), ((10, 270), (0, 51, 1)), ((10, 274), (2, 105, 5)), ((0, 3), (4, 0, 0)), ((18, 112), (1, 106, 3)), ((18, 77), (0, 107, 1)), ((11, 63), (0, 108, 2)), ((11, 74), (0, 78, 1)), ((11, 66), (0, 81, 3)), ((18, 82), (0, 109, 4)), ((18, 86), (0, 110, 1)), ((10, 245), (5, 15, 2)), ((18, 147), (1, 111, 3))]
/-- calls: own class, index; how (0 virtual, 1 static, 2 constructor, 3 constructor of a nest mate, 4 Object's), which method, how many arguments -/
def ax_caT : List ((Nat × Nat) × (Nat × Nat × Nat)) := ax_caT0 ++ (ax_caT1 ++ (ax_caT2))
def ax_cal (o i : Nat) : Option (Nat × Nat × Nat) := ax_caT.lookup (o, i)
