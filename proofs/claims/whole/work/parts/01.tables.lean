-- ===== PART A: goes FIRST, ahead of the names: the tables' words, and 'selects' of the private methods out of them =====
/-- a private method of a class that the tables say can be made, by its rows of tables_1 -/
def lw_okq (q : MethodName × Nat) : Prop := (q.1.cls ≠ "java/lang/invoke/MethodHandle" ∧ q.1.cls ≠ "java/lang/invoke/VarHandle") ∧ Cond.instantiable q.1.cls q.2 ∈ tables_1 ∧ Cond.privateMethod q.1 ∈ tables_1 ∧ Cond.instanceMethod q.1 ∈ tables_1
theorem lw_p0 : lw_okq (⟨"VeiledTable$Table", "cardsLeft", "()I"⟩, 9) := ⟨⟨by decide +kernel, by decide +kernel⟩, List.mem_of_getElem? (i := 35) (by decide +kernel), List.mem_of_getElem? (i := 347) (by decide +kernel), List.mem_of_getElem? (i := 348) (by decide +kernel)⟩
theorem lw_p1 : lw_okq (⟨"VeiledTable$Table", "isCardAt", "(I)Z"⟩, 9) := ⟨⟨by decide +kernel, by decide +kernel⟩, List.mem_of_getElem? (i := 35) (by decide +kernel), List.mem_of_getElem? (i := 351) (by decide +kernel), List.mem_of_getElem? (i := 352) (by decide +kernel)⟩
theorem lw_p2 : lw_okq (⟨"VeiledTable$Table", "branch", "(LVeiledTable$Kind;I)V"⟩, 9) := ⟨⟨by decide +kernel, by decide +kernel⟩, List.mem_of_getElem? (i := 35) (by decide +kernel), List.mem_of_getElem? (i := 392) (by decide +kernel), List.mem_of_getElem? (i := 393) (by decide +kernel)⟩
theorem lw_p3 : lw_okq (⟨"VeiledTable$Table", "cardsGone", "(II)I"⟩, 9) := ⟨⟨by decide +kernel, by decide +kernel⟩, List.mem_of_getElem? (i := 35) (by decide +kernel), List.mem_of_getElem? (i := 396) (by decide +kernel), List.mem_of_getElem? (i := 397) (by decide +kernel)⟩
theorem lw_p4 : lw_okq (⟨"VeiledTable$Table", "letSee", "(LVeiledTable$Stage;I)V"⟩, 9) := ⟨⟨by decide +kernel, by decide +kernel⟩, List.mem_of_getElem? (i := 35) (by decide +kernel), List.mem_of_getElem? (i := 404) (by decide +kernel), List.mem_of_getElem? (i := 405) (by decide +kernel)⟩
theorem lw_p5 : lw_okq (⟨"VeiledTable", "isAhead", "(II)Z"⟩, 13) := ⟨⟨by decide +kernel, by decide +kernel⟩, List.mem_of_getElem? (i := 21) (by decide +kernel), List.mem_of_getElem? (i := 429) (by decide +kernel), List.mem_of_getElem? (i := 430) (by decide +kernel)⟩
theorem lw_p6 : lw_okq (⟨"VeiledTable", "isPoint", "(I)Z"⟩, 13) := ⟨⟨by decide +kernel, by decide +kernel⟩, List.mem_of_getElem? (i := 21) (by decide +kernel), List.mem_of_getElem? (i := 433) (by decide +kernel), List.mem_of_getElem? (i := 434) (by decide +kernel)⟩
theorem lw_p7 : lw_okq (⟨"VeiledTable", "isWay", "(I)Z"⟩, 13) := ⟨⟨by decide +kernel, by decide +kernel⟩, List.mem_of_getElem? (i := 21) (by decide +kernel), List.mem_of_getElem? (i := 449) (by decide +kernel), List.mem_of_getElem? (i := 450) (by decide +kernel)⟩
theorem lw_p8 : lw_okq (⟨"VeiledTable$Table", "isChanceAt", "(I)Z"⟩, 9) := ⟨⟨by decide +kernel, by decide +kernel⟩, List.mem_of_getElem? (i := 35) (by decide +kernel), List.mem_of_getElem? (i := 466) (by decide +kernel), List.mem_of_getElem? (i := 467) (by decide +kernel)⟩
theorem lw_p9 : lw_okq (⟨"VeiledTable$Play", "step", "(LVeiledTable$Game;II)V"⟩, 9) := ⟨⟨by decide +kernel, by decide +kernel⟩, List.mem_of_getElem? (i := 180) (by decide +kernel), List.mem_of_getElem? (i := 514) (by decide +kernel), List.mem_of_getElem? (i := 515) (by decide +kernel)⟩
theorem lw_p10 : lw_okq (⟨"VeiledTable$Sets", "gatherAt", "(LVeiledTable$Table;II)V"⟩, 6) := ⟨⟨by decide +kernel, by decide +kernel⟩, List.mem_of_getElem? (i := 149) (by decide +kernel), List.mem_of_getElem? (i := 572) (by decide +kernel), List.mem_of_getElem? (i := 573) (by decide +kernel)⟩
theorem lw_p11 : lw_okq (⟨"VeiledTable$Sets", "sort", "(I)V"⟩, 6) := ⟨⟨by decide +kernel, by decide +kernel⟩, List.mem_of_getElem? (i := 149) (by decide +kernel), List.mem_of_getElem? (i := 577) (by decide +kernel), List.mem_of_getElem? (i := 578) (by decide +kernel)⟩
theorem lw_p12 : lw_okq (⟨"VeiledTable$Sets", "isRecalled", "(LVeiledTable$Table;III)Z"⟩, 6) := ⟨⟨by decide +kernel, by decide +kernel⟩, List.mem_of_getElem? (i := 149) (by decide +kernel), List.mem_of_getElem? (i := 595) (by decide +kernel), List.mem_of_getElem? (i := 596) (by decide +kernel)⟩
theorem lw_p13 : lw_okq (⟨"VeiledTable$Test", "isSoByItself", "(LVeiledTable$Table;)Z"⟩, 4) := ⟨⟨by decide +kernel, by decide +kernel⟩, List.mem_of_getElem? (i := 627) (by decide +kernel), List.mem_of_getElem? (i := 689) (by decide +kernel), List.mem_of_getElem? (i := 690) (by decide +kernel)⟩
theorem lw_p14 : lw_okq (⟨"VeiledTable$Amount", "byItself", "(LVeiledTable$Table;)I"⟩, 5) := ⟨⟨by decide +kernel, by decide +kernel⟩, List.mem_of_getElem? (i := 649) (by decide +kernel), List.mem_of_getElem? (i := 697) (by decide +kernel), List.mem_of_getElem? (i := 698) (by decide +kernel)⟩
theorem lw_p15 : lw_okq (⟨"VeiledTable", "isMuchFor", "(I)Z"⟩, 13) := ⟨⟨by decide +kernel, by decide +kernel⟩, List.mem_of_getElem? (i := 21) (by decide +kernel), List.mem_of_getElem? (i := 735) (by decide +kernel), List.mem_of_getElem? (i := 736) (by decide +kernel)⟩
def lw_privs_1 : List (MethodName × Nat) := [(⟨"VeiledTable$Table", "cardsLeft", "()I"⟩, 9), (⟨"VeiledTable$Table", "isCardAt", "(I)Z"⟩, 9), (⟨"VeiledTable$Table", "branch", "(LVeiledTable$Kind;I)V"⟩, 9), (⟨"VeiledTable$Table", "cardsGone", "(II)I"⟩, 9), (⟨"VeiledTable$Table", "letSee", "(LVeiledTable$Stage;I)V"⟩, 9), (⟨"VeiledTable", "isAhead", "(II)Z"⟩, 13), (⟨"VeiledTable", "isPoint", "(I)Z"⟩, 13), (⟨"VeiledTable", "isWay", "(I)Z"⟩, 13), (⟨"VeiledTable$Table", "isChanceAt", "(I)Z"⟩, 9), (⟨"VeiledTable$Play", "step", "(LVeiledTable$Game;II)V"⟩, 9), (⟨"VeiledTable$Sets", "gatherAt", "(LVeiledTable$Table;II)V"⟩, 6), (⟨"VeiledTable$Sets", "sort", "(I)V"⟩, 6), (⟨"VeiledTable$Sets", "isRecalled", "(LVeiledTable$Table;III)Z"⟩, 6), (⟨"VeiledTable$Test", "isSoByItself", "(LVeiledTable$Table;)Z"⟩, 4), (⟨"VeiledTable$Amount", "byItself", "(LVeiledTable$Table;)I"⟩, 5), (⟨"VeiledTable", "isMuchFor", "(I)Z"⟩, 13)]
theorem lw_r1 : ∀ q ∈ lw_privs_1, lw_okq q := List.forall_mem_cons.mpr ⟨lw_p0, List.forall_mem_cons.mpr ⟨lw_p1, List.forall_mem_cons.mpr ⟨lw_p2, List.forall_mem_cons.mpr ⟨lw_p3, List.forall_mem_cons.mpr ⟨lw_p4, List.forall_mem_cons.mpr ⟨lw_p5, List.forall_mem_cons.mpr ⟨lw_p6, List.forall_mem_cons.mpr ⟨lw_p7, List.forall_mem_cons.mpr ⟨lw_p8, List.forall_mem_cons.mpr ⟨lw_p9, List.forall_mem_cons.mpr ⟨lw_p10, List.forall_mem_cons.mpr ⟨lw_p11, List.forall_mem_cons.mpr ⟨lw_p12, List.forall_mem_cons.mpr ⟨lw_p13, List.forall_mem_cons.mpr ⟨lw_p14, List.forall_mem_cons.mpr ⟨lw_p15, fun _ h => absurd h List.not_mem_nil⟩⟩⟩⟩⟩⟩⟩⟩⟩⟩⟩⟩⟩⟩⟩⟩
theorem lw_p16 : lw_okq (⟨"VeiledTable$Play", "gatherCourses", "(LVeiledTable$Game;LVeiledTable$Sets;I)V"⟩, 9) := ⟨⟨by decide +kernel, by decide +kernel⟩, List.mem_of_getElem? (i := 180) (by decide +kernel), List.mem_of_getElem? (i := 743) (by decide +kernel), List.mem_of_getElem? (i := 744) (by decide +kernel)⟩
theorem lw_p17 : lw_okq (⟨"VeiledTable$Play", "courseOf", "(LVeiledTable$Table;LVeiledTable$Sets;I)J"⟩, 9) := ⟨⟨by decide +kernel, by decide +kernel⟩, List.mem_of_getElem? (i := 180) (by decide +kernel), List.mem_of_getElem? (i := 748) (by decide +kernel), List.mem_of_getElem? (i := 749) (by decide +kernel)⟩
theorem lw_p18 : lw_okq (⟨"VeiledTable$Play", "sumTried", "()I"⟩, 9) := ⟨⟨by decide +kernel, by decide +kernel⟩, List.mem_of_getElem? (i := 180) (by decide +kernel), List.mem_of_getElem? (i := 754) (by decide +kernel), List.mem_of_getElem? (i := 755) (by decide +kernel)⟩
theorem lw_p19 : lw_okq (⟨"VeiledTable$Play", "isTried", "(J)Z"⟩, 9) := ⟨⟨by decide +kernel, by decide +kernel⟩, List.mem_of_getElem? (i := 180) (by decide +kernel), List.mem_of_getElem? (i := 758) (by decide +kernel), List.mem_of_getElem? (i := 759) (by decide +kernel)⟩
theorem lw_p20 : lw_okq (⟨"VeiledTable$Play", "tryNext", "(LVeiledTable$Table;LVeiledTable$Sets;)Z"⟩, 9) := ⟨⟨by decide +kernel, by decide +kernel⟩, List.mem_of_getElem? (i := 180) (by decide +kernel), List.mem_of_getElem? (i := 763) (by decide +kernel), List.mem_of_getElem? (i := 764) (by decide +kernel)⟩
theorem lw_p21 : lw_okq (⟨"VeiledTable", "untold", "(I)I"⟩, 13) := ⟨⟨by decide +kernel, by decide +kernel⟩, List.mem_of_getElem? (i := 21) (by decide +kernel), List.mem_of_getElem? (i := 774) (by decide +kernel), List.mem_of_getElem? (i := 775) (by decide +kernel)⟩
theorem lw_p22 : lw_okq (⟨"VeiledTable$Tape", "advance", "()V"⟩, 6) := ⟨⟨by decide +kernel, by decide +kernel⟩, List.mem_of_getElem? (i := 215) (by decide +kernel), List.mem_of_getElem? (i := 808) (by decide +kernel), List.mem_of_getElem? (i := 809) (by decide +kernel)⟩
theorem lw_p23 : lw_okq (⟨"VeiledTable$Tape", "sortAt", "(I)I"⟩, 6) := ⟨⟨by decide +kernel, by decide +kernel⟩, List.mem_of_getElem? (i := 215) (by decide +kernel), List.mem_of_getElem? (i := 812) (by decide +kernel), List.mem_of_getElem? (i := 813) (by decide +kernel)⟩
theorem lw_p24 : lw_okq (⟨"VeiledTable$Tape", "readStatement", "(LVeiledTable$Table;)Z"⟩, 6) := ⟨⟨by decide +kernel, by decide +kernel⟩, List.mem_of_getElem? (i := 215) (by decide +kernel), List.mem_of_getElem? (i := 816) (by decide +kernel), List.mem_of_getElem? (i := 817) (by decide +kernel)⟩
theorem lw_p25 : lw_okq (⟨"VeiledTable$Tape", "kindTold", "()LVeiledTable$Kind;"⟩, 6) := ⟨⟨by decide +kernel, by decide +kernel⟩, List.mem_of_getElem? (i := 215) (by decide +kernel), List.mem_of_getElem? (i := 820) (by decide +kernel), List.mem_of_getElem? (i := 821) (by decide +kernel)⟩
theorem lw_p26 : lw_okq (⟨"VeiledTable$Tape", "isWord", "(Ljava/lang/String;)Z"⟩, 6) := ⟨⟨by decide +kernel, by decide +kernel⟩, List.mem_of_getElem? (i := 215) (by decide +kernel), List.mem_of_getElem? (i := 825) (by decide +kernel), List.mem_of_getElem? (i := 826) (by decide +kernel)⟩
theorem lw_p27 : lw_okq (⟨"VeiledTable$Tape", "isNumber", "(II)Z"⟩, 6) := ⟨⟨by decide +kernel, by decide +kernel⟩, List.mem_of_getElem? (i := 215) (by decide +kernel), List.mem_of_getElem? (i := 879) (by decide +kernel), List.mem_of_getElem? (i := 880) (by decide +kernel)⟩
theorem lw_p28 : lw_okq (⟨"VeiledTable", "cellRefused", "(II)I"⟩, 13) := ⟨⟨by decide +kernel, by decide +kernel⟩, List.mem_of_getElem? (i := 21) (by decide +kernel), List.mem_of_getElem? (i := 928) (by decide +kernel), List.mem_of_getElem? (i := 929) (by decide +kernel)⟩
theorem lw_p29 : lw_okq (⟨"VeiledTableModel", "isToldRight", "(III)Z"⟩, 45) := ⟨⟨by decide +kernel, by decide +kernel⟩, List.mem_of_getElem? (i := 988) (by decide +kernel), List.mem_of_getElem? (i := 1159) (by decide +kernel), List.mem_of_getElem? (i := 1160) (by decide +kernel)⟩
theorem lw_p30 : lw_okq (⟨"VeiledTableModel", "isCardLeft", "(I)Z"⟩, 45) := ⟨⟨by decide +kernel, by decide +kernel⟩, List.mem_of_getElem? (i := 988) (by decide +kernel), List.mem_of_getElem? (i := 1175) (by decide +kernel), List.mem_of_getElem? (i := 1176) (by decide +kernel)⟩
theorem lw_p31 : lw_okq (⟨"VeiledTableModel", "outAhead", "(I)I"⟩, 45) := ⟨⟨by decide +kernel, by decide +kernel⟩, List.mem_of_getElem? (i := 988) (by decide +kernel), List.mem_of_getElem? (i := 1182) (by decide +kernel), List.mem_of_getElem? (i := 1183) (by decide +kernel)⟩
def lw_privs_2 : List (MethodName × Nat) := [(⟨"VeiledTable$Play", "gatherCourses", "(LVeiledTable$Game;LVeiledTable$Sets;I)V"⟩, 9), (⟨"VeiledTable$Play", "courseOf", "(LVeiledTable$Table;LVeiledTable$Sets;I)J"⟩, 9), (⟨"VeiledTable$Play", "sumTried", "()I"⟩, 9), (⟨"VeiledTable$Play", "isTried", "(J)Z"⟩, 9), (⟨"VeiledTable$Play", "tryNext", "(LVeiledTable$Table;LVeiledTable$Sets;)Z"⟩, 9), (⟨"VeiledTable", "untold", "(I)I"⟩, 13), (⟨"VeiledTable$Tape", "advance", "()V"⟩, 6), (⟨"VeiledTable$Tape", "sortAt", "(I)I"⟩, 6), (⟨"VeiledTable$Tape", "readStatement", "(LVeiledTable$Table;)Z"⟩, 6), (⟨"VeiledTable$Tape", "kindTold", "()LVeiledTable$Kind;"⟩, 6), (⟨"VeiledTable$Tape", "isWord", "(Ljava/lang/String;)Z"⟩, 6), (⟨"VeiledTable$Tape", "isNumber", "(II)Z"⟩, 6), (⟨"VeiledTable", "cellRefused", "(II)I"⟩, 13), (⟨"VeiledTableModel", "isToldRight", "(III)Z"⟩, 45), (⟨"VeiledTableModel", "isCardLeft", "(I)Z"⟩, 45), (⟨"VeiledTableModel", "outAhead", "(I)I"⟩, 45)]
theorem lw_r2 : ∀ q ∈ lw_privs_2, lw_okq q := List.forall_mem_cons.mpr ⟨lw_p16, List.forall_mem_cons.mpr ⟨lw_p17, List.forall_mem_cons.mpr ⟨lw_p18, List.forall_mem_cons.mpr ⟨lw_p19, List.forall_mem_cons.mpr ⟨lw_p20, List.forall_mem_cons.mpr ⟨lw_p21, List.forall_mem_cons.mpr ⟨lw_p22, List.forall_mem_cons.mpr ⟨lw_p23, List.forall_mem_cons.mpr ⟨lw_p24, List.forall_mem_cons.mpr ⟨lw_p25, List.forall_mem_cons.mpr ⟨lw_p26, List.forall_mem_cons.mpr ⟨lw_p27, List.forall_mem_cons.mpr ⟨lw_p28, List.forall_mem_cons.mpr ⟨lw_p29, List.forall_mem_cons.mpr ⟨lw_p30, List.forall_mem_cons.mpr ⟨lw_p31, fun _ h => absurd h List.not_mem_nil⟩⟩⟩⟩⟩⟩⟩⟩⟩⟩⟩⟩⟩⟩⟩⟩
theorem lw_p32 : lw_okq (⟨"VeiledTableModel", "adds", "(III)I"⟩, 45) := ⟨⟨by decide +kernel, by decide +kernel⟩, List.mem_of_getElem? (i := 988) (by decide +kernel), List.mem_of_getElem? (i := 1186) (by decide +kernel), List.mem_of_getElem? (i := 1187) (by decide +kernel)⟩
theorem lw_p33 : lw_okq (⟨"VeiledTableModel", "isStage", "(I)Z"⟩, 45) := ⟨⟨by decide +kernel, by decide +kernel⟩, List.mem_of_getElem? (i := 988) (by decide +kernel), List.mem_of_getElem? (i := 1194) (by decide +kernel), List.mem_of_getElem? (i := 1195) (by decide +kernel)⟩
theorem lw_p34 : lw_okq (⟨"VeiledTableModel", "seenBy", "(II)I"⟩, 45) := ⟨⟨by decide +kernel, by decide +kernel⟩, List.mem_of_getElem? (i := 988) (by decide +kernel), List.mem_of_getElem? (i := 1198) (by decide +kernel), List.mem_of_getElem? (i := 1199) (by decide +kernel)⟩
theorem lw_p35 : lw_okq (⟨"VeiledTableModel", "isBehind", "(I)Z"⟩, 45) := ⟨⟨by decide +kernel, by decide +kernel⟩, List.mem_of_getElem? (i := 988) (by decide +kernel), List.mem_of_getElem? (i := 1206) (by decide +kernel), List.mem_of_getElem? (i := 1207) (by decide +kernel)⟩
theorem lw_p36 : lw_okq (⟨"VeiledTableModel", "waysBehind", "(I)I"⟩, 45) := ⟨⟨by decide +kernel, by decide +kernel⟩, List.mem_of_getElem? (i := 988) (by decide +kernel), List.mem_of_getElem? (i := 1218) (by decide +kernel), List.mem_of_getElem? (i := 1219) (by decide +kernel)⟩
theorem lw_p37 : lw_okq (⟨"VeiledTableModel", "options", "(I)I"⟩, 45) := ⟨⟨by decide +kernel, by decide +kernel⟩, List.mem_of_getElem? (i := 988) (by decide +kernel), List.mem_of_getElem? (i := 1222) (by decide +kernel), List.mem_of_getElem? (i := 1223) (by decide +kernel)⟩
theorem lw_p38 : lw_okq (⟨"VeiledTableModel", "isWay", "(I)Z"⟩, 45) := ⟨⟨by decide +kernel, by decide +kernel⟩, List.mem_of_getElem? (i := 988) (by decide +kernel), List.mem_of_getElem? (i := 1230) (by decide +kernel), List.mem_of_getElem? (i := 1231) (by decide +kernel)⟩
theorem lw_p39 : lw_okq (⟨"VeiledTableModel", "lays", "(II)V"⟩, 45) := ⟨⟨by decide +kernel, by decide +kernel⟩, List.mem_of_getElem? (i := 988) (by decide +kernel), List.mem_of_getElem? (i := 1234) (by decide +kernel), List.mem_of_getElem? (i := 1235) (by decide +kernel)⟩
theorem lw_p40 : lw_okq (⟨"VeiledTableModel", "chanceBelow", "()J"⟩, 45) := ⟨⟨by decide +kernel, by decide +kernel⟩, List.mem_of_getElem? (i := 988) (by decide +kernel), List.mem_of_getElem? (i := 1249) (by decide +kernel), List.mem_of_getElem? (i := 1250) (by decide +kernel)⟩
theorem lw_p41 : lw_okq (⟨"VeiledTableModel", "viewOf", "(II)I"⟩, 45) := ⟨⟨by decide +kernel, by decide +kernel⟩, List.mem_of_getElem? (i := 988) (by decide +kernel), List.mem_of_getElem? (i := 1260) (by decide +kernel), List.mem_of_getElem? (i := 1261) (by decide +kernel)⟩
theorem lw_p42 : lw_okq (⟨"VeiledTableModel", "worldsOf", "(IIJ)I"⟩, 45) := ⟨⟨by decide +kernel, by decide +kernel⟩, List.mem_of_getElem? (i := 988) (by decide +kernel), List.mem_of_getElem? (i := 1268) (by decide +kernel), List.mem_of_getElem? (i := 1269) (by decide +kernel)⟩
theorem lw_p43 : lw_okq (⟨"VeiledTableModel", "isPlayed", "(II)Z"⟩, 45) := ⟨⟨by decide +kernel, by decide +kernel⟩, List.mem_of_getElem? (i := 988) (by decide +kernel), List.mem_of_getElem? (i := 1280) (by decide +kernel), List.mem_of_getElem? (i := 1281) (by decide +kernel)⟩
theorem lw_p44 : lw_okq (⟨"VeiledTableModel", "chosen", "(III)I"⟩, 45) := ⟨⟨by decide +kernel, by decide +kernel⟩, List.mem_of_getElem? (i := 988) (by decide +kernel), List.mem_of_getElem? (i := 1284) (by decide +kernel), List.mem_of_getElem? (i := 1285) (by decide +kernel)⟩
theorem lw_p45 : lw_okq (⟨"VeiledTableModel", "planAt", "(III)I"⟩, 45) := ⟨⟨by decide +kernel, by decide +kernel⟩, List.mem_of_getElem? (i := 988) (by decide +kernel), List.mem_of_getElem? (i := 1288) (by decide +kernel), List.mem_of_getElem? (i := 1289) (by decide +kernel)⟩
theorem lw_p46 : lw_okq (⟨"VeiledTableModel", "laysSets", "(I)V"⟩, 45) := ⟨⟨by decide +kernel, by decide +kernel⟩, List.mem_of_getElem? (i := 988) (by decide +kernel), List.mem_of_getElem? (i := 1299) (by decide +kernel), List.mem_of_getElem? (i := 1300) (by decide +kernel)⟩
theorem lw_p47 : lw_okq (⟨"VeiledTableModel", "laysViews", "(II)V"⟩, 45) := ⟨⟨by decide +kernel, by decide +kernel⟩, List.mem_of_getElem? (i := 988) (by decide +kernel), List.mem_of_getElem? (i := 1303) (by decide +kernel), List.mem_of_getElem? (i := 1304) (by decide +kernel)⟩
def lw_privs_3 : List (MethodName × Nat) := [(⟨"VeiledTableModel", "adds", "(III)I"⟩, 45), (⟨"VeiledTableModel", "isStage", "(I)Z"⟩, 45), (⟨"VeiledTableModel", "seenBy", "(II)I"⟩, 45), (⟨"VeiledTableModel", "isBehind", "(I)Z"⟩, 45), (⟨"VeiledTableModel", "waysBehind", "(I)I"⟩, 45), (⟨"VeiledTableModel", "options", "(I)I"⟩, 45), (⟨"VeiledTableModel", "isWay", "(I)Z"⟩, 45), (⟨"VeiledTableModel", "lays", "(II)V"⟩, 45), (⟨"VeiledTableModel", "chanceBelow", "()J"⟩, 45), (⟨"VeiledTableModel", "viewOf", "(II)I"⟩, 45), (⟨"VeiledTableModel", "worldsOf", "(IIJ)I"⟩, 45), (⟨"VeiledTableModel", "isPlayed", "(II)Z"⟩, 45), (⟨"VeiledTableModel", "chosen", "(III)I"⟩, 45), (⟨"VeiledTableModel", "planAt", "(III)I"⟩, 45), (⟨"VeiledTableModel", "laysSets", "(I)V"⟩, 45), (⟨"VeiledTableModel", "laysViews", "(II)V"⟩, 45)]
theorem lw_r3 : ∀ q ∈ lw_privs_3, lw_okq q := List.forall_mem_cons.mpr ⟨lw_p32, List.forall_mem_cons.mpr ⟨lw_p33, List.forall_mem_cons.mpr ⟨lw_p34, List.forall_mem_cons.mpr ⟨lw_p35, List.forall_mem_cons.mpr ⟨lw_p36, List.forall_mem_cons.mpr ⟨lw_p37, List.forall_mem_cons.mpr ⟨lw_p38, List.forall_mem_cons.mpr ⟨lw_p39, List.forall_mem_cons.mpr ⟨lw_p40, List.forall_mem_cons.mpr ⟨lw_p41, List.forall_mem_cons.mpr ⟨lw_p42, List.forall_mem_cons.mpr ⟨lw_p43, List.forall_mem_cons.mpr ⟨lw_p44, List.forall_mem_cons.mpr ⟨lw_p45, List.forall_mem_cons.mpr ⟨lw_p46, List.forall_mem_cons.mpr ⟨lw_p47, fun _ h => absurd h List.not_mem_nil⟩⟩⟩⟩⟩⟩⟩⟩⟩⟩⟩⟩⟩⟩⟩⟩
theorem lw_p48 : lw_okq (⟨"VeiledTableModel", "recallsAt", "(II)Z"⟩, 45) := ⟨⟨by decide +kernel, by decide +kernel⟩, List.mem_of_getElem? (i := 988) (by decide +kernel), List.mem_of_getElem? (i := 1315) (by decide +kernel), List.mem_of_getElem? (i := 1316) (by decide +kernel)⟩
theorem lw_p49 : lw_okq (⟨"VeiledTableModel", "tells", "(IIII)Z"⟩, 45) := ⟨⟨by decide +kernel, by decide +kernel⟩, List.mem_of_getElem? (i := 988) (by decide +kernel), List.mem_of_getElem? (i := 1323) (by decide +kernel), List.mem_of_getElem? (i := 1324) (by decide +kernel)⟩
theorem lw_p50 : lw_okq (⟨"VeiledTableModel", "draw", "()I"⟩, 45) := ⟨⟨by decide +kernel, by decide +kernel⟩, List.mem_of_getElem? (i := 988) (by decide +kernel), List.mem_of_getElem? (i := 1331) (by decide +kernel), List.mem_of_getElem? (i := 1332) (by decide +kernel)⟩
theorem lw_p51 : lw_okq (⟨"VeiledTableModel", "isSo", "(I)Z"⟩, 45) := ⟨⟨by decide +kernel, by decide +kernel⟩, List.mem_of_getElem? (i := 988) (by decide +kernel), List.mem_of_getElem? (i := 1351) (by decide +kernel), List.mem_of_getElem? (i := 1352) (by decide +kernel)⟩
theorem lw_p52 : lw_okq (⟨"VeiledTableModel", "amountOf", "([III)I"⟩, 45) := ⟨⟨by decide +kernel, by decide +kernel⟩, List.mem_of_getElem? (i := 988) (by decide +kernel), List.mem_of_getElem? (i := 1355) (by decide +kernel), List.mem_of_getElem? (i := 1356) (by decide +kernel)⟩
theorem lw_p53 : lw_okq (⟨"VeiledTableModel", "payOf", "(I)I"⟩, 45) := ⟨⟨by decide +kernel, by decide +kernel⟩, List.mem_of_getElem? (i := 988) (by decide +kernel), List.mem_of_getElem? (i := 1367) (by decide +kernel), List.mem_of_getElem? (i := 1368) (by decide +kernel)⟩
theorem lw_p54 : lw_okq (⟨"VeiledTableModel", "sumOf", "(I)J"⟩, 45) := ⟨⟨by decide +kernel, by decide +kernel⟩, List.mem_of_getElem? (i := 988) (by decide +kernel), List.mem_of_getElem? (i := 1380) (by decide +kernel), List.mem_of_getElem? (i := 1381) (by decide +kernel)⟩
theorem lw_p55 : lw_okq (⟨"VeiledTableModel", "isMuch", "(I)Z"⟩, 45) := ⟨⟨by decide +kernel, by decide +kernel⟩, List.mem_of_getElem? (i := 988) (by decide +kernel), List.mem_of_getElem? (i := 1388) (by decide +kernel), List.mem_of_getElem? (i := 1389) (by decide +kernel)⟩
theorem lw_p56 : lw_okq (⟨"VeiledTableModel", "findsReply", "(I)V"⟩, 45) := ⟨⟨by decide +kernel, by decide +kernel⟩, List.mem_of_getElem? (i := 988) (by decide +kernel), List.mem_of_getElem? (i := 1392) (by decide +kernel), List.mem_of_getElem? (i := 1393) (by decide +kernel)⟩
theorem lw_p57 : lw_okq (⟨"VeiledTableModel", "laysPlayed", "(I)V"⟩, 45) := ⟨⟨by decide +kernel, by decide +kernel⟩, List.mem_of_getElem? (i := 988) (by decide +kernel), List.mem_of_getElem? (i := 1396) (by decide +kernel), List.mem_of_getElem? (i := 1397) (by decide +kernel)⟩
theorem lw_p58 : lw_okq (⟨"VeiledTableModel", "setAt", "(II)I"⟩, 45) := ⟨⟨by decide +kernel, by decide +kernel⟩, List.mem_of_getElem? (i := 988) (by decide +kernel), List.mem_of_getElem? (i := 1400) (by decide +kernel), List.mem_of_getElem? (i := 1401) (by decide +kernel)⟩
theorem lw_p59 : lw_okq (⟨"VeiledTableModel", "triedSum", "()J"⟩, 45) := ⟨⟨by decide +kernel, by decide +kernel⟩, List.mem_of_getElem? (i := 988) (by decide +kernel), List.mem_of_getElem? (i := 1404) (by decide +kernel), List.mem_of_getElem? (i := 1405) (by decide +kernel)⟩
theorem lw_p60 : lw_okq (⟨"VeiledTableModel", "goesOn", "()Z"⟩, 45) := ⟨⟨by decide +kernel, by decide +kernel⟩, List.mem_of_getElem? (i := 988) (by decide +kernel), List.mem_of_getElem? (i := 1408) (by decide +kernel), List.mem_of_getElem? (i := 1409) (by decide +kernel)⟩
theorem lw_p61 : lw_okq (⟨"VeiledTableModel", "statement", "()Z"⟩, 45) := ⟨⟨by decide +kernel, by decide +kernel⟩, List.mem_of_getElem? (i := 988) (by decide +kernel), List.mem_of_getElem? (i := 1433) (by decide +kernel), List.mem_of_getElem? (i := 1434) (by decide +kernel)⟩
theorem lw_p62 : lw_okq (⟨"VeiledTableModel", "next", "()V"⟩, 45) := ⟨⟨by decide +kernel, by decide +kernel⟩, List.mem_of_getElem? (i := 988) (by decide +kernel), List.mem_of_getElem? (i := 1437) (by decide +kernel), List.mem_of_getElem? (i := 1438) (by decide +kernel)⟩
theorem lw_p63 : lw_okq (⟨"VeiledTableModel", "here", "()I"⟩, 45) := ⟨⟨by decide +kernel, by decide +kernel⟩, List.mem_of_getElem? (i := 988) (by decide +kernel), List.mem_of_getElem? (i := 1441) (by decide +kernel), List.mem_of_getElem? (i := 1442) (by decide +kernel)⟩
def lw_privs_4 : List (MethodName × Nat) := [(⟨"VeiledTableModel", "recallsAt", "(II)Z"⟩, 45), (⟨"VeiledTableModel", "tells", "(IIII)Z"⟩, 45), (⟨"VeiledTableModel", "draw", "()I"⟩, 45), (⟨"VeiledTableModel", "isSo", "(I)Z"⟩, 45), (⟨"VeiledTableModel", "amountOf", "([III)I"⟩, 45), (⟨"VeiledTableModel", "payOf", "(I)I"⟩, 45), (⟨"VeiledTableModel", "sumOf", "(I)J"⟩, 45), (⟨"VeiledTableModel", "isMuch", "(I)Z"⟩, 45), (⟨"VeiledTableModel", "findsReply", "(I)V"⟩, 45), (⟨"VeiledTableModel", "laysPlayed", "(I)V"⟩, 45), (⟨"VeiledTableModel", "setAt", "(II)I"⟩, 45), (⟨"VeiledTableModel", "triedSum", "()J"⟩, 45), (⟨"VeiledTableModel", "goesOn", "()Z"⟩, 45), (⟨"VeiledTableModel", "statement", "()Z"⟩, 45), (⟨"VeiledTableModel", "next", "()V"⟩, 45), (⟨"VeiledTableModel", "here", "()I"⟩, 45)]
theorem lw_r4 : ∀ q ∈ lw_privs_4, lw_okq q := List.forall_mem_cons.mpr ⟨lw_p48, List.forall_mem_cons.mpr ⟨lw_p49, List.forall_mem_cons.mpr ⟨lw_p50, List.forall_mem_cons.mpr ⟨lw_p51, List.forall_mem_cons.mpr ⟨lw_p52, List.forall_mem_cons.mpr ⟨lw_p53, List.forall_mem_cons.mpr ⟨lw_p54, List.forall_mem_cons.mpr ⟨lw_p55, List.forall_mem_cons.mpr ⟨lw_p56, List.forall_mem_cons.mpr ⟨lw_p57, List.forall_mem_cons.mpr ⟨lw_p58, List.forall_mem_cons.mpr ⟨lw_p59, List.forall_mem_cons.mpr ⟨lw_p60, List.forall_mem_cons.mpr ⟨lw_p61, List.forall_mem_cons.mpr ⟨lw_p62, List.forall_mem_cons.mpr ⟨lw_p63, fun _ h => absurd h List.not_mem_nil⟩⟩⟩⟩⟩⟩⟩⟩⟩⟩⟩⟩⟩⟩⟩⟩
theorem lw_p64 : lw_okq (⟨"VeiledTableModel", "isToken", "(Ljava/lang/String;)Z"⟩, 45) := ⟨⟨by decide +kernel, by decide +kernel⟩, List.mem_of_getElem? (i := 988) (by decide +kernel), List.mem_of_getElem? (i := 1449) (by decide +kernel), List.mem_of_getElem? (i := 1450) (by decide +kernel)⟩
theorem lw_p65 : lw_okq (⟨"VeiledTableModel", "must", "(Z)Z"⟩, 45) := ⟨⟨by decide +kernel, by decide +kernel⟩, List.mem_of_getElem? (i := 988) (by decide +kernel), List.mem_of_getElem? (i := 1455) (by decide +kernel), List.mem_of_getElem? (i := 1456) (by decide +kernel)⟩
theorem lw_p66 : lw_okq (⟨"VeiledTableModel", "number", "(II)Z"⟩, 45) := ⟨⟨by decide +kernel, by decide +kernel⟩, List.mem_of_getElem? (i := 988) (by decide +kernel), List.mem_of_getElem? (i := 1459) (by decide +kernel), List.mem_of_getElem? (i := 1460) (by decide +kernel)⟩
theorem lw_p67 : lw_okq (⟨"VeiledTableModel", "becomes", "(III)V"⟩, 45) := ⟨⟨by decide +kernel, by decide +kernel⟩, List.mem_of_getElem? (i := 988) (by decide +kernel), List.mem_of_getElem? (i := 1486) (by decide +kernel), List.mem_of_getElem? (i := 1487) (by decide +kernel)⟩
theorem lw_p68 : lw_okq (⟨"VeiledTableModel", "wrong", "(II)I"⟩, 45) := ⟨⟨by decide +kernel, by decide +kernel⟩, List.mem_of_getElem? (i := 988) (by decide +kernel), List.mem_of_getElem? (i := 1498) (by decide +kernel), List.mem_of_getElem? (i := 1499) (by decide +kernel)⟩
theorem lw_p69 : lw_okq (⟨"VeiledTableModel", "lacks", "(II)I"⟩, 45) := ⟨⟨by decide +kernel, by decide +kernel⟩, List.mem_of_getElem? (i := 988) (by decide +kernel), List.mem_of_getElem? (i := 1521) (by decide +kernel), List.mem_of_getElem? (i := 1522) (by decide +kernel)⟩
theorem lw_p70 : lw_okq (⟨"VeiledTableModel", "passesAll", "(Z)V"⟩, 45) := ⟨⟨by decide +kernel, by decide +kernel⟩, List.mem_of_getElem? (i := 988) (by decide +kernel), List.mem_of_getElem? (i := 1537) (by decide +kernel), List.mem_of_getElem? (i := 1538) (by decide +kernel)⟩
theorem lw_p71 : lw_okq (⟨"VeiledTableModel", "passes", "(I)I"⟩, 45) := ⟨⟨by decide +kernel, by decide +kernel⟩, List.mem_of_getElem? (i := 988) (by decide +kernel), List.mem_of_getElem? (i := 1541) (by decide +kernel), List.mem_of_getElem? (i := 1542) (by decide +kernel)⟩
theorem lw_p72 : lw_okq (⟨"VeiledTableModel", "passesRow", "([I)V"⟩, 45) := ⟨⟨by decide +kernel, by decide +kernel⟩, List.mem_of_getElem? (i := 988) (by decide +kernel), List.mem_of_getElem? (i := 1545) (by decide +kernel), List.mem_of_getElem? (i := 1546) (by decide +kernel)⟩
def lw_privs_5 : List (MethodName × Nat) := [(⟨"VeiledTableModel", "isToken", "(Ljava/lang/String;)Z"⟩, 45), (⟨"VeiledTableModel", "must", "(Z)Z"⟩, 45), (⟨"VeiledTableModel", "number", "(II)Z"⟩, 45), (⟨"VeiledTableModel", "becomes", "(III)V"⟩, 45), (⟨"VeiledTableModel", "wrong", "(II)I"⟩, 45), (⟨"VeiledTableModel", "lacks", "(II)I"⟩, 45), (⟨"VeiledTableModel", "passesAll", "(Z)V"⟩, 45), (⟨"VeiledTableModel", "passes", "(I)I"⟩, 45), (⟨"VeiledTableModel", "passesRow", "([I)V"⟩, 45)]
theorem lw_r5 : ∀ q ∈ lw_privs_5, lw_okq q := List.forall_mem_cons.mpr ⟨lw_p64, List.forall_mem_cons.mpr ⟨lw_p65, List.forall_mem_cons.mpr ⟨lw_p66, List.forall_mem_cons.mpr ⟨lw_p67, List.forall_mem_cons.mpr ⟨lw_p68, List.forall_mem_cons.mpr ⟨lw_p69, List.forall_mem_cons.mpr ⟨lw_p70, List.forall_mem_cons.mpr ⟨lw_p71, List.forall_mem_cons.mpr ⟨lw_p72, fun _ h => absurd h List.not_mem_nil⟩⟩⟩⟩⟩⟩⟩⟩⟩
def lw_privs : List (MethodName × Nat) := lw_privs_1 ++ (lw_privs_2 ++ (lw_privs_3 ++ (lw_privs_4 ++ (lw_privs_5))))
def lw_tbl : List Cond := k2_sels lw_privs ++ tables_1
theorem lw_privs_ok : ∀ q ∈ lw_privs, lw_okq q := by
  show ∀ q ∈ lw_privs_1 ++ (lw_privs_2 ++ (lw_privs_3 ++ (lw_privs_4 ++ (lw_privs_5)))), lw_okq q
  exact List.forall_mem_append.mpr ⟨lw_r1, List.forall_mem_append.mpr ⟨lw_r2, List.forall_mem_append.mpr ⟨lw_r3, List.forall_mem_append.mpr ⟨lw_r4, lw_r5⟩⟩⟩⟩

def RX0 : String := "VeiledTable$Amount"
def TX0 : u_T := fun k => match k with
  | 0 => ("VeiledTable$Amount", "sort", "I", true)
  | 1 => ("VeiledTable$Amount", "x", "I", true)
  | 2 => ("VeiledTable$Amount", "y", "I", true)
  | 3 => ("VeiledTable$Amount", "v", "I", true)
  | _ => ("VeiledTable$Amount", "ahead", "LVeiledTable$Amount;", true)
def tyX0 : Nat → FieldType := fun k => match k with
  | 0 => .int
  | 1 => .int
  | 2 => .int
  | 3 => .int
  | _ => .object "VeiledTable$Amount"
abbrev wsX00 : List Cond := u_ws RX0 TX0 5
theorem nmX0 : ∀ a, a < 5 → ∀ b, b < 5 → a ≠ b → (TX0 a).2.1 ≠ (TX0 b).2.1 := by decide +kernel
theorem tyX0_ok : ∀ k, k < 5 → parseFieldDescriptor (TX0 k).2.2.1 = some (tyX0 k) := by decide +kernel
theorem inX0 : ∀ w ∈ wsX00, w ∈ lw_tbl := by decide +kernel
def RX1 : String := "VeiledTable$Game"
def TX1 : u_T := fun k => match k with
  | 0 => ("VeiledTable$Game", "table", "LVeiledTable$Table;", true)
  | 1 => ("VeiledTable$Game", "plans", "LVeiledTable$Plans;", true)
  | 2 => ("VeiledTable$Game", "tests", "[LVeiledTable$Test;", true)
  | 3 => ("VeiledTable$Game", "amounts", "[LVeiledTable$Amount;", true)
  | 4 => ("VeiledTable$Game", "payers", "[I", true)
  | 5 => ("VeiledTable$Game", "payees", "[I", true)
  | 6 => ("VeiledTable$Game", "ruled", "I", false)
  | _ => ("VeiledTable$Game", "stake", "J", false)
def tyX1 : Nat → FieldType := fun k => match k with
  | 0 => .object "VeiledTable$Table"
  | 1 => .object "VeiledTable$Plans"
  | 2 => .array (.object "VeiledTable$Test")
  | 3 => .array (.object "VeiledTable$Amount")
  | 4 => .array .int
  | 5 => .array .int
  | 6 => .int
  | _ => .long
abbrev wsX10 : List Cond := u_ws RX1 TX1 8
theorem nmX1 : ∀ a, a < 8 → ∀ b, b < 8 → a ≠ b → (TX1 a).2.1 ≠ (TX1 b).2.1 := by decide +kernel
theorem tyX1_ok : ∀ k, k < 8 → parseFieldDescriptor (TX1 k).2.2.1 = some (tyX1 k) := by decide +kernel
theorem inX1 : ∀ w ∈ wsX10, w ∈ lw_tbl := by decide +kernel
def RX3 : String := "VeiledTable$Plans"
def TX3 : u_T := fun k => match k with
  | 0 => ("VeiledTable$Plans", "keys", "[I", true)
  | 1 => ("VeiledTable$Plans", "choices", "[I", true)
  | _ => ("VeiledTable$Plans", "many", "I", false)
def tyX3 : Nat → FieldType := fun k => match k with
  | 0 => .array .int
  | 1 => .array .int
  | _ => .int
abbrev wsX30 : List Cond := u_ws RX3 TX3 3
theorem nmX3 : ∀ a, a < 3 → ∀ b, b < 3 → a ≠ b → (TX3 a).2.1 ≠ (TX3 b).2.1 := by decide +kernel
theorem tyX3_ok : ∀ k, k < 3 → parseFieldDescriptor (TX3 k).2.2.1 = some (tyX3 k) := by decide +kernel
theorem inX3 : ∀ w ∈ wsX30, w ∈ lw_tbl := by decide +kernel
def RX4 : String := "VeiledTable$Play"
def TX4 : u_T := fun k => match k with
  | 0 => ("VeiledTable$Play", "followed", "[I", false)
  | 1 => ("VeiledTable$Play", "next", "[I", false)
  | 2 => ("VeiledTable$Play", "many", "I", false)
  | 3 => ("VeiledTable$Play", "courses", "[J", true)
  | 4 => ("VeiledTable$Play", "wins", "[I", true)
  | 5 => ("VeiledTable$Play", "coursed", "I", false)
  | 6 => ("VeiledTable$Play", "marks", "I", false)
  | 7 => ("VeiledTable$Play", "tried", "[I", true)
  | _ => ("VeiledTable$Play", "firsts", "[I", true)
def tyX4 : Nat → FieldType := fun k => match k with
  | 0 => .array .int
  | 1 => .array .int
  | 2 => .int
  | 3 => .array .long
  | 4 => .array .int
  | 5 => .int
  | 6 => .int
  | 7 => .array .int
  | _ => .array .int
abbrev wsX40 : List Cond := u_ws RX4 TX4 9
theorem nmX4 : ∀ a, a < 9 → ∀ b, b < 9 → a ≠ b → (TX4 a).2.1 ≠ (TX4 b).2.1 := by decide +kernel
theorem tyX4_ok : ∀ k, k < 9 → parseFieldDescriptor (TX4 k).2.2.1 = some (tyX4 k) := by decide +kernel
theorem inX4 : ∀ w ∈ wsX40, w ∈ lw_tbl := by decide +kernel
def RX5 : String := "VeiledTable$Sets"
def TX5 : u_T := fun k => match k with
  | 0 => ("VeiledTable$Sets", "points", "[I", true)
  | 1 => ("VeiledTable$Sets", "sights", "[I", true)
  | 2 => ("VeiledTable$Sets", "sizes", "[I", true)
  | 3 => ("VeiledTable$Sets", "many", "I", false)
  | 4 => ("VeiledTable$Sets", "row", "[I", true)
  | _ => ("VeiledTable$Sets", "pasts", "[I", true)
def tyX5 : Nat → FieldType := fun k => match k with
  | 0 => .array .int
  | 1 => .array .int
  | 2 => .array .int
  | 3 => .int
  | 4 => .array .int
  | _ => .array .int
abbrev wsX50 : List Cond := u_ws RX5 TX5 6
theorem nmX5 : ∀ a, a < 6 → ∀ b, b < 6 → a ≠ b → (TX5 a).2.1 ≠ (TX5 b).2.1 := by decide +kernel
theorem tyX5_ok : ∀ k, k < 6 → parseFieldDescriptor (TX5 k).2.2.1 = some (tyX5 k) := by decide +kernel
theorem inX5 : ∀ w ∈ wsX50, w ∈ lw_tbl := by decide +kernel
def RX6 : String := "VeiledTable$Sheet"
def TX6 : u_T := fun k => match k with
  | 0 => ("VeiledTable$Sheet", "sort", "I", false)
  | 1 => ("VeiledTable$Sheet", "size", "I", false)
  | _ => ("VeiledTable$Sheet", "cells", "[I", true)
def tyX6 : Nat → FieldType := fun k => match k with
  | 0 => .int
  | 1 => .int
  | _ => .array .int
abbrev wsX60 : List Cond := u_ws RX6 TX6 3
theorem nmX6 : ∀ a, a < 3 → ∀ b, b < 3 → a ≠ b → (TX6 a).2.1 ≠ (TX6 b).2.1 := by decide +kernel
theorem tyX6_ok : ∀ k, k < 3 → parseFieldDescriptor (TX6 k).2.2.1 = some (tyX6 k) := by decide +kernel
theorem inX6 : ∀ w ∈ wsX60, w ∈ lw_tbl := by decide +kernel
def RX7 : String := "VeiledTable$Stage"
def TX7 : u_T := fun k => match k with
  | 0 => ("VeiledTable$Stage", "kind", "LVeiledTable$Kind;", true)
  | 1 => ("VeiledTable$Stage", "player", "I", true)
  | _ => ("VeiledTable$Stage", "k", "I", true)
def tyX7 : Nat → FieldType := fun k => match k with
  | 0 => .object "VeiledTable$Kind"
  | 1 => .int
  | _ => .int
abbrev wsX70 : List Cond := u_ws RX7 TX7 3
theorem nmX7 : ∀ a, a < 3 → ∀ b, b < 3 → a ≠ b → (TX7 a).2.1 ≠ (TX7 b).2.1 := by decide +kernel
theorem tyX7_ok : ∀ k, k < 3 → parseFieldDescriptor (TX7 k).2.2.1 = some (tyX7 k) := by decide +kernel
theorem inX7 : ∀ w ∈ wsX70, w ∈ lw_tbl := by decide +kernel
def RX8 : String := "VeiledTable$Table"
def TX8 : u_T := fun k => match k with
  | 0 => ("VeiledTable$Table", "cards", "I", false)
  | 1 => ("VeiledTable$Table", "worths", "[I", true)
  | 2 => ("VeiledTable$Table", "stages", "[LVeiledTable$Stage;", true)
  | 3 => ("VeiledTable$Table", "staged", "I", false)
  | 4 => ("VeiledTable$Table", "fans", "[I", true)
  | 5 => ("VeiledTable$Table", "behind", "[I", true)
  | 6 => ("VeiledTable$Table", "seers", "[[I", true)
  | 7 => ("VeiledTable$Table", "befell", "[[I", true)
  | _ => ("VeiledTable$Table", "what", "[I", true)
def tyX8 : Nat → FieldType := fun k => match k with
  | 0 => .int
  | 1 => .array .int
  | 2 => .array (.object "VeiledTable$Stage")
  | 3 => .int
  | 4 => .array .int
  | 5 => .array .int
  | 6 => .array (.array .int)
  | 7 => .array (.array .int)
  | _ => .array .int
abbrev wsX80 : List Cond := u_ws RX8 TX8 9
theorem nmX8 : ∀ a, a < 9 → ∀ b, b < 9 → a ≠ b → (TX8 a).2.1 ≠ (TX8 b).2.1 := by decide +kernel
theorem tyX8_ok : ∀ k, k < 9 → parseFieldDescriptor (TX8 k).2.2.1 = some (tyX8 k) := by decide +kernel
theorem inX8 : ∀ w ∈ wsX80, w ∈ lw_tbl := by decide +kernel
def RX9 : String := "VeiledTable$Tape"
def TX9 : u_T := fun k => match k with
  | 0 => ("VeiledTable$Tape", "bytes", "[I", true)
  | 1 => ("VeiledTable$Tape", "many", "I", false)
  | 2 => ("VeiledTable$Tape", "sort", "I", false)
  | 3 => ("VeiledTable$Tape", "from", "I", false)
  | 4 => ("VeiledTable$Tape", "to", "I", false)
  | _ => ("VeiledTable$Tape", "value", "I", false)
def tyX9 : Nat → FieldType := fun k => match k with
  | 0 => .array .int
  | 1 => .int
  | 2 => .int
  | 3 => .int
  | 4 => .int
  | _ => .int
abbrev wsX90 : List Cond := u_ws RX9 TX9 6
theorem nmX9 : ∀ a, a < 6 → ∀ b, b < 6 → a ≠ b → (TX9 a).2.1 ≠ (TX9 b).2.1 := by decide +kernel
theorem tyX9_ok : ∀ k, k < 6 → parseFieldDescriptor (TX9 k).2.2.1 = some (tyX9 k) := by decide +kernel
theorem inX9 : ∀ w ∈ wsX90, w ∈ lw_tbl := by decide +kernel
def RX10 : String := "VeiledTable$Test"
def TX10 : u_T := fun k => match k with
  | 0 => ("VeiledTable$Test", "sort", "I", true)
  | 1 => ("VeiledTable$Test", "x", "I", true)
  | 2 => ("VeiledTable$Test", "y", "I", true)
  | _ => ("VeiledTable$Test", "ahead", "LVeiledTable$Test;", true)
def tyX10 : Nat → FieldType := fun k => match k with
  | 0 => .int
  | 1 => .int
  | 2 => .int
  | _ => .object "VeiledTable$Test"
abbrev wsX100 : List Cond := u_ws RX10 TX10 4
theorem nmX10 : ∀ a, a < 4 → ∀ b, b < 4 → a ≠ b → (TX10 a).2.1 ≠ (TX10 b).2.1 := by decide +kernel
theorem tyX10_ok : ∀ k, k < 4 → parseFieldDescriptor (TX10 k).2.2.1 = some (tyX10 k) := by decide +kernel
theorem inX10 : ∀ w ∈ wsX100, w ∈ lw_tbl := by decide +kernel
def RX11 : String := "VeiledTable"
def TX11 : u_T := fun k => match k with
  | 0 => ("VeiledTable", "game", "LVeiledTable$Game;", true)
  | 1 => ("VeiledTable", "kept", "LVeiledTable$Game;", true)
  | 2 => ("VeiledTable", "isKept", "Z", false)
  | 3 => ("VeiledTable", "held", "LVeiledTable$Sets;", true)
  | 4 => ("VeiledTable", "play", "LVeiledTable$Play;", true)
  | 5 => ("VeiledTable", "tape", "LVeiledTable$Tape;", true)
  | 6 => ("VeiledTable", "racked", "[LVeiledTable$Stage;", true)
  | 7 => ("VeiledTable", "rackSizes", "[I", true)
  | 8 => ("VeiledTable", "sheets", "[LVeiledTable$Sheet;", true)
  | 9 => ("VeiledTable", "handSorts", "[I", true)
  | 10 => ("VeiledTable", "handStages", "[LVeiledTable$Stage;", true)
  | 11 => ("VeiledTable", "handAmounts", "[LVeiledTable$Amount;", true)
  | _ => ("VeiledTable", "handViews", "[J", true)
def tyX11 : Nat → FieldType := fun k => match k with
  | 0 => .object "VeiledTable$Game"
  | 1 => .object "VeiledTable$Game"
  | 2 => .boolean
  | 3 => .object "VeiledTable$Sets"
  | 4 => .object "VeiledTable$Play"
  | 5 => .object "VeiledTable$Tape"
  | 6 => .array (.object "VeiledTable$Stage")
  | 7 => .array .int
  | 8 => .array (.object "VeiledTable$Sheet")
  | 9 => .array .int
  | 10 => .array (.object "VeiledTable$Stage")
  | 11 => .array (.object "VeiledTable$Amount")
  | _ => .array .long
abbrev wsX110 : List Cond := u_ws RX11 TX11 13
theorem nmX11 : ∀ a, a < 13 → ∀ b, b < 13 → a ≠ b → (TX11 a).2.1 ≠ (TX11 b).2.1 := by decide +kernel
theorem tyX11_ok : ∀ k, k < 13 → parseFieldDescriptor (TX11 k).2.2.1 = some (tyX11 k) := by decide +kernel
theorem inX11 : ∀ w ∈ wsX110, w ∈ lw_tbl := by decide +kernel
def RX12 : String := "VeiledTableModel"
def TX12 : u_T := fun k => match k with
  | 0 => ("VeiledTableModel", "cards", "I", false)
  | 1 => ("VeiledTableModel", "worth", "[I", true)
  | 2 => ("VeiledTableModel", "stages", "I", false)
  | 3 => ("VeiledTableModel", "kind", "[I", true)
  | 4 => ("VeiledTableModel", "whose", "[I", true)
  | 5 => ("VeiledTableModel", "below", "[I", true)
  | 6 => ("VeiledTableModel", "plans", "I", false)
  | 7 => ("VeiledTableModel", "told", "[I", true)
  | 8 => ("VeiledTableModel", "rules", "I", false)
  | 9 => ("VeiledTableModel", "rule", "[I", true)
  | 10 => ("VeiledTableModel", "stake", "J", false)
  | 11 => ("VeiledTableModel", "out", "[I", true)
  | 12 => ("VeiledTableModel", "setStage", "[I", true)
  | 13 => ("VeiledTableModel", "setView", "[I", true)
  | 14 => ("VeiledTableModel", "setMany", "I", false)
  | 15 => ("VeiledTableModel", "had", "[I", true)
  | 16 => ("VeiledTableModel", "z", "I", false)
  | 17 => ("VeiledTableModel", "tried", "[I", true)
  | 18 => ("VeiledTableModel", "best", "[I", true)
  | 19 => ("VeiledTableModel", "bestSum", "J", false)
  | 20 => ("VeiledTableModel", "played", "[I", true)
  | 21 => ("VeiledTableModel", "reachedSet", "[I", true)
  | 22 => ("VeiledTableModel", "reachedChoice", "[I", true)
  | 23 => ("VeiledTableModel", "playedMany", "I", false)
  | 24 => ("VeiledTableModel", "tape", "[I", true)
  | 25 => ("VeiledTableModel", "taped", "I", false)
  | 26 => ("VeiledTableModel", "at", "I", false)
  | 27 => ("VeiledTableModel", "from", "I", false)
  | 28 => ("VeiledTableModel", "fault", "I", false)
  | 29 => ("VeiledTableModel", "value", "I", false)
  | 30 => ("VeiledTableModel", "words", "[Ljava/lang/String;", true)
  | 31 => ("VeiledTableModel", "rackLong", "[I", true)
  | 32 => ("VeiledTableModel", "rack", "[I", true)
  | 33 => ("VeiledTableModel", "sorts", "[I", true)
  | 34 => ("VeiledTableModel", "sizes", "[I", true)
  | 35 => ("VeiledTableModel", "numbers", "[I", true)
  | 36 => ("VeiledTableModel", "handSort", "[I", true)
  | 37 => ("VeiledTableModel", "handNumber", "[I", true)
  | 38 => ("VeiledTableModel", "handView", "[J", true)
  | 39 => ("VeiledTableModel", "handRule", "[I", true)
  | 40 => ("VeiledTableModel", "isKept", "Z", false)
  | 41 => ("VeiledTableModel", "kept", "[I", true)
  | 42 => ("VeiledTableModel", "keptStake", "J", false)
  | 43 => ("VeiledTableModel", "cursor", "I", false)
  | _ => ("VeiledTableModel", "isKeeping", "Z", false)
def tyX12 : Nat → FieldType := fun k => match k with
  | 0 => .int
  | 1 => .array .int
  | 2 => .int
  | 3 => .array .int
  | 4 => .array .int
  | 5 => .array .int
  | 6 => .int
  | 7 => .array .int
  | 8 => .int
  | 9 => .array .int
  | 10 => .long
  | 11 => .array .int
  | 12 => .array .int
  | 13 => .array .int
  | 14 => .int
  | 15 => .array .int
  | 16 => .int
  | 17 => .array .int
  | 18 => .array .int
  | 19 => .long
  | 20 => .array .int
  | 21 => .array .int
  | 22 => .array .int
  | 23 => .int
  | 24 => .array .int
  | 25 => .int
  | 26 => .int
  | 27 => .int
  | 28 => .int
  | 29 => .int
  | 30 => .array (.object "java/lang/String")
  | 31 => .array .int
  | 32 => .array .int
  | 33 => .array .int
  | 34 => .array .int
  | 35 => .array .int
  | 36 => .array .int
  | 37 => .array .int
  | 38 => .array .long
  | 39 => .array .int
  | 40 => .boolean
  | 41 => .array .int
  | 42 => .long
  | 43 => .int
  | _ => .boolean
abbrev wsX120 : List Cond := u_ws RX12 TX12 45
theorem nmX12 : ∀ a, a < 45 → ∀ b, b < 45 → a ≠ b → (TX12 a).2.1 ≠ (TX12 b).2.1 := by decide +kernel
theorem tyX12_ok : ∀ k, k < 45 → parseFieldDescriptor (TX12 k).2.2.1 = some (tyX12 k) := by decide +kernel
theorem inX12 : ∀ w ∈ wsX120, w ∈ lw_tbl := by decide +kernel
abbrev ax_cl : List vw_C := [(RX0, TX0, 5), (RX1, TX1, 8), (RX3, TX3, 3), (RX4, TX4, 9), (RX5, TX5, 6), (RX6, TX6, 3), (RX7, TX7, 3), (RX8, TX8, 9), (RX9, TX9, 6), (RX10, TX10, 4), (RX11, TX11, 13), (RX12, TX12, 45)]
/-- names of the classes by their numbers -/
def ax_cn : List String := ["VeiledTable$Amount", "VeiledTable$Game", "VeiledTable$Plans", "VeiledTable$Play", "VeiledTable$Sets", "VeiledTable$Sheet", "VeiledTable$Stage", "VeiledTable$Table", "VeiledTable$Tape", "VeiledTable$Test", "VeiledTable", "VeiledTableModel", "VeiledTable$Kind", "java/lang/String", "java/lang/Math", "java/lang/StringLatin1", "java/lang/StringUTF16", "jdk/internal/util/Preconditions", "VeiledTableLaw", "java/lang/Object"]
abbrev cX11_init : ByteArray := prog_1_method_1_code
abbrev cX1_init : ByteArray := prog_3_method_1_code
abbrev cX8_init : ByteArray := prog_10_method_1_code
abbrev cX3_init : ByteArray := prog_5_method_1_code
abbrev cX5_init : ByteArray := prog_7_method_1_code
abbrev cX4_init : ByteArray := prog_6_method_1_code
abbrev cX9_init : ByteArray := prog_11_method_1_code
abbrev cX6_init : ByteArray := prog_8_method_1_code
abbrev cX11_pack : ByteArray := prog_1_method_2_code
abbrev cX1_open : ByteArray := prog_3_method_2_code
abbrev cX8_open : ByteArray := prog_10_method_2_code
abbrev cX11_worth : ByteArray := prog_1_method_3_code
abbrev cX11_stage : ByteArray := prog_1_method_4_code
abbrev cX11_isStageToBe : ByteArray := prog_1_method_52_code
abbrev cX11_isPlayer : ByteArray := prog_1_method_47_code
abbrev cX8_hasRoom : ByteArray := prog_10_method_5_code
abbrev cX8_hasCardFor : ByteArray := prog_10_method_6_code
abbrev cX2_isCard : ByteArray := prog_4_method_4_code
abbrev cX8_cardsLeft : ByteArray := prog_10_method_7_code
abbrev cX8_isCardAt : ByteArray := prog_10_method_8_code
abbrev cX8_at : ByteArray := prog_10_method_4_code
abbrev cX7_init : ByteArray := prog_9_method_1_code
abbrev cX8_put : ByteArray := prog_10_method_11_code
abbrev cJ9_max_7cf53 : ByteArray := prog_16_method_65_code
abbrev cX8_branch : ByteArray := prog_10_method_12_code
abbrev cX8_cardsGone : ByteArray := prog_10_method_13_code
abbrev cX8_go : ByteArray := prog_10_method_15_code
abbrev cX8_letSee : ByteArray := prog_10_method_14_code
abbrev cX2_isSecret : ByteArray := prog_4_method_7_code
abbrev cX11_stageOf : ByteArray := prog_1_method_5_code
abbrev cX11_seen : ByteArray := prog_1_method_6_code
abbrev cX11_isAhead : ByteArray := prog_1_method_54_code
abbrev cX11_isPoint : ByteArray := prog_1_method_53_code
abbrev cX11_drop : ByteArray := prog_1_method_7_code
abbrev cX11_ways : ByteArray := prog_1_method_8_code
abbrev cX11_happened : ByteArray := prog_1_method_9_code
abbrev cX11_isWay : ByteArray := prog_1_method_55_code
abbrev cX11_chance : ByteArray := prog_1_method_10_code
abbrev cX11_isPart : ByteArray := prog_1_method_48_code
abbrev cX8_chances : ByteArray := prog_10_method_20_code
abbrev cX8_isChanceAt : ByteArray := prog_10_method_9_code
abbrev cX2_isChance : ByteArray := prog_4_method_6_code
abbrev cX11_view : ByteArray := prog_1_method_11_code
abbrev cX8_sight : ByteArray := prog_10_method_16_code
abbrev cX11_worlds : ByteArray := prog_1_method_12_code
abbrev cX8_alike : ByteArray := prog_10_method_18_code
abbrev cX8_sightOf : ByteArray := prog_10_method_17_code
abbrev cX11_world : ByteArray := prog_1_method_13_code
abbrev cX8_alikeAt : ByteArray := prog_10_method_19_code
abbrev cX11_odds : ByteArray := prog_1_method_14_code
abbrev cX4_follow : ByteArray := prog_6_method_2_code
abbrev cX4_step : ByteArray := prog_6_method_3_code
abbrev cX2_isChoice : ByteArray := prog_4_method_5_code
abbrev cX1_choice : ByteArray := prog_3_method_6_code
abbrev cX3_find : ByteArray := prog_5_method_4_code
abbrev cX3_key : ByteArray := prog_5_method_3_code
abbrev cX4_alike : ByteArray := prog_6_method_4_code
abbrev cX4_alikeWith : ByteArray := prog_6_method_5_code
abbrev cX11_share : ByteArray := prog_1_method_59_code
abbrev cJ9_abs_067f4 : ByteArray := prog_16_method_61_code
abbrev cX11_divisor : ByteArray := prog_1_method_60_code
abbrev cJ9_max_f86c9 : ByteArray := prog_16_method_66_code
abbrev cX11_sets : ByteArray := prog_1_method_15_code
abbrev cX5_gather : ByteArray := prog_7_method_2_code
abbrev cX8_picks : ByteArray := prog_10_method_10_code
abbrev cX5_gatherAt : ByteArray := prog_7_method_3_code
abbrev cX5_sort : ByteArray := prog_7_method_4_code
abbrev cX11_setOf : ByteArray := prog_1_method_16_code
abbrev cX11_recalls : ByteArray := prog_1_method_17_code
abbrev cX5_areRecalled : ByteArray := prog_7_method_6_code
abbrev cX5_isRecalled : ByteArray := prog_7_method_7_code
abbrev cX5_find : ByteArray := prog_7_method_5_code
abbrev cX11_plan : ByteArray := prog_1_method_18_code
abbrev cX3_tell : ByteArray := prog_5_method_5_code
abbrev cX11_lot : ByteArray := prog_1_method_19_code
abbrev cX11_unplan : ByteArray := prog_1_method_20_code
abbrev cX11_rule : ByteArray := prog_1_method_21_code
abbrev cX1_testAt : ByteArray := prog_3_method_4_code
abbrev cX10_init : ByteArray := prog_12_method_1_code
abbrev cX1_amountAt : ByteArray := prog_3_method_5_code
abbrev cX0_init : ByteArray := prog_2_method_1_code
abbrev cX11_ruleOf : ByteArray := prog_1_method_22_code
abbrev cX1_due : ByteArray := prog_3_method_7_code
abbrev cX10_isSo : ByteArray := prog_12_method_2_code
abbrev cX10_isSoByItself : ByteArray := prog_12_method_3_code
abbrev cX0_comesTo : ByteArray := prog_2_method_2_code
abbrev cX0_byItself : ByteArray := prog_2_method_3_code
abbrev cX11_unrule : ByteArray := prog_1_method_23_code
abbrev cX11_pay : ByteArray := prog_1_method_24_code
abbrev cX1_won : ByteArray := prog_3_method_8_code
abbrev cX11_isProduct : ByteArray := prog_1_method_61_code
abbrev cX11_mean : ByteArray := prog_1_method_25_code
abbrev cX4_together : ByteArray := prog_6_method_6_code
abbrev cX11_reply : ByteArray := prog_1_method_26_code
abbrev cX11_isMuchFor : ByteArray := prog_1_method_57_code
abbrev cX4_best : ByteArray := prog_6_method_7_code
abbrev cX4_gatherCourses : ByteArray := prog_6_method_9_code
abbrev cX4_courseOf : ByteArray := prog_6_method_10_code
abbrev cX4_sumTried : ByteArray := prog_6_method_11_code
abbrev cX4_isTried : ByteArray := prog_6_method_12_code
abbrev cX4_tryNext : ByteArray := prog_6_method_13_code
abbrev cJ9_min_7cf53 : ByteArray := prog_16_method_69_code
abbrev cX11_better : ByteArray := prog_1_method_27_code
abbrev cX11_untold : ByteArray := prog_1_method_58_code
abbrev cX4_first : ByteArray := prog_6_method_8_code
abbrev cX11_settled : ByteArray := prog_1_method_28_code
abbrev cX11_raise : ByteArray := prog_1_method_29_code
abbrev cX11_feed : ByteArray := prog_1_method_30_code
abbrev cX9_add : ByteArray := prog_11_method_2_code
abbrev cX11_text : ByteArray := prog_1_method_31_code
abbrev cX9_readInto : ByteArray := prog_11_method_3_code
abbrev cX9_advance : ByteArray := prog_11_method_8_code
abbrev cX9_sortAt : ByteArray := prog_11_method_9_code
abbrev cX9_readStatement : ByteArray := prog_11_method_4_code
abbrev cX9_kindTold : ByteArray := prog_11_method_6_code
abbrev cX9_isWord : ByteArray := prog_11_method_7_code
abbrev cJ0_length_8abf5 : ByteArray := prog_17_method_54_code
abbrev cJ0_coder_7d493 : ByteArray := prog_17_method_152_code
abbrev cJ0_charAt_5068e : ByteArray := prog_17_method_56_code
abbrev cJ0_isLatin1_aae02 : ByteArray := prog_17_method_154_code
abbrev cJ1_charAt_3b067 : ByteArray := prog_18_method_2_code
abbrev cJ0_checkIndex_df160 : ByteArray := prog_17_method_155_code
abbrev cJ3_checkIndex_8e157 : ByteArray := prog_20_method_11_code
abbrev cJ2_charAt_3b067 : ByteArray := prog_19_method_83_code
abbrev cJ2_checkIndex_2214a : ByteArray := prog_19_method_91_code
abbrev cJ2_length_9d52b : ByteArray := prog_19_method_6_code
abbrev cJ2_getChar_3b067 : ByteArray := prog_19_method_5_code
abbrev cX9_isNumber : ByteArray := prog_11_method_5_code
abbrev cX11_rack : ByteArray := prog_1_method_32_code
abbrev cX11_isRack : ByteArray := prog_1_method_49_code
abbrev cX11_lay : ByteArray := prog_1_method_33_code
abbrev cX11_build : ByteArray := prog_1_method_34_code
abbrev cX11_maybe : ByteArray := prog_1_method_35_code
abbrev cX11_isSheet : ByteArray := prog_1_method_50_code
abbrev cX6_open : ByteArray := prog_8_method_2_code
abbrev cX6_put : ByteArray := prog_8_method_3_code
abbrev cX6_sum : ByteArray := prog_8_method_4_code
abbrev cX11_sheet : ByteArray := prog_1_method_36_code
abbrev cX11_cell : ByteArray := prog_1_method_37_code
abbrev cX11_cellRefused : ByteArray := prog_1_method_56_code
abbrev cX11_read : ByteArray := prog_1_method_38_code
abbrev cX11_loadPlans : ByteArray := prog_1_method_39_code
abbrev cX11_hold : ByteArray := prog_1_method_40_code
abbrev cX11_isHand : ByteArray := prog_1_method_51_code
abbrev cX11_asStage : ByteArray := prog_1_method_41_code
abbrev cX11_asAmount : ByteArray := prog_1_method_42_code
abbrev cX11_asView : ByteArray := prog_1_method_43_code
abbrev cX11_image : ByteArray := prog_1_method_44_code
abbrev cX1_become : ByteArray := prog_3_method_3_code
abbrev cX8_become : ByteArray := prog_10_method_3_code
abbrev cX3_become : ByteArray := prog_5_method_2_code
abbrev cX11_back : ByteArray := prog_1_method_45_code
abbrev cX11_count : ByteArray := prog_1_method_46_code
abbrev cX12_init : ByteArray := prog_14_method_1_code
abbrev cX12_pack : ByteArray := prog_14_method_13_code
abbrev cX12_in : ByteArray := prog_14_method_2_code
abbrev cX12_worth : ByteArray := prog_14_method_14_code
abbrev cX12_stage : ByteArray := prog_14_method_19_code
abbrev cX12_isToldRight : ByteArray := prog_14_method_16_code
abbrev cX12_isPlayer : ByteArray := prog_14_method_4_code
abbrev cX12_hasNumber : ByteArray := prog_14_method_12_code
abbrev cX12_isChoice : ByteArray := prog_14_method_10_code
abbrev cX12_isCardLeft : ByteArray := prog_14_method_17_code
abbrev cX12_isCardOut : ByteArray := prog_14_method_9_code
abbrev cX12_outAhead : ByteArray := prog_14_method_15_code
abbrev cX12_adds : ByteArray := prog_14_method_18_code
abbrev cX12_stageOf : ByteArray := prog_14_method_21_code
abbrev cX12_isStage : ByteArray := prog_14_method_6_code
abbrev cX12_seenBy : ByteArray := prog_14_method_20_code
abbrev cX12_seen : ByteArray := prog_14_method_22_code
abbrev cX12_isBehind : ByteArray := prog_14_method_7_code
abbrev cX12_drop : ByteArray := prog_14_method_23_code
abbrev cX12_ways : ByteArray := prog_14_method_28_code
abbrev cX12_waysBehind : ByteArray := prog_14_method_25_code
abbrev cX12_options : ByteArray := prog_14_method_24_code
abbrev cX12_happened : ByteArray := prog_14_method_30_code
abbrev cX12_isWay : ByteArray := prog_14_method_29_code
abbrev cX12_lays : ByteArray := prog_14_method_26_code
abbrev cX12_chance : ByteArray := prog_14_method_32_code
abbrev cX12_isPart : ByteArray := prog_14_method_5_code
abbrev cX12_refused : ByteArray := prog_14_method_3_code
abbrev cX12_chanceBelow : ByteArray := prog_14_method_31_code
abbrev cX12_isChance : ByteArray := prog_14_method_11_code
abbrev cX12_view : ByteArray := prog_14_method_33_code
abbrev cX12_viewOf : ByteArray := prog_14_method_27_code
abbrev cX12_worlds : ByteArray := prog_14_method_35_code
abbrev cX12_worldsOf : ByteArray := prog_14_method_34_code
abbrev cX12_world : ByteArray := prog_14_method_36_code
abbrev cX12_odds : ByteArray := prog_14_method_41_code
abbrev cX12_isPlayed : ByteArray := prog_14_method_40_code
abbrev cX12_chosen : ByteArray := prog_14_method_38_code
abbrev cX12_planAt : ByteArray := prog_14_method_37_code
abbrev cX12_divisor : ByteArray := prog_14_method_8_code
abbrev cX12_sets : ByteArray := prog_14_method_44_code
abbrev cX12_laysSets : ByteArray := prog_14_method_42_code
abbrev cX12_laysViews : ByteArray := prog_14_method_43_code
abbrev cX12_setOf : ByteArray := prog_14_method_45_code
abbrev cX12_recalls : ByteArray := prog_14_method_48_code
abbrev cX12_recallsAt : ByteArray := prog_14_method_47_code
abbrev cX12_plan : ByteArray := prog_14_method_49_code
abbrev cX12_tells : ByteArray := prog_14_method_39_code
abbrev cX12_lot : ByteArray := prog_14_method_51_code
abbrev cX12_draw : ByteArray := prog_14_method_50_code
abbrev cX12_unplan : ByteArray := prog_14_method_52_code
abbrev cX12_rule : ByteArray := prog_14_method_53_code
abbrev cX12_ruleOf : ByteArray := prog_14_method_56_code
abbrev cX12_isSo : ByteArray := prog_14_method_54_code
abbrev cX12_amountOf : ByteArray := prog_14_method_55_code
abbrev cX12_unrule : ByteArray := prog_14_method_57_code
abbrev cX12_pay : ByteArray := prog_14_method_60_code
abbrev cX12_payOf : ByteArray := prog_14_method_58_code
abbrev cX12_fits : ByteArray := prog_14_method_59_code
abbrev cX12_mean : ByteArray := prog_14_method_62_code
abbrev cX12_sumOf : ByteArray := prog_14_method_61_code
abbrev cX12_reply : ByteArray := prog_14_method_68_code
abbrev cX12_isMuch : ByteArray := prog_14_method_63_code
abbrev cX12_findsReply : ByteArray := prog_14_method_67_code
abbrev cX12_laysPlayed : ByteArray := prog_14_method_64_code
abbrev cX12_setAt : ByteArray := prog_14_method_46_code
abbrev cX12_triedSum : ByteArray := prog_14_method_65_code
abbrev cX12_goesOn : ByteArray := prog_14_method_66_code
abbrev cX12_better : ByteArray := prog_14_method_69_code
abbrev cX12_settled : ByteArray := prog_14_method_70_code
abbrev cX12_raise : ByteArray := prog_14_method_71_code
abbrev cX12_feed : ByteArray := prog_14_method_72_code
abbrev cX12_text : ByteArray := prog_14_method_79_code
abbrev cX12_statement : ByteArray := prog_14_method_78_code
abbrev cX12_next : ByteArray := prog_14_method_75_code
abbrev cX12_here : ByteArray := prog_14_method_73_code
abbrev cX12_isToken : ByteArray := prog_14_method_76_code
abbrev cX12_must : ByteArray := prog_14_method_74_code
abbrev cX12_number : ByteArray := prog_14_method_77_code
abbrev cX12_rack : ByteArray := prog_14_method_81_code
abbrev cX12_isRack : ByteArray := prog_14_method_80_code
abbrev cX12_lay : ByteArray := prog_14_method_82_code
abbrev cX12_build : ByteArray := prog_14_method_83_code
abbrev cX12_maybe : ByteArray := prog_14_method_86_code
abbrev cX12_isSheet : ByteArray := prog_14_method_84_code
abbrev cX12_becomes : ByteArray := prog_14_method_85_code
abbrev cX12_sheet : ByteArray := prog_14_method_87_code
abbrev cX12_cell : ByteArray := prog_14_method_89_code
abbrev cX12_wrong : ByteArray := prog_14_method_88_code
abbrev cX12_read : ByteArray := prog_14_method_90_code
abbrev cX12_loadPlans : ByteArray := prog_14_method_91_code
abbrev cX12_hold : ByteArray := prog_14_method_93_code
abbrev cX12_isHand : ByteArray := prog_14_method_92_code
abbrev cX12_asStage : ByteArray := prog_14_method_95_code
abbrev cX12_lacks : ByteArray := prog_14_method_94_code
abbrev cX12_asAmount : ByteArray := prog_14_method_96_code
abbrev cX12_asView : ByteArray := prog_14_method_97_code
abbrev cX12_image : ByteArray := prog_14_method_101_code
abbrev cX12_passesAll : ByteArray := prog_14_method_100_code
abbrev cX12_passes : ByteArray := prog_14_method_98_code
abbrev cX12_passesRow : ByteArray := prog_14_method_99_code
abbrev cX12_back : ByteArray := prog_14_method_102_code
abbrev cX12_count : ByteArray := prog_14_method_103_code
abbrev cL_law : ByteArray := code
def ax_mt0 : List (ByteArray × Nat × Option FieldType × Nat × Bool) := [(cX11_init, 1, none, 10, false), (cX1_init, 1, none, 1, false), (cX8_init, 1, none, 7, false), (cX3_init, 1, none, 2, false), (cX5_init, 1, none, 4, false), (cX4_init, 1, none, 3, false), (cX9_init, 1, none, 8, false), (cX6_init, 1, none, 5, false), (cX11_pack, 3, some .int, 10, false), (cX1_open, 2, none, 1, false), (cX8_open, 3, none, 7, false), (cX11_worth, 4, some .int, 10, false), (cX11_stage, 4, some .int, 10, false), (cX11_isStageToBe, 5, some .boolean, 10, true), (cX11_isPlayer, 1, some .boolean, 10, true), (cX8_hasRoom, 1, some .boolean, 7, false), (cX8_hasCardFor, 2, some .boolean, 7, false), (cX2_isCard, 1, some .boolean, 12, false), (cX8_cardsLeft, 3, some .int, 7, false), (cX8_isCardAt, 3, some .boolean, 7, false), (cX8_at, 2, some (.object "VeiledTable$Stage"), 7, false), (cX7_init, 4, none, 6, false), (cX8_put, 3, none, 7, false), (cJ9_max_7cf53, 2, some .int, 14, true), (cX8_branch, 8, none, 7, false), (cX8_cardsGone, 5, some .int, 7, false), (cX8_go, 5, none, 7, false), (cX8_letSee, 6, none, 7, false), (cX2_isSecret, 1, some .boolean, 12, false), (cX11_stageOf, 4, some .int, 10, false), (cX11_seen, 3, some .int, 10, false), (cX11_isAhead, 3, some .boolean, 10, false), (cX11_isPoint, 2, some .boolean, 10, false), (cX11_drop, 1, some .int, 10, false), (cX11_ways, 2, some .int, 10, false), (cX11_happened, 3, some .int, 10, false), (cX11_isWay, 2, some .boolean, 10, false), (cX11_chance, 3, some .long, 10, false), (cX11_isPart, 1, some .boolean, 10, true), (cX8_chances, 4, some .int, 7, false)]
def ax_mt1 : List (ByteArray × Nat × Option FieldType × Nat × Bool) := [(cX8_isChanceAt, 3, some .boolean, 7, false), (cX2_isChance, 1, some .boolean, 12, false), (cX11_view, 4, some .int, 10, false), (cX8_sight, 6, some .int, 7, false), (cX11_worlds, 4, some .int, 10, false), (cX8_alike, 6, some .int, 7, false), (cX8_sightOf, 4, some .int, 7, false), (cX11_world, 6, some .int, 10, false), (cX8_alikeAt, 7, some .int, 7, false), (cX11_odds, 8, some .long, 10, false), (cX4_follow, 5, none, 3, false), (cX4_step, 11, none, 3, false), (cX2_isChoice, 1, some .boolean, 12, false), (cX1_choice, 6, some .int, 1, false), (cX3_find, 6, some .int, 2, false), (cX3_key, 3, some .int, 2, true), (cX4_alike, 7, some .int, 3, false), (cX4_alikeWith, 9, some .int, 3, false), (cX11_share, 7, some .long, 10, true), (cJ9_abs_067f4, 2, some .long, 14, true), (cX11_divisor, 11, some .long, 10, true), (cJ9_max_f86c9, 4, some .long, 14, true), (cX11_sets, 2, some .int, 10, false), (cX5_gather, 4, none, 4, false), (cX8_picks, 4, some .boolean, 7, false), (cX5_gatherAt, 6, none, 4, false), (cX5_sort, 6, none, 4, false), (cX11_setOf, 4, some .int, 10, false), (cX11_recalls, 2, some .int, 10, false), (cX5_areRecalled, 5, some .boolean, 4, false), (cX5_isRecalled, 8, some .boolean, 4, false), (cX5_find, 6, some .int, 4, false), (cX11_plan, 6, some .int, 10, false), (cX3_tell, 7, some .boolean, 2, false), (cX11_lot, 7, some .int, 10, false), (cX11_unplan, 2, some .int, 10, false), (cX11_rule, 8, some .int, 10, false), (cX1_testAt, 2, some (.object "VeiledTable$Test"), 1, false), (cX10_init, 5, none, 9, false), (cX1_amountAt, 2, some (.object "VeiledTable$Amount"), 1, false)]
def ax_mt2 : List (ByteArray × Nat × Option FieldType × Nat × Bool) := [(cX0_init, 6, none, 0, false), (cX11_ruleOf, 3, some .int, 10, false), (cX1_due, 4, some .int, 1, false), (cX10_isSo, 5, some .boolean, 9, false), (cX10_isSoByItself, 4, some .boolean, 9, false), (cX0_comesTo, 5, some .int, 0, false), (cX0_byItself, 3, some .int, 0, false), (cX11_unrule, 1, some .int, 10, false), (cX11_pay, 5, some .long, 10, false), (cX1_won, 4, some .int, 1, false), (cX11_isProduct, 4, some .boolean, 10, true), (cX11_mean, 13, some .long, 10, false), (cX4_together, 5, some .int, 3, false), (cX11_reply, 3, some .long, 10, false), (cX11_isMuchFor, 4, some .boolean, 10, false), (cX4_best, 8, some .int, 3, false), (cX4_gatherCourses, 8, none, 3, false), (cX4_courseOf, 8, some .long, 3, false), (cX4_sumTried, 3, some .int, 3, false), (cX4_isTried, 7, some .boolean, 3, false), (cX4_tryNext, 4, some .boolean, 3, false), (cJ9_min_7cf53, 2, some .int, 14, true), (cX11_better, 5, some .int, 10, false), (cX11_untold, 4, some .int, 10, false), (cX4_first, 2, some .int, 3, false), (cX11_settled, 2, some .int, 10, false), (cX11_raise, 3, some .int, 10, false), (cX11_feed, 3, some .int, 10, false), (cX9_add, 4, none, 8, false), (cX11_text, 3, some .int, 10, false), (cX9_readInto, 4, some .int, 8, false), (cX9_advance, 1, none, 8, false), (cX9_sortAt, 2, some .int, 8, false), (cX9_readStatement, 5, some .boolean, 8, false), (cX9_kindTold, 2, some (.object "VeiledTable$Kind"), 8, false), (cX9_isWord, 3, some .boolean, 8, false), (cJ0_length_8abf5, 1, some .int, 13, false), (cJ0_coder_7d493, 1, some .byte, 13, false), (cJ0_charAt_5068e, 2, some .char, 13, false), (cJ0_isLatin1_aae02, 1, some .boolean, 13, false)]
def ax_mt3 : List (ByteArray × Nat × Option FieldType × Nat × Bool) := [(cJ1_charAt_3b067, 2, some .char, 15, true), (cJ0_checkIndex_df160, 2, none, 13, true), (cJ3_checkIndex_8e157, 3, some .int, 17, true), (cJ2_charAt_3b067, 2, some .char, 16, true), (cJ2_checkIndex_2214a, 2, none, 16, true), (cJ2_length_9d52b, 1, some .int, 16, true), (cJ2_getChar_3b067, 2, some .char, 16, true), (cX9_isNumber, 3, some .boolean, 8, false), (cX11_rack, 4, some .int, 10, false), (cX11_isRack, 1, some .boolean, 10, true), (cX11_lay, 5, some .int, 10, false), (cX11_build, 4, some .int, 10, false), (cX11_maybe, 8, some .int, 10, false), (cX11_isSheet, 1, some .boolean, 10, true), (cX6_open, 4, none, 5, false), (cX6_put, 3, none, 5, false), (cX6_sum, 3, some .int, 5, false), (cX11_sheet, 4, some .int, 10, false), (cX11_cell, 5, some .int, 10, false), (cX11_cellRefused, 3, some .int, 10, false), (cX11_read, 4, some .int, 10, false), (cX11_loadPlans, 5, some .int, 10, false), (cX11_hold, 6, some .int, 10, false), (cX11_isHand, 1, some .boolean, 10, true), (cX11_asStage, 4, some .int, 10, false), (cX11_asAmount, 4, some .int, 10, false), (cX11_asView, 5, some .int, 10, false), (cX11_image, 1, some .int, 10, false), (cX1_become, 3, none, 1, false), (cX8_become, 3, none, 7, false), (cX3_become, 3, none, 2, false), (cX11_back, 1, some .int, 10, false), (cX11_count, 2, some .long, 10, false), (cX12_init, 1, none, 11, false), (cX12_pack, 4, some .int, 11, false), (cX12_in, 6, some .boolean, 11, true), (cX12_worth, 4, some .int, 11, false), (cX12_stage, 4, some .int, 11, false), (cX12_isToldRight, 5, some .boolean, 11, false), (cX12_isPlayer, 1, some .boolean, 11, true)]
def ax_mt4 : List (ByteArray × Nat × Option FieldType × Nat × Bool) := [(cX12_hasNumber, 1, some .boolean, 11, true), (cX12_isChoice, 1, some .boolean, 11, true), (cX12_isCardLeft, 2, some .boolean, 11, false), (cX12_isCardOut, 1, some .boolean, 11, true), (cX12_outAhead, 4, some .int, 11, false), (cX12_adds, 4, some .int, 11, false), (cX12_stageOf, 3, some .int, 11, false), (cX12_isStage, 2, some .boolean, 11, false), (cX12_seenBy, 7, some .int, 11, false), (cX12_seen, 3, some .int, 11, false), (cX12_isBehind, 2, some .boolean, 11, false), (cX12_drop, 1, some .int, 11, false), (cX12_ways, 2, some .int, 11, false), (cX12_waysBehind, 4, some .int, 11, false), (cX12_options, 2, some .int, 11, false), (cX12_happened, 3, some .int, 11, false), (cX12_isWay, 2, some .boolean, 11, false), (cX12_lays, 8, none, 11, false), (cX12_chance, 3, some .long, 11, false), (cX12_isPart, 1, some .boolean, 11, true), (cX12_refused, 1, some .long, 11, true), (cX12_chanceBelow, 4, some .long, 11, false), (cX12_isChance, 1, some .boolean, 11, true), (cX12_view, 4, some .int, 11, false), (cX12_viewOf, 5, some .int, 11, false), (cX12_worlds, 4, some .int, 11, false), (cX12_worldsOf, 8, some .int, 11, false), (cX12_world, 8, some .int, 11, false), (cX12_odds, 13, some .long, 11, false), (cX12_isPlayed, 5, some .boolean, 11, false), (cX12_chosen, 5, some .int, 11, false), (cX12_planAt, 5, some .int, 11, false), (cX12_divisor, 10, some .long, 11, true), (cX12_sets, 2, some .int, 11, false), (cX12_laysSets, 3, none, 11, false), (cX12_laysViews, 9, none, 11, false), (cX12_setOf, 6, some .int, 11, false), (cX12_recalls, 3, some .int, 11, false), (cX12_recallsAt, 9, some .boolean, 11, false), (cX12_plan, 6, some .int, 11, false)]
def ax_mt5 : List (ByteArray × Nat × Option FieldType × Nat × Bool) := [(cX12_tells, 6, some .boolean, 11, false), (cX12_lot, 5, some .int, 11, false), (cX12_draw, 1, some .int, 11, false), (cX12_unplan, 2, some .int, 11, false), (cX12_rule, 9, some .int, 11, false), (cX12_ruleOf, 3, some .int, 11, false), (cX12_isSo, 5, some .boolean, 11, false), (cX12_amountOf, 8, some .int, 11, false), (cX12_unrule, 1, some .int, 11, false), (cX12_pay, 5, some .long, 11, false), (cX12_payOf, 5, some .int, 11, false), (cX12_fits, 6, some .boolean, 11, true), (cX12_mean, 9, some .long, 11, false), (cX12_sumOf, 6, some .long, 11, false), (cX12_reply, 3, some .long, 11, false), (cX12_isMuch, 4, some .boolean, 11, false), (cX12_findsReply, 7, none, 11, false), (cX12_laysPlayed, 6, none, 11, false), (cX12_setAt, 4, some .int, 11, false), (cX12_triedSum, 7, some .long, 11, false), (cX12_goesOn, 2, some .boolean, 11, false), (cX12_better, 5, some .int, 11, false), (cX12_settled, 2, some .int, 11, false), (cX12_raise, 3, some .int, 11, false), (cX12_feed, 4, some .int, 11, false), (cX12_text, 5, some .int, 11, false), (cX12_statement, 4, some .boolean, 11, false), (cX12_next, 1, none, 11, false), (cX12_here, 1, some .int, 11, false), (cX12_isToken, 4, some .boolean, 11, false), (cX12_must, 2, some .boolean, 11, false), (cX12_number, 4, some .boolean, 11, false), (cX12_rack, 4, some .int, 11, false), (cX12_isRack, 1, some .boolean, 11, true), (cX12_lay, 5, some .int, 11, false), (cX12_build, 4, some .int, 11, false), (cX12_maybe, 9, some .int, 11, false), (cX12_isSheet, 1, some .boolean, 11, true), (cX12_becomes, 5, none, 11, false), (cX12_sheet, 4, some .int, 11, false)]
def ax_mt6 : List (ByteArray × Nat × Option FieldType × Nat × Bool) := [(cX12_cell, 5, some .int, 11, false), (cX12_wrong, 3, some .int, 11, false), (cX12_read, 4, some .int, 11, false), (cX12_loadPlans, 4, some .int, 11, false), (cX12_hold, 7, some .int, 11, false), (cX12_isHand, 1, some .boolean, 11, true), (cX12_asStage, 5, some .int, 11, false), (cX12_lacks, 3, some .int, 11, false), (cX12_asAmount, 4, some .int, 11, false), (cX12_asView, 5, some .int, 11, false), (cX12_image, 1, some .int, 11, false), (cX12_passesAll, 2, none, 11, false), (cX12_passes, 3, some .int, 11, false), (cX12_passesRow, 3, none, 11, false), (cX12_back, 1, some .int, 11, false), (cX12_count, 2, some .long, 11, false), (cL_law, 4, some .boolean, 18, true)]
def ax_mt : List (ByteArray × Nat × Option FieldType × Nat × Bool) := ax_mt0 ++ (ax_mt1 ++ (ax_mt2 ++ (ax_mt3 ++ (ax_mt4 ++ (ax_mt5 ++ (ax_mt6))))))
def ax_yt0 : List MethodName := [⟨"VeiledTable", "<init>", "()V"⟩, ⟨"VeiledTable$Game", "<init>", "()V"⟩, ⟨"VeiledTable$Table", "<init>", "()V"⟩, ⟨"VeiledTable$Plans", "<init>", "()V"⟩, ⟨"VeiledTable$Sets", "<init>", "()V"⟩, ⟨"VeiledTable$Play", "<init>", "()V"⟩, ⟨"VeiledTable$Tape", "<init>", "()V"⟩, ⟨"VeiledTable$Sheet", "<init>", "()V"⟩, ⟨"VeiledTable", "pack", "(I)I"⟩, ⟨"VeiledTable$Game", "open", "(I)V"⟩, ⟨"VeiledTable$Table", "open", "(I)V"⟩, ⟨"VeiledTable", "worth", "(II)I"⟩, ⟨"VeiledTable", "stage", "(III)I"⟩, ⟨"VeiledTable", "isStageToBe", "(III)Z"⟩, ⟨"VeiledTable", "isPlayer", "(I)Z"⟩, ⟨"VeiledTable$Table", "hasRoom", "()Z"⟩, ⟨"VeiledTable$Table", "hasCardFor", "(LVeiledTable$Kind;)Z"⟩, ⟨"VeiledTable$Kind", "isCard", "()Z"⟩, ⟨"VeiledTable$Table", "cardsLeft", "()I"⟩, ⟨"VeiledTable$Table", "isCardAt", "(I)Z"⟩, ⟨"VeiledTable$Table", "at", "(I)LVeiledTable$Stage;"⟩, ⟨"VeiledTable$Stage", "<init>", "(LVeiledTable$Kind;II)V"⟩, ⟨"VeiledTable$Table", "put", "(LVeiledTable$Stage;)V"⟩, ⟨"java/lang/Math", "max", "(II)I"⟩, ⟨"VeiledTable$Table", "branch", "(LVeiledTable$Kind;I)V"⟩, ⟨"VeiledTable$Table", "cardsGone", "(II)I"⟩, ⟨"VeiledTable$Table", "go", "(II)V"⟩, ⟨"VeiledTable$Table", "letSee", "(LVeiledTable$Stage;I)V"⟩, ⟨"VeiledTable$Kind", "isSecret", "()Z"⟩, ⟨"VeiledTable", "stageOf", "(II)I"⟩, ⟨"VeiledTable", "seen", "(II)I"⟩, ⟨"VeiledTable", "isAhead", "(II)Z"⟩, ⟨"VeiledTable", "isPoint", "(I)Z"⟩, ⟨"VeiledTable", "drop", "()I"⟩, ⟨"VeiledTable", "ways", "(I)I"⟩, ⟨"VeiledTable", "happened", "(II)I"⟩, ⟨"VeiledTable", "isWay", "(I)Z"⟩, ⟨"VeiledTable", "chance", "(II)J"⟩, ⟨"VeiledTable", "isPart", "(I)Z"⟩, ⟨"VeiledTable$Table", "chances", "(I)I"⟩]
def ax_yt1 : List MethodName := [⟨"VeiledTable$Table", "isChanceAt", "(I)Z"⟩, ⟨"VeiledTable$Kind", "isChance", "()Z"⟩, ⟨"VeiledTable", "view", "(III)I"⟩, ⟨"VeiledTable$Table", "sight", "(II)I"⟩, ⟨"VeiledTable", "worlds", "(III)I"⟩, ⟨"VeiledTable$Table", "alike", "(III)I"⟩, ⟨"VeiledTable$Table", "sightOf", "(III)I"⟩, ⟨"VeiledTable", "world", "(IIII)I"⟩, ⟨"VeiledTable$Table", "alikeAt", "(IIII)I"⟩, ⟨"VeiledTable", "odds", "(IIIIII)J"⟩, ⟨"VeiledTable$Play", "follow", "(LVeiledTable$Game;II)V"⟩, ⟨"VeiledTable$Play", "step", "(LVeiledTable$Game;II)V"⟩, ⟨"VeiledTable$Kind", "isChoice", "()Z"⟩, ⟨"VeiledTable$Game", "choice", "(III)I"⟩, ⟨"VeiledTable$Plans", "find", "(III)I"⟩, ⟨"VeiledTable$Plans", "key", "(III)I"⟩, ⟨"VeiledTable$Play", "alike", "(LVeiledTable$Table;III)I"⟩, ⟨"VeiledTable$Play", "alikeWith", "(LVeiledTable$Table;IIIII)I"⟩, ⟨"VeiledTable", "share", "(JJI)J"⟩, ⟨"java/lang/Math", "abs", "(J)J"⟩, ⟨"VeiledTable", "divisor", "(JJ)J"⟩, ⟨"java/lang/Math", "max", "(JJ)J"⟩, ⟨"VeiledTable", "sets", "(I)I"⟩, ⟨"VeiledTable$Sets", "gather", "(LVeiledTable$Table;I)V"⟩, ⟨"VeiledTable$Table", "picks", "(II)Z"⟩, ⟨"VeiledTable$Sets", "gatherAt", "(LVeiledTable$Table;II)V"⟩, ⟨"VeiledTable$Sets", "sort", "(I)V"⟩, ⟨"VeiledTable", "setOf", "(III)I"⟩, ⟨"VeiledTable", "recalls", "(I)I"⟩, ⟨"VeiledTable$Sets", "areRecalled", "(LVeiledTable$Table;I)Z"⟩, ⟨"VeiledTable$Sets", "isRecalled", "(LVeiledTable$Table;III)Z"⟩, ⟨"VeiledTable$Sets", "find", "(II)I"⟩, ⟨"VeiledTable", "plan", "(IIII)I"⟩, ⟨"VeiledTable$Plans", "tell", "(IIII)Z"⟩, ⟨"VeiledTable", "lot", "(I)I"⟩, ⟨"VeiledTable", "unplan", "()I"⟩, ⟨"VeiledTable", "rule", "(IIIIIII)I"⟩, ⟨"VeiledTable$Game", "testAt", "(I)LVeiledTable$Test;"⟩, ⟨"VeiledTable$Test", "<init>", "(IIILVeiledTable$Test;)V"⟩, ⟨"VeiledTable$Game", "amountAt", "(I)LVeiledTable$Amount;"⟩]
def ax_yt2 : List MethodName := [⟨"VeiledTable$Amount", "<init>", "(IIIILVeiledTable$Amount;)V"⟩, ⟨"VeiledTable", "ruleOf", "(II)I"⟩, ⟨"VeiledTable$Game", "due", "(I)I"⟩, ⟨"VeiledTable$Test", "isSo", "(LVeiledTable$Table;)Z"⟩, ⟨"VeiledTable$Test", "isSoByItself", "(LVeiledTable$Table;)Z"⟩, ⟨"VeiledTable$Amount", "comesTo", "(LVeiledTable$Table;)I"⟩, ⟨"VeiledTable$Amount", "byItself", "(LVeiledTable$Table;)I"⟩, ⟨"VeiledTable", "unrule", "()I"⟩, ⟨"VeiledTable", "pay", "(II)J"⟩, ⟨"VeiledTable$Game", "won", "(I)I"⟩, ⟨"VeiledTable", "isProduct", "(JJ)Z"⟩, ⟨"VeiledTable", "mean", "(II)J"⟩, ⟨"VeiledTable$Play", "together", "(LVeiledTable$Game;I)I"⟩, ⟨"VeiledTable", "reply", "(II)J"⟩, ⟨"VeiledTable", "isMuchFor", "(I)Z"⟩, ⟨"VeiledTable$Play", "best", "(LVeiledTable$Game;LVeiledTable$Sets;I)I"⟩, ⟨"VeiledTable$Play", "gatherCourses", "(LVeiledTable$Game;LVeiledTable$Sets;I)V"⟩, ⟨"VeiledTable$Play", "courseOf", "(LVeiledTable$Table;LVeiledTable$Sets;I)J"⟩, ⟨"VeiledTable$Play", "sumTried", "()I"⟩, ⟨"VeiledTable$Play", "isTried", "(J)Z"⟩, ⟨"VeiledTable$Play", "tryNext", "(LVeiledTable$Table;LVeiledTable$Sets;)Z"⟩, ⟨"java/lang/Math", "min", "(II)I"⟩, ⟨"VeiledTable", "better", "(I)I"⟩, ⟨"VeiledTable", "untold", "(I)I"⟩, ⟨"VeiledTable$Play", "first", "(I)I"⟩, ⟨"VeiledTable", "settled", "()I"⟩, ⟨"VeiledTable", "raise", "(J)I"⟩, ⟨"VeiledTable", "feed", "(II)I"⟩, ⟨"VeiledTable$Tape", "add", "(II)V"⟩, ⟨"VeiledTable", "text", "()I"⟩, ⟨"VeiledTable$Tape", "readInto", "(LVeiledTable$Table;)I"⟩, ⟨"VeiledTable$Tape", "advance", "()V"⟩, ⟨"VeiledTable$Tape", "sortAt", "(I)I"⟩, ⟨"VeiledTable$Tape", "readStatement", "(LVeiledTable$Table;)Z"⟩, ⟨"VeiledTable$Tape", "kindTold", "()LVeiledTable$Kind;"⟩, ⟨"VeiledTable$Tape", "isWord", "(Ljava/lang/String;)Z"⟩, ⟨"java/lang/String", "length", "()I"⟩, ⟨"java/lang/String", "coder", "()B"⟩, ⟨"java/lang/String", "charAt", "(I)C"⟩, ⟨"java/lang/String", "isLatin1", "()Z"⟩]
def ax_yt3 : List MethodName := [⟨"java/lang/StringLatin1", "charAt", "([BI)C"⟩, ⟨"java/lang/String", "checkIndex", "(II)V"⟩, ⟨"jdk/internal/util/Preconditions", "checkIndex", "(IILjava/util/function/BiFunction;)I"⟩, ⟨"java/lang/StringUTF16", "charAt", "([BI)C"⟩, ⟨"java/lang/StringUTF16", "checkIndex", "(I[B)V"⟩, ⟨"java/lang/StringUTF16", "length", "([B)I"⟩, ⟨"java/lang/StringUTF16", "getChar", "([BI)C"⟩, ⟨"VeiledTable$Tape", "isNumber", "(II)Z"⟩, ⟨"VeiledTable", "rack", "(II)I"⟩, ⟨"VeiledTable", "isRack", "(I)Z"⟩, ⟨"VeiledTable", "lay", "(III)I"⟩, ⟨"VeiledTable", "build", "(I)I"⟩, ⟨"VeiledTable", "maybe", "(IIIII)I"⟩, ⟨"VeiledTable", "isSheet", "(I)Z"⟩, ⟨"VeiledTable$Sheet", "open", "(II)V"⟩, ⟨"VeiledTable$Sheet", "put", "(II)V"⟩, ⟨"VeiledTable$Sheet", "sum", "()I"⟩, ⟨"VeiledTable", "sheet", "(III)I"⟩, ⟨"VeiledTable", "cell", "(III)I"⟩, ⟨"VeiledTable", "cellRefused", "(II)I"⟩, ⟨"VeiledTable", "read", "(II)I"⟩, ⟨"VeiledTable", "loadPlans", "(II)I"⟩, ⟨"VeiledTable", "hold", "(IIJ)I"⟩, ⟨"VeiledTable", "isHand", "(I)Z"⟩, ⟨"VeiledTable", "asStage", "(II)I"⟩, ⟨"VeiledTable", "asAmount", "(II)I"⟩, ⟨"VeiledTable", "asView", "(III)I"⟩, ⟨"VeiledTable", "image", "()I"⟩, ⟨"VeiledTable$Game", "become", "(LVeiledTable$Game;)V"⟩, ⟨"VeiledTable$Table", "become", "(LVeiledTable$Table;)V"⟩, ⟨"VeiledTable$Plans", "become", "(LVeiledTable$Plans;)V"⟩, ⟨"VeiledTable", "back", "()I"⟩, ⟨"VeiledTable", "count", "(I)J"⟩, ⟨"VeiledTableModel", "<init>", "()V"⟩, ⟨"VeiledTableModel", "pack", "(I)I"⟩, ⟨"VeiledTableModel", "in", "(JJJ)Z"⟩, ⟨"VeiledTableModel", "worth", "(II)I"⟩, ⟨"VeiledTableModel", "stage", "(III)I"⟩, ⟨"VeiledTableModel", "isToldRight", "(III)Z"⟩, ⟨"VeiledTableModel", "isPlayer", "(I)Z"⟩]
def ax_yt4 : List MethodName := [⟨"VeiledTableModel", "hasNumber", "(I)Z"⟩, ⟨"VeiledTableModel", "isChoice", "(I)Z"⟩, ⟨"VeiledTableModel", "isCardLeft", "(I)Z"⟩, ⟨"VeiledTableModel", "isCardOut", "(I)Z"⟩, ⟨"VeiledTableModel", "outAhead", "(I)I"⟩, ⟨"VeiledTableModel", "adds", "(III)I"⟩, ⟨"VeiledTableModel", "stageOf", "(II)I"⟩, ⟨"VeiledTableModel", "isStage", "(I)Z"⟩, ⟨"VeiledTableModel", "seenBy", "(II)I"⟩, ⟨"VeiledTableModel", "seen", "(II)I"⟩, ⟨"VeiledTableModel", "isBehind", "(I)Z"⟩, ⟨"VeiledTableModel", "drop", "()I"⟩, ⟨"VeiledTableModel", "ways", "(I)I"⟩, ⟨"VeiledTableModel", "waysBehind", "(I)I"⟩, ⟨"VeiledTableModel", "options", "(I)I"⟩, ⟨"VeiledTableModel", "happened", "(II)I"⟩, ⟨"VeiledTableModel", "isWay", "(I)Z"⟩, ⟨"VeiledTableModel", "lays", "(II)V"⟩, ⟨"VeiledTableModel", "chance", "(II)J"⟩, ⟨"VeiledTableModel", "isPart", "(I)Z"⟩, ⟨"VeiledTableModel", "refused", "(I)J"⟩, ⟨"VeiledTableModel", "chanceBelow", "()J"⟩, ⟨"VeiledTableModel", "isChance", "(I)Z"⟩, ⟨"VeiledTableModel", "view", "(III)I"⟩, ⟨"VeiledTableModel", "viewOf", "(II)I"⟩, ⟨"VeiledTableModel", "worlds", "(III)I"⟩, ⟨"VeiledTableModel", "worldsOf", "(IIJ)I"⟩, ⟨"VeiledTableModel", "world", "(IIII)I"⟩, ⟨"VeiledTableModel", "odds", "(IIIIII)J"⟩, ⟨"VeiledTableModel", "isPlayed", "(II)Z"⟩, ⟨"VeiledTableModel", "chosen", "(III)I"⟩, ⟨"VeiledTableModel", "planAt", "(III)I"⟩, ⟨"VeiledTableModel", "divisor", "(JJ)J"⟩, ⟨"VeiledTableModel", "sets", "(I)I"⟩, ⟨"VeiledTableModel", "laysSets", "(I)V"⟩, ⟨"VeiledTableModel", "laysViews", "(II)V"⟩, ⟨"VeiledTableModel", "setOf", "(III)I"⟩, ⟨"VeiledTableModel", "recalls", "(I)I"⟩, ⟨"VeiledTableModel", "recallsAt", "(II)Z"⟩, ⟨"VeiledTableModel", "plan", "(IIII)I"⟩]
def ax_yt5 : List MethodName := [⟨"VeiledTableModel", "tells", "(IIII)Z"⟩, ⟨"VeiledTableModel", "lot", "(I)I"⟩, ⟨"VeiledTableModel", "draw", "()I"⟩, ⟨"VeiledTableModel", "unplan", "()I"⟩, ⟨"VeiledTableModel", "rule", "(IIIIIII)I"⟩, ⟨"VeiledTableModel", "ruleOf", "(II)I"⟩, ⟨"VeiledTableModel", "isSo", "(I)Z"⟩, ⟨"VeiledTableModel", "amountOf", "([III)I"⟩, ⟨"VeiledTableModel", "unrule", "()I"⟩, ⟨"VeiledTableModel", "pay", "(II)J"⟩, ⟨"VeiledTableModel", "payOf", "(I)I"⟩, ⟨"VeiledTableModel", "fits", "(JJ)Z"⟩, ⟨"VeiledTableModel", "mean", "(II)J"⟩, ⟨"VeiledTableModel", "sumOf", "(I)J"⟩, ⟨"VeiledTableModel", "reply", "(II)J"⟩, ⟨"VeiledTableModel", "isMuch", "(I)Z"⟩, ⟨"VeiledTableModel", "findsReply", "(I)V"⟩, ⟨"VeiledTableModel", "laysPlayed", "(I)V"⟩, ⟨"VeiledTableModel", "setAt", "(II)I"⟩, ⟨"VeiledTableModel", "triedSum", "()J"⟩, ⟨"VeiledTableModel", "goesOn", "()Z"⟩, ⟨"VeiledTableModel", "better", "(I)I"⟩, ⟨"VeiledTableModel", "settled", "()I"⟩, ⟨"VeiledTableModel", "raise", "(J)I"⟩, ⟨"VeiledTableModel", "feed", "(II)I"⟩, ⟨"VeiledTableModel", "text", "()I"⟩, ⟨"VeiledTableModel", "statement", "()Z"⟩, ⟨"VeiledTableModel", "next", "()V"⟩, ⟨"VeiledTableModel", "here", "()I"⟩, ⟨"VeiledTableModel", "isToken", "(Ljava/lang/String;)Z"⟩, ⟨"VeiledTableModel", "must", "(Z)Z"⟩, ⟨"VeiledTableModel", "number", "(II)Z"⟩, ⟨"VeiledTableModel", "rack", "(II)I"⟩, ⟨"VeiledTableModel", "isRack", "(I)Z"⟩, ⟨"VeiledTableModel", "lay", "(III)I"⟩, ⟨"VeiledTableModel", "build", "(I)I"⟩, ⟨"VeiledTableModel", "maybe", "(IIIII)I"⟩, ⟨"VeiledTableModel", "isSheet", "(I)Z"⟩, ⟨"VeiledTableModel", "becomes", "(III)V"⟩, ⟨"VeiledTableModel", "sheet", "(III)I"⟩]
def ax_yt6 : List MethodName := [⟨"VeiledTableModel", "cell", "(III)I"⟩, ⟨"VeiledTableModel", "wrong", "(II)I"⟩, ⟨"VeiledTableModel", "read", "(II)I"⟩, ⟨"VeiledTableModel", "loadPlans", "(II)I"⟩, ⟨"VeiledTableModel", "hold", "(IIJ)I"⟩, ⟨"VeiledTableModel", "isHand", "(I)Z"⟩, ⟨"VeiledTableModel", "asStage", "(II)I"⟩, ⟨"VeiledTableModel", "lacks", "(II)I"⟩, ⟨"VeiledTableModel", "asAmount", "(II)I"⟩, ⟨"VeiledTableModel", "asView", "(III)I"⟩, ⟨"VeiledTableModel", "image", "()I"⟩, ⟨"VeiledTableModel", "passesAll", "(Z)V"⟩, ⟨"VeiledTableModel", "passes", "(I)I"⟩, ⟨"VeiledTableModel", "passesRow", "([I)V"⟩, ⟨"VeiledTableModel", "back", "()I"⟩, ⟨"VeiledTableModel", "count", "(I)J"⟩, ⟨"VeiledTableLaw", "law", "([I)Z"⟩]
def ax_yt : List MethodName := ax_yt0 ++ (ax_yt1 ++ (ax_yt2 ++ (ax_yt3 ++ (ax_yt4 ++ (ax_yt5 ++ (ax_yt6))))))
def ax_m0 : ByteArray × Nat × Option FieldType × Nat × Bool := (⟨#[]⟩, 0, none, 19, false)
def ax_mi (m : Nat) : ByteArray × Nat × Option FieldType × Nat × Bool := ax_mt.getD m ax_m0
def ax_code (m : Nat) : ByteArray := (ax_mi m).1
def ax_L (m : Nat) : Nat := (ax_mi m).2.1
def ax_ret (m : Nat) : Option FieldType := (ax_mi m).2.2.1
def ax_cp : List Nat := [97, 105, 111, 169, 225, 256, 291, 319, 378, 382, 386, 390, 394, 397, 402, 406, 410, 414, 422, 426, 430, 434, 458, 463, 467, 471, 475, 479, 487, 495, 500, 504, 508, 512, 516, 520, 524, 529, 532, 537, 541, 545, 552, 556, 560, 564, 568, 573, 577, 581, 585, 589, 594, 601, 606, 609, 613, 618, 621, 624, 627, 630, 634, 638, 642, 647, 652, 656, 661, 665, 670, 674, 679, 684, 688, 694, 698, 704, 707, 726, 729, 750, 754, 760, 764, 768, 772, 776, 780, 784, 788, 795, 799, 806, 810, 814, 818, 823, 829, 833, 838, 841, 845, 849, 854, 858, 862, 867, 871, 875, 879, 883, 887, 891, 895, 900, 904, 908, 914, 918, 921, 924, 929, 932, 935, 938, 942, 954, 961, 964, 968, 972, 976, 979, 983, 987, 991, 995, 999, 1003, 1007, 1011, 1015, 1018, 1022, 1028, 1033, 1037, 1041, 1045, 1051, 1055, 1059, 1064, 1216, 1220, 1224, 1230, 1234, 1237, 1242, 1245, 1250, 1253, 1257, 1261, 1265, 1269, 1273, 1277, 1281, 1285, 1289, 1293, 1297, 1301, 1305, 1309, 1313, 1316, 1319, 1324, 1327, 1331, 1335, 1339, 1343, 1347, 1351, 1355, 1359, 1363, 1366, 1370, 1374, 1378, 1382, 1386, 1390, 1394, 1398, 1402, 1406, 1411, 1415, 1422, 1426, 1430, 1434, 1438, 1442, 1445, 1451, 1455, 1459, 1463, 1467, 1471, 1475, 1479, 1483, 1487, 1491, 1495, 1500, 1504, 1508, 1512, 1516, 1524, 1530, 1534, 1539, 1542, 1546, 1550, 1554, 1557, 1561, 1565, 1569, 1573, 1577, 1581, 1585, 1588, 1592, 1596, 1600, 1604, 1608, 1612, 1616, 1620, 1624, 1628, 0]
def ax_own (m : Nat) : Nat := (ax_mi m).2.2.2.1
def ax_stt (m : Nat) : Bool := (ax_mi m).2.2.2.2
def ax_y (m : Nat) : MethodName := ax_yt.getD m ⟨"", "", ""⟩
def ax_law : Nat := 256
/-- the class and the place of the field that a link names: own class, index, class, place -/
def ax_fldT : List ((Nat × Nat) × (Nat × Nat)) := [((7, 9), (7, 0)), ((10, 81), (7, 0)), ((0, 41), (7, 0)), ((7, 15), (7, 1)), ((10, 91), (7, 1)), ((0, 44), (7, 1)), ((7, 21), (7, 2)), ((7, 25), (7, 3)), ((4, 31), (7, 3)), ((9, 29), (7, 3)), ((0, 32), (7, 3)), ((10, 117), (7, 3)), ((3, 85), (7, 3)), ((7, 28), (7, 4)), ((3, 57), (7, 4)), ((10, 231), (7, 4)), ((7, 31), (7, 5)), ((4, 44), (7, 5)), ((10, 151), (7, 5)), ((7, 36), (7, 6)), ((10, 139), (7, 6)), ((7, 39), (7, 7)), ((7, 42), (7, 8)), ((0, 37), (7, 8)), ((9, 34), (7, 8)), ((3, 82), (7, 8)), ((4, 70), (7, 8)), ((10, 161), (7, 8)), ((2, 9), (2, 0)), ((2, 15), (2, 1)), ((2, 18), (2, 2)), ((1, 56), (2, 2)), ((10, 250), (2, 2)), ((1, 12), (1, 0)), ((10, 77), (1, 0)), ((3, 45), (1, 0)), ((1, 21), (1, 1)), ((10, 234), (1, 1)), ((1, 27), (1, 2)), ((10, 256), (1, 2)), ((1, 33), (1, 3)), ((10, 267), (1, 3)), ((1, 37), (1, 4)), ((10, 277), (1, 4)), ((1, 41), (1, 5)), ((10, 280), (1, 5)), ((1, 44), (1, 6)), ((10, 253), (1, 6)), ((1, 48), (1, 7)), ((10, 289), (1, 7)), ((4, 9), (4, 0)), ((3, 140), (4, 0)), ((10, 212), (4, 0)), ((4, 15), (4, 1)), ((10, 215), (4, 1)), ((4, 18), (4, 2)), ((10, 218), (4, 2)), ((4, 21), (4, 3)), ((3, 134), (4, 3)), ((10, 209), (4, 3)), ((4, 25), (4, 4)), ((4, 28), (4, 5)), ((3, 9), (3, 0)), ((3, 15), (3, 1)), ((3, 18), (3, 2)), ((3, 22), (3, 3)), ((3, 26), (3, 4)), ((3, 29), (3, 5)), ((3, 32), (3, 6)), ((3, 35), (3, 7)), ((3, 38), (3, 8)), ((8, 9), (8, 0)), ((8, 15), (8, 1)), ((10, 322), (8, 1)), ((8, 19), (8, 2)), ((8, 22), (8, 3)), ((8, 25), (8, 4)), ((8, 28), (8, 5)), ((5, 9), (5, 0)), ((10, 350), (5, 0)), ((5, 15), (5, 1)), ((10, 353), (5, 1)), ((5, 18), (5, 2)), ((10, 347), (5, 2)), ((10, 10), (10, 0)), ((10, 16), (10, 1)), ((10, 19), (10, 2)), ((10, 26), (10, 3)), ((10, 33), (10, 4)), ((10, 40), (10, 5)), ((10, 46), (10, 6)), ((10, 50), (10, 7)), ((10, 57), (10, 8)), ((10, 61), (10, 9)), ((10, 64), (10, 10)), ((10, 69), (10, 11)), ((10, 73), (10, 12)), ((6, 7), (6, 0)), ((3, 60), (6, 0)), ((10, 124), (6, 0)), ((7, 71), (6, 0)), ((6, 13), (6, 1)), ((3, 72), (6, 1)), ((10, 133), (6, 1)), ((7, 81), (6, 1)), ((6, 17), (6, 2)), ((10, 136), (6, 2)), ((1, 74), (6, 2)), ((7, 91), (6, 2)), ((9, 9), (9, 0)), ((9, 15), (9, 1)), ((9, 18), (9, 2)), ((9, 21), (9, 3)), ((0, 9), (0, 0)), ((0, 15), (0, 1)), ((0, 18), (0, 2)), ((0, 21), (0, 3)), ((0, 24), (0, 4)), ((11, 7), (11, 0)), ((11, 13), (11, 1)), ((11, 127), (11, 2)), ((11, 17), (11, 3)), ((11, 20), (11, 4)), ((11, 23), (11, 5)), ((11, 136), (11, 6)), ((11, 26), (11, 7)), ((11, 139), (11, 8)), ((11, 29), (11, 9)), ((11, 32), (11, 10)), ((11, 36), (11, 11)), ((11, 39), (11, 12)), ((11, 42), (11, 13)), ((11, 232), (11, 14)), ((11, 45), (11, 15)), ((11, 249), (11, 16)), ((11, 48), (11, 17)), ((11, 51), (11, 18)), ((11, 298), (11, 19)), ((11, 54), (11, 20)), ((11, 57), (11, 21)), ((11, 60), (11, 22)), ((11, 286), (11, 23)), ((11, 63), (11, 24)), ((11, 313), (11, 25)), ((11, 316), (11, 26)), ((11, 322), (11, 27)), ((11, 319), (11, 28)), ((11, 346), (11, 29)), ((11, 84), (11, 30)), ((11, 88), (11, 31)), ((11, 91), (11, 32)), ((11, 94), (11, 33)), ((11, 97), (11, 34)), ((11, 100), (11, 35)), ((11, 103), (11, 36)), ((11, 106), (11, 37)), ((11, 109), (11, 38)), ((11, 113), (11, 39)), ((11, 398), (11, 40)), ((11, 116), (11, 41)), ((11, 405), (11, 42)), ((11, 388), (11, 43)), ((11, 384), (11, 44)), ((10, 372), (12, 2)), ((10, 375), (12, 3)), ((10, 128), (12, 0)), ((8, 78), (12, 1)), ((13, 9), (13, 0)), ((13, 15), (13, 1)), ((8, 52), (12, 2)), ((8, 62), (12, 3))]
def ax_fld (o i : Nat) : Option (Nat × Nat) := ax_fldT.lookup (o, i)
/-- of each class' fields the sort: 0 int, 1 long, 2 a reference, 3 boolean; and whether it is final -/
def ax_fcL : List (List (Nat × Bool)) := [[(0, true), (0, true), (0, true), (0, true), (2, true)], [(2, true), (2, true), (2, true), (2, true), (2, true), (2, true), (0, false), (1, false)], [(2, true), (2, true), (0, false)], [(2, false), (2, false), (0, false), (2, true), (2, true), (0, false), (0, false), (2, true), (2, true)], [(2, true), (2, true), (2, true), (0, false), (2, true), (2, true)], [(0, false), (0, false), (2, true)], [(2, true), (0, true), (0, true)], [(0, false), (2, true), (2, true), (0, false), (2, true), (2, true), (2, true), (2, true), (2, true)], [(2, true), (0, false), (0, false), (0, false), (0, false), (0, false)], [(0, true), (0, true), (0, true), (2, true)], [(2, true), (2, true), (3, false), (2, true), (2, true), (2, true), (2, true), (2, true), (2, true), (2, true), (2, true), (2, true), (2, true)], [(0, false), (2, true), (0, false), (2, true), (2, true), (2, true), (0, false), (2, true), (0, false), (2, true), (1, false), (2, true), (2, true), (2, true), (0, false), (2, true), (0, false), (2, true), (2, true), (1, false), (2, true), (2, true), (2, true), (0, false), (2, true), (0, false), (0, false), (0, false), (0, false), (0, false), (2, true), (2, true), (2, true), (2, true), (2, true), (2, true), (2, true), (2, true), (2, true), (2, true), (3, false), (2, true), (1, false), (0, false), (3, false)], [(0, true), (2, true), (3, true), (3, true)], [(2, true), (0, true)]]
def ax_fT (c k : Nat) : String × String × String × Bool := if c < 12 then (ax_cl.getD c ("", fun _ => ("", "", "", false), 0)).2.1 k else if c = 12 then (match k with | 0 => ("VeiledTable$Kind", "number", "I", true) | 1 => ("VeiledTable$Kind", "word", "Ljava/lang/String;", true) | 2 => ("VeiledTable$Kind", "hasPlayer", "Z", true) | _ => ("VeiledTable$Kind", "hasNumber", "Z", true)) else (match k with | 0 => ("java/lang/String", "value", "[B", true) | _ => ("java/lang/String", "coder", "B", true))
def ax_fc (c j : Nat) : Nat := ((ax_fcL.getD c []).getD j (0, false)).1
def ax_ff (c j : Nat) : Bool := ((ax_fcL.getD c []).getD j (0, false)).2
def ax_nf (c : Nat) : Nat := (ax_fcL.getD c []).length
/-- static cells: class (20 int[], 21 long[], 24 int[][], 30 + c an array of class c) and how long -/
def ax_styL : List (Nat × Nat) := [(10, 13), (1, 8), (7, 9), (20, 5), (36, 6), (20, 6), (20, 7), (24, 7), (20, 6), (20, 6), (20, 6), (20, 6), (20, 6), (20, 6), (20, 6), (24, 6), (20, 1620), (20, 1620), (20, 1620), (20, 1620), (20, 1620), (20, 1620), (20, 6), (2, 3), (20, 40), (20, 40), (39, 8), (30, 8), (20, 8), (20, 8), (1, 8), (7, 9), (20, 5), (36, 6), (20, 6), (20, 7), (24, 7), (20, 6), (20, 6), (20, 6), (20, 6), (20, 6), (20, 6), (20, 6), (24, 6), (20, 1620), (20, 1620), (20, 1620), (20, 1620), (20, 1620), (20, 1620), (20, 6), (2, 3), (20, 40), (20, 40), (39, 8), (30, 8), (20, 8), (20, 8), (4, 6), (20, 806), (20, 806), (20, 806), (20, 1620), (20, 806), (3, 9), (20, 1620), (20, 1620), (21, 1620), (20, 1620), (20, 63), (20, 9), (8, 6), (20, 120), (36, 12), (20, 2), (35, 4), (5, 3), (20, 40), (5, 3), (20, 40), (5, 3), (20, 40), (5, 3), (20, 40), (20, 4), (36, 4), (30, 4), (21, 4), (11, 45), (20, 5), (20, 6), (20, 6), (20, 6), (20, 160), (20, 56), (20, 6), (20, 9720), (20, 9720), (20, 12), (20, 9720), (20, 9720), (20, 1620), (20, 9720), (20, 9720), (20, 120), (43, 8), (20, 2), (20, 48), (20, 4), (20, 4), (20, 160), (20, 4), (20, 4), (21, 4), (20, 224), (20, 243)]
/-- what the final references of static cells hold, once all is made -/
def ax_cfL : List (List (Option Nat)) := [[some 65, some 94, none, some 123, some 129, some 136, some 138, some 139, some 140, some 149, some 150, some 151, some 152], [some 66, some 87, some 90, some 91, some 92, some 93, none, none], [none, some 67, some 68, none, some 69, some 70, some 71, some 79, some 86], [], [], [], [], [some 72, some 73, some 74, some 75, some 76, some 77, some 78], [], [], [], [], [], [], [], [some 80, some 81, some 82, some 83, some 84, some 85], [], [], [], [], [], [], [], [some 88, some 89, none], [], [], [], [], [], [], [some 95, some 116, some 119, some 120, some 121, some 122, none, none], [none, some 96, some 97, none, some 98, some 99, some 100, some 108, some 115], [], [], [], [], [some 101, some 102, some 103, some 104, some 105, some 106, some 107], [], [], [], [], [], [], [], [some 109, some 110, some 111, some 112, some 113, some 114], [], [], [], [], [], [], [], [some 117, some 118, none], [], [], [], [], [], [], [some 124, some 125, some 126, none, some 127, some 128], [], [], [], [], [], [none, none, none, some 132, some 133, none, none, some 134, some 135], [], [], [], [], [], [], [some 137, none, none, none, none, none], [], [], [], [some 141, some 143, some 145, some 147], [none, none, some 142], [], [none, none, some 144], [], [none, none, some 146], [], [none, none, some 148], [], [], [], [], [], [none, some 154, none, some 155, some 156, some 157, none, some 158, none, some 159, none, some 160, some 161, some 162, none, some 163, none, some 164, some 165, none, some 166, some 167, some 168, none, some 169, none, none, none, none, none, some 170, some 171, some 172, some 173, some 174, some 175, some 176, some 177, some 178, some 179, none, some 180, none, none, none], [], [], [], [], [], [], [], [], [], [], [], [], [], [], [], [], [some 10, some 11, some 12, some 13, some 14, some 15, some 16, some 17], [], [], [], [], [], [], [], [], [], []]
def ax_txt : List (List Int32) := [[100, 101, 97, 108], [116, 117, 114, 110], [97, 115, 107], [118, 101, 105, 108], [115, 104, 111, 119], [102, 111, 114, 103, 101, 116], [116, 111, 115, 115], [112, 101, 101, 107], [59]]
/-- kinds, KINDS, the formatter, texts, their bytes -/
def ax_ctyL : List (Nat × Nat) := [(12, 4), (12, 4), (12, 4), (12, 4), (12, 4), (12, 4), (12, 4), (12, 4), (42, 8), (99, 0), (13, 2), (13, 2), (13, 2), (13, 2), (13, 2), (13, 2), (13, 2), (13, 2), (13, 2), (99, 0), (22, 4), (22, 4), (22, 3), (22, 4), (22, 4), (22, 6), (22, 4), (22, 4), (22, 1)]
def ax_ccL : List (List Value) := [[.int 0, .ref 10, .int 1, .int 0], [.int 1, .ref 11, .int 0, .int 0], [.int 2, .ref 12, .int 1, .int 1], [.int 3, .ref 13, .int 1, .int 1], [.int 4, .ref 14, .int 1, .int 0], [.int 5, .ref 15, .int 1, .int 0], [.int 6, .ref 16, .int 0, .int 1], [.int 7, .ref 17, .int 1, .int 1], [.ref 0, .ref 1, .ref 2, .ref 3, .ref 4, .ref 5, .ref 6, .ref 7], [], [.ref 20, .int 0], [.ref 21, .int 0], [.ref 22, .int 0], [.ref 23, .int 0], [.ref 24, .int 0], [.ref 25, .int 0], [.ref 26, .int 0], [.ref 27, .int 0], [.ref 28, .int 0], [], [.int 100, .int 101, .int 97, .int 108], [.int 116, .int 117, .int 114, .int 110], [.int 97, .int 115, .int 107], [.int 118, .int 101, .int 105, .int 108], [.int 115, .int 104, .int 111, .int 119], [.int 102, .int 111, .int 114, .int 103, .int 101, .int 116], [.int 116, .int 111, .int 115, .int 115], [.int 112, .int 101, .int 101, .int 107], [.int 59]]
/-- class named by a link: own class, index, class (an array of it for anewarray) -/
def ax_newT : List ((Nat × Nat) × Nat) := [((18, 7), 10), ((10, 7), 1), ((1, 9), 7), ((7, 19), 6), ((1, 18), 2), ((1, 25), 9), ((1, 31), 0), ((10, 23), 4), ((10, 30), 3), ((10, 37), 8), ((10, 44), 6), ((10, 54), 5), ((10, 67), 0), ((10, 251), 9), ((8, 65), 6), ((18, 10), 11), ((11, 66), 13)]
def ax_new (o i : Nat) : Option Nat := ax_newT.lookup (o, i)
def ax_mna (o i : Nat) : Bool := decide ((o, i) = (7, 34))
def ax_stT : List ((Nat × Nat) × Value) := [((10, 102), .ref 8), ((12, 3), .ref 0), ((12, 7), .ref 1), ((7, 115), .ref 4), ((7, 118), .ref 5), ((12, 13), .ref 3), ((12, 25), .ref 7), ((12, 22), .ref 6), ((12, 10), .ref 2), ((8, 74), .ref 8), ((13, 38), .int 1), ((13, 1053), .ref 9)]
def ax_stN : List ((Nat × Nat) × (String × String × String)) := [((10, 102), ("VeiledTable", "KINDS", "[LVeiledTable$Kind;")), ((12, 3), ("VeiledTable$Kind", "DEAL", "LVeiledTable$Kind;")), ((12, 7), ("VeiledTable$Kind", "TURN", "LVeiledTable$Kind;")), ((7, 115), ("VeiledTable$Kind", "SHOW", "LVeiledTable$Kind;")), ((7, 118), ("VeiledTable$Kind", "FORGET", "LVeiledTable$Kind;")), ((12, 13), ("VeiledTable$Kind", "VEIL", "LVeiledTable$Kind;")), ((12, 25), ("VeiledTable$Kind", "PEEK", "LVeiledTable$Kind;")), ((12, 22), ("VeiledTable$Kind", "TOSS", "LVeiledTable$Kind;")), ((12, 10), ("VeiledTable$Kind", "ASK", "LVeiledTable$Kind;")), ((8, 74), ("VeiledTable", "KINDS", "[LVeiledTable$Kind;")), ((13, 38), ("java/lang/String", "COMPACT_STRINGS", "Z")), ((13, 1053), ("jdk/internal/util/Preconditions", "SIOOBE_FORMATTER", "Ljava/util/function/BiFunction;"))]
def ax_sta (o i : Nat) : Option Value := ax_stT.lookup (o, i)
def ax_ldT : List ((Nat × Nat) × Value) := [((10, 167), .long (-4611686018427387906)), ((10, 195), .long (-4611686018427387905)), ((10, 244), .int (1103515245)), ((10, 387), .long (9223372036854775807)), ((10, 389), .long (-9223372036854775808)), ((10, 297), .long (-4611686018427387909)), ((3, 132), .long (63)), ((10, 320), .long (1000000000)), ((11, 68), .ref 10), ((11, 70), .ref 11), ((11, 72), .ref 12), ((11, 74), .ref 13), ((11, 76), .ref 14), ((11, 78), .ref 15), ((11, 80), .ref 16), ((11, 82), .ref 17), ((11, 134), .long (5)), ((11, 142), .long (-9)), ((11, 144), .long (9)), ((11, 121), .long (2)), ((11, 152), .long (7)), ((11, 157), .long (3)), ((11, 119), .long (-4611686018427387904)), ((11, 252), .int (1103515245)), ((11, 257), .long (4)), ((11, 259), .long (-99)), ((11, 261), .long (99)), ((11, 272), .long (-9223372036854775808)), ((11, 274), .long (-1)), ((11, 311), .long (1000000000)), ((11, 328), .long (97)), ((11, 330), .long (122)), ((11, 332), .long (48)), ((11, 334), .long (57)), ((11, 363), .ref 18), ((18, 129), .long (4294967295)), ((12, 67), .ref 10), ((12, 73), .ref 11), ((12, 82), .ref 14), ((12, 85), .ref 15), ((12, 79), .ref 13), ((12, 91), .ref 17), ((12, 88), .ref 16), ((12, 76), .ref 12)]
def ax_ldc (o i : Nat) : Option Value := ax_ldT.lookup (o, i)
def ax_caT0 : List ((Nat × Nat) × (Nat × Nat × Nat)) := [((18, 9), (2, 0, 0)), ((10, 1), (4, 0, 0)), ((10, 9), (3, 1, 0)), ((1, 3), (4, 0, 0)), ((1, 11), (2, 2, 0)), ((7, 3), (4, 0, 0)), ((1, 20), (3, 3, 0)), ((2, 3), (4, 0, 0)), ((10, 25), (3, 4, 0)), ((4, 3), (4, 0, 0)), ((10, 32), (3, 5, 0)), ((3, 3), (4, 0, 0)), ((10, 39), (3, 6, 0)), ((8, 3), (4, 0, 0)), ((10, 56), (3, 7, 0)), ((5, 3), (4, 0, 0)), ((18, 13), (0, 8, 1)), ((10, 87), (0, 9, 1)), ((1, 52), (0, 10, 1)), ((18, 18), (0, 11, 2)), ((18, 23), (0, 12, 3)), ((10, 94), (1, 13, 3)), ((10, 173), (1, 14, 1)), ((10, 98), (0, 15, 0)), ((10, 106), (0, 16, 1)), ((7, 53), (0, 17, 0)), ((7, 59), (0, 18, 0)), ((7, 63), (0, 19, 1)), ((7, 67), (0, 20, 1)), ((10, 110), (2, 21, 3)), ((6, 1), (4, 0, 0)), ((10, 113), (0, 22, 1)), ((7, 84), (0, 15, 0)), ((7, 87), (0, 16, 1)), ((7, 94), (5, 23, 2)), ((7, 100), (0, 24, 2)), ((7, 108), (0, 25, 2)), ((7, 111), (0, 26, 2)), ((7, 104), (0, 27, 2)), ((7, 121), (0, 28, 0)), ((18, 28), (0, 29, 2)), ((10, 120), (0, 20, 1)), ((18, 32), (0, 30, 2)), ((10, 143), (0, 31, 2)), ((10, 147), (0, 32, 1)), ((18, 36), (0, 33, 0)), ((18, 41), (0, 34, 1)), ((18, 45), (0, 35, 2)), ((10, 154), (0, 36, 1)), ((10, 157), (0, 26, 2)), ((18, 49), (0, 37, 2)), ((10, 164), (1, 38, 1)), ((10, 169), (0, 39, 1)), ((7, 131), (0, 40, 1)), ((7, 75), (0, 41, 0)), ((12, 62), (0, 17, 0)), ((18, 54), (0, 42, 3)), ((10, 176), (0, 43, 2)), ((18, 58), (0, 44, 3)), ((10, 180), (0, 45, 3))]
def ax_caT1 : List ((Nat × Nat) × (Nat × Nat × Nat)) := [((7, 127), (0, 46, 3)), ((7, 124), (0, 43, 2)), ((18, 62), (0, 47, 4)), ((10, 184), (0, 48, 4)), ((18, 67), (0, 49, 6)), ((10, 188), (0, 50, 3)), ((3, 41), (0, 51, 3)), ((3, 51), (0, 20, 1)), ((3, 66), (0, 52, 0)), ((3, 75), (0, 46, 3)), ((3, 79), (0, 53, 3)), ((1, 66), (0, 20, 1)), ((1, 70), (0, 54, 3)), ((2, 22), (1, 55, 3)), ((10, 192), (0, 56, 4)), ((10, 197), (0, 57, 6)), ((10, 201), (1, 58, 3)), ((10, 381), (7, 59, 1)), ((10, 303), (1, 60, 2)), ((10, 385), (8, 61, 2)), ((18, 72), (0, 62, 1)), ((10, 205), (0, 63, 2)), ((4, 36), (0, 64, 2)), ((7, 78), (0, 52, 0)), ((4, 40), (0, 65, 3)), ((4, 47), (0, 46, 3)), ((4, 51), (0, 66, 1)), ((18, 76), (0, 67, 3)), ((10, 221), (0, 53, 3)), ((18, 80), (0, 68, 1)), ((10, 224), (0, 69, 2)), ((4, 55), (0, 63, 2)), ((4, 59), (0, 70, 4)), ((4, 63), (0, 71, 2)), ((4, 67), (0, 43, 2)), ((18, 84), (0, 72, 4)), ((10, 228), (0, 64, 2)), ((10, 238), (0, 73, 4)), ((18, 88), (0, 74, 1)), ((10, 245), (5, 23, 2)), ((18, 92), (0, 75, 0)), ((18, 96), (0, 76, 7)), ((10, 260), (0, 77, 1)), ((10, 264), (2, 78, 4)), ((9, 3), (4, 0, 0)), ((10, 270), (0, 79, 1)), ((10, 274), (2, 80, 5)), ((0, 3), (4, 0, 0)), ((18, 101), (0, 81, 2)), ((10, 283), (0, 82, 1)), ((1, 79), (0, 77, 1)), ((1, 83), (0, 79, 1)), ((1, 87), (0, 83, 1)), ((9, 25), (0, 84, 1)), ((1, 91), (0, 85, 1)), ((0, 28), (0, 86, 1)), ((18, 105), (0, 87, 0)), ((18, 109), (0, 88, 2)), ((10, 286), (0, 89, 1)), ((1, 95), (0, 82, 1))]
def ax_caT2 : List ((Nat × Nat) × (Nat × Nat × Nat)) := [((10, 293), (1, 90, 2)), ((18, 113), (0, 91, 2)), ((10, 299), (0, 92, 2)), ((3, 88), (0, 50, 3)), ((3, 91), (0, 26, 2)), ((3, 95), (0, 89, 1)), ((18, 117), (0, 93, 2)), ((10, 307), (0, 94, 1)), ((10, 310), (0, 95, 3)), ((3, 99), (0, 96, 3)), ((3, 111), (0, 64, 2)), ((3, 115), (0, 97, 3)), ((3, 119), (0, 43, 2)), ((3, 123), (0, 71, 2)), ((3, 103), (0, 98, 0)), ((3, 128), (0, 99, 1)), ((3, 107), (0, 100, 2)), ((3, 135), (6, 101, 2)), ((18, 121), (0, 102, 1)), ((10, 314), (0, 103, 1)), ((10, 378), (0, 54, 3)), ((10, 317), (0, 104, 1)), ((18, 125), (0, 105, 0)), ((18, 131), (0, 106, 1)), ((18, 136), (0, 107, 2)), ((10, 323), (0, 108, 2)), ((18, 140), (0, 109, 0)), ((10, 326), (0, 110, 1)), ((8, 31), (0, 111, 0)), ((8, 96), (0, 112, 1)), ((8, 34), (0, 113, 1)), ((8, 38), (0, 114, 0)), ((8, 82), (0, 115, 1)), ((8, 86), (0, 116, 0)), ((13, 335), (0, 117, 0)), ((8, 92), (0, 118, 1)), ((13, 492), (0, 119, 0)), ((13, 495), (1, 120, 2)), ((15, 9), (1, 121, 2)), ((13, 1059), (1, 122, 3)), ((13, 498), (1, 123, 2)), ((16, 67), (1, 124, 2)), ((16, 48), (1, 125, 1)), ((16, 414), (1, 121, 2)), ((16, 71), (1, 126, 2)), ((8, 42), (0, 15, 0)), ((8, 48), (0, 16, 1)), ((8, 58), (0, 127, 2)), ((8, 67), (2, 21, 3)), ((8, 70), (0, 22, 1)), ((18, 144), (0, 128, 2)), ((10, 330), (1, 129, 1)), ((18, 148), (0, 130, 3)), ((18, 152), (0, 131, 1)), ((18, 156), (0, 132, 5)), ((10, 333), (1, 133, 1)), ((10, 336), (0, 134, 2)), ((10, 338), (0, 135, 2)), ((10, 340), (0, 136, 0)), ((18, 161), (0, 137, 3))]
def ax_caT3 : List ((Nat × Nat) × (Nat × Nat × Nat)) := [((18, 165), (0, 138, 3)), ((10, 344), (0, 139, 2)), ((18, 169), (0, 140, 2)), ((18, 173), (0, 141, 2)), ((18, 177), (0, 142, 3)), ((10, 356), (1, 143, 1)), ((18, 182), (0, 144, 2)), ((10, 359), (0, 52, 0)), ((10, 362), (0, 41, 0)), ((18, 186), (0, 145, 2)), ((10, 365), (0, 85, 1)), ((18, 190), (0, 146, 3)), ((18, 194), (0, 147, 0)), ((10, 368), (0, 148, 1)), ((1, 59), (0, 149, 1)), ((7, 45), (0, 10, 1)), ((7, 49), (0, 22, 1)), ((1, 63), (0, 150, 1)), ((18, 198), (0, 151, 0)), ((18, 202), (0, 152, 1)), ((18, 12), (2, 153, 0)), ((11, 1), (4, 0, 0)), ((18, 17), (0, 154, 1)), ((11, 123), (1, 155, 3)), ((18, 22), (0, 156, 2)), ((18, 27), (0, 157, 3)), ((11, 163), (0, 158, 3)), ((11, 149), (1, 159, 1)), ((11, 154), (1, 160, 1)), ((11, 130), (1, 161, 1)), ((11, 167), (0, 162, 1)), ((11, 146), (1, 163, 1)), ((11, 159), (0, 164, 1)), ((11, 170), (0, 165, 3)), ((18, 31), (0, 166, 2)), ((11, 174), (0, 167, 1)), ((11, 177), (0, 168, 2)), ((18, 35), (0, 169, 2)), ((11, 181), (0, 170, 1)), ((18, 40), (0, 171, 0)), ((18, 44), (0, 172, 1)), ((11, 187), (0, 173, 1)), ((11, 184), (0, 174, 1)), ((18, 48), (0, 175, 2)), ((11, 190), (0, 176, 1)), ((11, 193), (0, 177, 2)), ((18, 53), (0, 178, 2)), ((11, 200), (1, 179, 1)), ((11, 203), (1, 180, 1)), ((11, 207), (0, 181, 0)), ((11, 197), (1, 182, 1)), ((18, 57), (0, 183, 3)), ((11, 211), (0, 184, 2)), ((18, 61), (0, 185, 3)), ((11, 214), (0, 186, 3)), ((18, 66), (0, 187, 4)), ((18, 71), (0, 188, 6)), ((11, 224), (0, 189, 2)), ((11, 221), (0, 190, 3)), ((11, 218), (0, 191, 3))]
def ax_caT4 : List ((Nat × Nat) × (Nat × Nat × Nat)) := [((11, 228), (1, 192, 2)), ((18, 75), (0, 193, 1)), ((11, 238), (0, 194, 1)), ((11, 235), (0, 195, 2)), ((18, 79), (0, 196, 3)), ((18, 83), (0, 197, 1)), ((11, 242), (0, 198, 2)), ((18, 87), (0, 199, 4)), ((11, 245), (0, 200, 4)), ((18, 91), (0, 201, 1)), ((11, 253), (0, 202, 0)), ((18, 95), (0, 203, 0)), ((18, 100), (0, 204, 7)), ((18, 104), (0, 205, 2)), ((11, 263), (0, 206, 1)), ((11, 266), (0, 207, 3)), ((18, 108), (0, 208, 0)), ((18, 112), (0, 209, 2)), ((11, 276), (0, 210, 1)), ((11, 279), (1, 211, 2)), ((18, 116), (0, 212, 2)), ((11, 283), (0, 213, 1)), ((18, 120), (0, 214, 2)), ((11, 305), (0, 215, 1)), ((11, 308), (0, 216, 1)), ((11, 292), (0, 217, 1)), ((11, 289), (0, 218, 2)), ((11, 295), (0, 219, 0)), ((11, 301), (0, 220, 0)), ((18, 124), (0, 221, 1)), ((18, 128), (0, 222, 0)), ((18, 135), (0, 223, 1)), ((18, 139), (0, 224, 2)), ((18, 143), (0, 225, 0)), ((11, 360), (0, 226, 0)), ((11, 343), (0, 227, 0)), ((11, 325), (0, 228, 0)), ((11, 353), (0, 229, 1)), ((11, 336), (0, 116, 0)), ((11, 339), (0, 118, 1)), ((11, 349), (0, 230, 1)), ((11, 357), (0, 231, 2)), ((18, 147), (0, 232, 2)), ((11, 365), (1, 233, 1)), ((18, 151), (0, 234, 3)), ((18, 155), (0, 235, 1)), ((18, 160), (0, 236, 5)), ((11, 368), (1, 237, 1)), ((11, 371), (0, 238, 3)), ((18, 164), (0, 239, 3)), ((18, 168), (0, 240, 3)), ((11, 375), (0, 241, 2)), ((18, 172), (0, 242, 2)), ((18, 176), (0, 243, 2)), ((18, 181), (0, 244, 3)), ((11, 378), (1, 245, 1)), ((18, 185), (0, 246, 2)), ((11, 381), (0, 247, 2)), ((18, 189), (0, 248, 2)), ((18, 193), (0, 249, 3))]
def ax_caT5 : List ((Nat × Nat) × (Nat × Nat × Nat)) := [((18, 197), (0, 250, 0)), ((11, 401), (0, 251, 1)), ((11, 391), (0, 252, 1)), ((11, 394), (0, 253, 1)), ((18, 201), (0, 254, 0)), ((18, 206), (0, 255, 1))]
/-- calls: own class, index; how (0 virtual, 1 static, 2 constructor, 3 constructor of a nest mate, 4 Object's), which method, how many arguments -/
def ax_caT : List ((Nat × Nat) × (Nat × Nat × Nat)) := ax_caT0 ++ (ax_caT1 ++ (ax_caT2 ++ (ax_caT3 ++ (ax_caT4 ++ (ax_caT5)))))
def ax_cal (o i : Nat) : Option (Nat × Nat × Nat) := ax_caT.lookup (o, i)
