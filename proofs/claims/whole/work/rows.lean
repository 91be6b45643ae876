section
-- ===== PART A: goes FIRST, ahead of the names: the tables' words, and 'selects' of the private methods out of them =====
/-- a private method of a class that the tables say can be made, by its rows of tables_1 -/
def lw_okq (q : MethodName × Nat) : Prop := (q.1.cls ≠ "java/lang/invoke/MethodHandle" ∧ q.1.cls ≠ "java/lang/invoke/VarHandle") ∧ Cond.instantiable q.1.cls q.2 ∈ tables_1 ∧ Cond.privateMethod q.1 ∈ tables_1 ∧ Cond.instanceMethod q.1 ∈ tables_1
theorem lw_p0 : lw_okq (⟨"WordRation$Text", "skipBlanks", "()V"⟩, 6) := ⟨⟨by decide +kernel, by decide +kernel⟩, List.mem_of_getElem? (i := 23) (by decide +kernel), List.mem_of_getElem? (i := 359) (by decide +kernel), List.mem_of_getElem? (i := 360) (by decide +kernel)⟩
theorem lw_p1 : lw_okq (⟨"WordRation$Text", "readClause", "(LWordRation$Town;)V"⟩, 6) := ⟨⟨by decide +kernel, by decide +kernel⟩, List.mem_of_getElem? (i := 23) (by decide +kernel), List.mem_of_getElem? (i := 363) (by decide +kernel), List.mem_of_getElem? (i := 364) (by decide +kernel)⟩
theorem lw_p2 : lw_okq (⟨"WordRation$Text", "letterHere", "()I"⟩, 6) := ⟨⟨by decide +kernel, by decide +kernel⟩, List.mem_of_getElem? (i := 23) (by decide +kernel), List.mem_of_getElem? (i := 367) (by decide +kernel), List.mem_of_getElem? (i := 368) (by decide +kernel)⟩
theorem lw_p3 : lw_okq (⟨"WordRation$Text", "faultOfName", "(LWordRation$Town;I)I"⟩, 6) := ⟨⟨by decide +kernel, by decide +kernel⟩, List.mem_of_getElem? (i := 23) (by decide +kernel), List.mem_of_getElem? (i := 371) (by decide +kernel), List.mem_of_getElem? (i := 372) (by decide +kernel)⟩
theorem lw_p4 : lw_okq (⟨"WordRation$Text", "blame", "(II)V"⟩, 6) := ⟨⟨by decide +kernel, by decide +kernel⟩, List.mem_of_getElem? (i := 23) (by decide +kernel), List.mem_of_getElem? (i := 375) (by decide +kernel), List.mem_of_getElem? (i := 376) (by decide +kernel)⟩
theorem lw_p5 : lw_okq (⟨"WordRation$Text", "readNumber", "(II)I"⟩, 6) := ⟨⟨by decide +kernel, by decide +kernel⟩, List.mem_of_getElem? (i := 23) (by decide +kernel), List.mem_of_getElem? (i := 379) (by decide +kernel), List.mem_of_getElem? (i := 380) (by decide +kernel)⟩
theorem lw_p6 : lw_okq (⟨"WordRation$Text", "readWord", "(LWordRation$Town;)V"⟩, 6) := ⟨⟨by decide +kernel, by decide +kernel⟩, List.mem_of_getElem? (i := 23) (by decide +kernel), List.mem_of_getElem? (i := 386) (by decide +kernel), List.mem_of_getElem? (i := 387) (by decide +kernel)⟩
theorem lw_p7 : lw_okq (⟨"WordRation$Text", "readWay", "(LWordRation$Town;)V"⟩, 6) := ⟨⟨by decide +kernel, by decide +kernel⟩, List.mem_of_getElem? (i := 23) (by decide +kernel), List.mem_of_getElem? (i := 394) (by decide +kernel), List.mem_of_getElem? (i := 395) (by decide +kernel)⟩
theorem lw_p8 : lw_okq (⟨"WordRation$Text", "readPointing", "(LWordRation$Town;)V"⟩, 6) := ⟨⟨by decide +kernel, by decide +kernel⟩, List.mem_of_getElem? (i := 23) (by decide +kernel), List.mem_of_getElem? (i := 406) (by decide +kernel), List.mem_of_getElem? (i := 407) (by decide +kernel)⟩
theorem lw_p9 : lw_okq (⟨"WordRation$Text", "readNeed", "(LWordRation$Town;)V"⟩, 6) := ⟨⟨by decide +kernel, by decide +kernel⟩, List.mem_of_getElem? (i := 23) (by decide +kernel), List.mem_of_getElem? (i := 418) (by decide +kernel), List.mem_of_getElem? (i := 419) (by decide +kernel)⟩
theorem lw_p10 : lw_okq (⟨"WordRation$State", "beginYear", "()V"⟩, 9) := ⟨⟨by decide +kernel, by decide +kernel⟩, List.mem_of_getElem? (i := 132) (by decide +kernel), List.mem_of_getElem? (i := 434) (by decide +kernel), List.mem_of_getElem? (i := 435) (by decide +kernel)⟩
theorem lw_p11 : lw_okq (⟨"WordRation", "today", "()I"⟩, 13) := ⟨⟨by decide +kernel, by decide +kernel⟩, List.mem_of_getElem? (i := 15) (by decide +kernel), List.mem_of_getElem? (i := 458) (by decide +kernel), List.mem_of_getElem? (i := 459) (by decide +kernel)⟩
theorem lw_p12 : lw_okq (⟨"WordRation", "neverSaid", "()I"⟩, 13) := ⟨⟨by decide +kernel, by decide +kernel⟩, List.mem_of_getElem? (i := 15) (by decide +kernel), List.mem_of_getElem? (i := 466) (by decide +kernel), List.mem_of_getElem? (i := 467) (by decide +kernel)⟩
theorem lw_p13 : lw_okq (⟨"WordRation", "isWord", "(I)Z"⟩, 13) := ⟨⟨by decide +kernel, by decide +kernel⟩, List.mem_of_getElem? (i := 15) (by decide +kernel), List.mem_of_getElem? (i := 474) (by decide +kernel), List.mem_of_getElem? (i := 475) (by decide +kernel)⟩
theorem lw_p14 : lw_okq (⟨"WordRation", "isPerson", "(I)Z"⟩, 13) := ⟨⟨by decide +kernel, by decide +kernel⟩, List.mem_of_getElem? (i := 15) (by decide +kernel), List.mem_of_getElem? (i := 493) (by decide +kernel), List.mem_of_getElem? (i := 494) (by decide +kernel)⟩
theorem lw_p15 : lw_okq (⟨"WordRation", "isNeed", "(I)Z"⟩, 13) := ⟨⟨by decide +kernel, by decide +kernel⟩, List.mem_of_getElem? (i := 15) (by decide +kernel), List.mem_of_getElem? (i := 502) (by decide +kernel), List.mem_of_getElem? (i := 503) (by decide +kernel)⟩
def lw_privs_1 : List (MethodName × Nat) := [(⟨"WordRation$Text", "skipBlanks", "()V"⟩, 6), (⟨"WordRation$Text", "readClause", "(LWordRation$Town;)V"⟩, 6), (⟨"WordRation$Text", "letterHere", "()I"⟩, 6), (⟨"WordRation$Text", "faultOfName", "(LWordRation$Town;I)I"⟩, 6), (⟨"WordRation$Text", "blame", "(II)V"⟩, 6), (⟨"WordRation$Text", "readNumber", "(II)I"⟩, 6), (⟨"WordRation$Text", "readWord", "(LWordRation$Town;)V"⟩, 6), (⟨"WordRation$Text", "readWay", "(LWordRation$Town;)V"⟩, 6), (⟨"WordRation$Text", "readPointing", "(LWordRation$Town;)V"⟩, 6), (⟨"WordRation$Text", "readNeed", "(LWordRation$Town;)V"⟩, 6), (⟨"WordRation$State", "beginYear", "()V"⟩, 9), (⟨"WordRation", "today", "()I"⟩, 13), (⟨"WordRation", "neverSaid", "()I"⟩, 13), (⟨"WordRation", "isWord", "(I)Z"⟩, 13), (⟨"WordRation", "isPerson", "(I)Z"⟩, 13), (⟨"WordRation", "isNeed", "(I)Z"⟩, 13)]
theorem lw_r1 : ∀ q ∈ lw_privs_1, lw_okq q := List.forall_mem_cons.mpr ⟨lw_p0, List.forall_mem_cons.mpr ⟨lw_p1, List.forall_mem_cons.mpr ⟨lw_p2, List.forall_mem_cons.mpr ⟨lw_p3, List.forall_mem_cons.mpr ⟨lw_p4, List.forall_mem_cons.mpr ⟨lw_p5, List.forall_mem_cons.mpr ⟨lw_p6, List.forall_mem_cons.mpr ⟨lw_p7, List.forall_mem_cons.mpr ⟨lw_p8, List.forall_mem_cons.mpr ⟨lw_p9, List.forall_mem_cons.mpr ⟨lw_p10, List.forall_mem_cons.mpr ⟨lw_p11, List.forall_mem_cons.mpr ⟨lw_p12, List.forall_mem_cons.mpr ⟨lw_p13, List.forall_mem_cons.mpr ⟨lw_p14, List.forall_mem_cons.mpr ⟨lw_p15, fun _ h => absurd h List.not_mem_nil⟩⟩⟩⟩⟩⟩⟩⟩⟩⟩⟩⟩⟩⟩⟩⟩
theorem lw_p16 : lw_okq (⟨"WordRation", "refusalOfDays", "(I)I"⟩, 13) := ⟨⟨by decide +kernel, by decide +kernel⟩, List.mem_of_getElem? (i := 15) (by decide +kernel), List.mem_of_getElem? (i := 514) (by decide +kernel), List.mem_of_getElem? (i := 515) (by decide +kernel)⟩
theorem lw_p17 : lw_okq (⟨"WordRation$State", "meetOrLose", "(LWordRation$Town;I)V"⟩, 9) := ⟨⟨by decide +kernel, by decide +kernel⟩, List.mem_of_getElem? (i := 132) (by decide +kernel), List.mem_of_getElem? (i := 536) (by decide +kernel), List.mem_of_getElem? (i := 537) (by decide +kernel)⟩
theorem lw_p18 : lw_okq (⟨"WordRation$State", "meets", "(LWordRation$Town;II)Z"⟩, 9) := ⟨⟨by decide +kernel, by decide +kernel⟩, List.mem_of_getElem? (i := 132) (by decide +kernel), List.mem_of_getElem? (i := 540) (by decide +kernel), List.mem_of_getElem? (i := 541) (by decide +kernel)⟩
theorem lw_p19 : lw_okq (⟨"WordRation", "doByDraws", "()V"⟩, 13) := ⟨⟨by decide +kernel, by decide +kernel⟩, List.mem_of_getElem? (i := 15) (by decide +kernel), List.mem_of_getElem? (i := 618) (by decide +kernel), List.mem_of_getElem? (i := 619) (by decide +kernel)⟩
theorem lw_p20 : lw_okq (⟨"WordRation", "drawOf", "(I)I"⟩, 13) := ⟨⟨by decide +kernel, by decide +kernel⟩, List.mem_of_getElem? (i := 15) (by decide +kernel), List.mem_of_getElem? (i := 622) (by decide +kernel), List.mem_of_getElem? (i := 623) (by decide +kernel)⟩
theorem lw_p21 : lw_okq (⟨"WordRation", "workOutCheap", "(I)V"⟩, 13) := ⟨⟨by decide +kernel, by decide +kernel⟩, List.mem_of_getElem? (i := 15) (by decide +kernel), List.mem_of_getElem? (i := 642) (by decide +kernel), List.mem_of_getElem? (i := 643) (by decide +kernel)⟩
theorem lw_p22 : lw_okq (⟨"WordRation", "costBy", "(III)I"⟩, 13) := ⟨⟨by decide +kernel, by decide +kernel⟩, List.mem_of_getElem? (i := 15) (by decide +kernel), List.mem_of_getElem? (i := 646) (by decide +kernel), List.mem_of_getElem? (i := 647) (by decide +kernel)⟩
theorem lw_p23 : lw_okq (⟨"WordRation", "cheapTogether", "(I)I"⟩, 13) := ⟨⟨by decide +kernel, by decide +kernel⟩, List.mem_of_getElem? (i := 15) (by decide +kernel), List.mem_of_getElem? (i := 650) (by decide +kernel), List.mem_of_getElem? (i := 651) (by decide +kernel)⟩
theorem lw_p24 : lw_okq (⟨"WordRation", "cheapestKind", "(II)I"⟩, 13) := ⟨⟨by decide +kernel, by decide +kernel⟩, List.mem_of_getElem? (i := 15) (by decide +kernel), List.mem_of_getElem? (i := 654) (by decide +kernel), List.mem_of_getElem? (i := 655) (by decide +kernel)⟩
theorem lw_p25 : lw_okq (⟨"WordRation$Plan", "gather", "(LWordRation$Town;LWordRation$State;)V"⟩, 10) := ⟨⟨by decide +kernel, by decide +kernel⟩, List.mem_of_getElem? (i := 198) (by decide +kernel), List.mem_of_getElem? (i := 675) (by decide +kernel), List.mem_of_getElem? (i := 676) (by decide +kernel)⟩
theorem lw_p26 : lw_okq (⟨"WordRation$Plan", "gatherUses", "(LWordRation$Town;I)V"⟩, 10) := ⟨⟨by decide +kernel, by decide +kernel⟩, List.mem_of_getElem? (i := 198) (by decide +kernel), List.mem_of_getElem? (i := 686) (by decide +kernel), List.mem_of_getElem? (i := 687) (by decide +kernel)⟩
theorem lw_p27 : lw_okq (⟨"WordRation$Plan", "mayBeBetter", "(II)Z"⟩, 10) := ⟨⟨by decide +kernel, by decide +kernel⟩, List.mem_of_getElem? (i := 198) (by decide +kernel), List.mem_of_getElem? (i := 697) (by decide +kernel), List.mem_of_getElem? (i := 698) (by decide +kernel)⟩
theorem lw_p28 : lw_okq (⟨"WordRation$Plan", "take", "(II)V"⟩, 10) := ⟨⟨by decide +kernel, by decide +kernel⟩, List.mem_of_getElem? (i := 198) (by decide +kernel), List.mem_of_getElem? (i := 701) (by decide +kernel), List.mem_of_getElem? (i := 702) (by decide +kernel)⟩
theorem lw_p29 : lw_okq (⟨"WordRation$Plan", "affords", "(I)Z"⟩, 10) := ⟨⟨by decide +kernel, by decide +kernel⟩, List.mem_of_getElem? (i := 198) (by decide +kernel), List.mem_of_getElem? (i := 706) (by decide +kernel), List.mem_of_getElem? (i := 707) (by decide +kernel)⟩
theorem lw_p30 : lw_okq (⟨"WordRation$Plan", "change", "(II)V"⟩, 10) := ⟨⟨by decide +kernel, by decide +kernel⟩, List.mem_of_getElem? (i := 198) (by decide +kernel), List.mem_of_getElem? (i := 710) (by decide +kernel), List.mem_of_getElem? (i := 711) (by decide +kernel)⟩
theorem lw_p31 : lw_okq (⟨"WordRation", "isToComeOf", "(II)Z"⟩, 13) := ⟨⟨by decide +kernel, by decide +kernel⟩, List.mem_of_getElem? (i := 15) (by decide +kernel), List.mem_of_getElem? (i := 731) (by decide +kernel), List.mem_of_getElem? (i := 732) (by decide +kernel)⟩
def lw_privs_2 : List (MethodName × Nat) := [(⟨"WordRation", "refusalOfDays", "(I)I"⟩, 13), (⟨"WordRation$State", "meetOrLose", "(LWordRation$Town;I)V"⟩, 9), (⟨"WordRation$State", "meets", "(LWordRation$Town;II)Z"⟩, 9), (⟨"WordRation", "doByDraws", "()V"⟩, 13), (⟨"WordRation", "drawOf", "(I)I"⟩, 13), (⟨"WordRation", "workOutCheap", "(I)V"⟩, 13), (⟨"WordRation", "costBy", "(III)I"⟩, 13), (⟨"WordRation", "cheapTogether", "(I)I"⟩, 13), (⟨"WordRation", "cheapestKind", "(II)I"⟩, 13), (⟨"WordRation$Plan", "gather", "(LWordRation$Town;LWordRation$State;)V"⟩, 10), (⟨"WordRation$Plan", "gatherUses", "(LWordRation$Town;I)V"⟩, 10), (⟨"WordRation$Plan", "mayBeBetter", "(II)Z"⟩, 10), (⟨"WordRation$Plan", "take", "(II)V"⟩, 10), (⟨"WordRation$Plan", "affords", "(I)Z"⟩, 10), (⟨"WordRation$Plan", "change", "(II)V"⟩, 10), (⟨"WordRation", "isToComeOf", "(II)Z"⟩, 13)]
theorem lw_r2 : ∀ q ∈ lw_privs_2, lw_okq q := List.forall_mem_cons.mpr ⟨lw_p16, List.forall_mem_cons.mpr ⟨lw_p17, List.forall_mem_cons.mpr ⟨lw_p18, List.forall_mem_cons.mpr ⟨lw_p19, List.forall_mem_cons.mpr ⟨lw_p20, List.forall_mem_cons.mpr ⟨lw_p21, List.forall_mem_cons.mpr ⟨lw_p22, List.forall_mem_cons.mpr ⟨lw_p23, List.forall_mem_cons.mpr ⟨lw_p24, List.forall_mem_cons.mpr ⟨lw_p25, List.forall_mem_cons.mpr ⟨lw_p26, List.forall_mem_cons.mpr ⟨lw_p27, List.forall_mem_cons.mpr ⟨lw_p28, List.forall_mem_cons.mpr ⟨lw_p29, List.forall_mem_cons.mpr ⟨lw_p30, List.forall_mem_cons.mpr ⟨lw_p31, fun _ h => absurd h List.not_mem_nil⟩⟩⟩⟩⟩⟩⟩⟩⟩⟩⟩⟩⟩⟩⟩⟩
theorem lw_p32 : lw_okq (⟨"WordRation", "rankByWorth", "(II)I"⟩, 13) := ⟨⟨by decide +kernel, by decide +kernel⟩, List.mem_of_getElem? (i := 15) (by decide +kernel), List.mem_of_getElem? (i := 735) (by decide +kernel), List.mem_of_getElem? (i := 736) (by decide +kernel)⟩
theorem lw_p33 : lw_okq (⟨"WordRation", "wouldSell", "(III)Z"⟩, 13) := ⟨⟨by decide +kernel, by decide +kernel⟩, List.mem_of_getElem? (i := 15) (by decide +kernel), List.mem_of_getElem? (i := 743) (by decide +kernel), List.mem_of_getElem? (i := 744) (by decide +kernel)⟩
theorem lw_p34 : lw_okq (⟨"WordRation", "needsToCome", "(II)I"⟩, 13) := ⟨⟨by decide +kernel, by decide +kernel⟩, List.mem_of_getElem? (i := 15) (by decide +kernel), List.mem_of_getElem? (i := 747) (by decide +kernel), List.mem_of_getElem? (i := 748) (by decide +kernel)⟩
theorem lw_p35 : lw_okq (⟨"WordRation$Knots", "fits", "(LWordRation$Town;I)Z"⟩, 4) := ⟨⟨by decide +kernel, by decide +kernel⟩, List.mem_of_getElem? (i := 237) (by decide +kernel), List.mem_of_getElem? (i := 795) (by decide +kernel), List.mem_of_getElem? (i := 796) (by decide +kernel)⟩
theorem lw_p36 : lw_okq (⟨"WordRation", "greatestPart", "(III)I"⟩, 13) := ⟨⟨by decide +kernel, by decide +kernel⟩, List.mem_of_getElem? (i := 15) (by decide +kernel), List.mem_of_getElem? (i := 808) (by decide +kernel), List.mem_of_getElem? (i := 809) (by decide +kernel)⟩
theorem lw_p37 : lw_okq (⟨"WordRationModel", "readAll", "()V"⟩, 58) := ⟨⟨by decide +kernel, by decide +kernel⟩, List.mem_of_getElem? (i := 845) (by decide +kernel), List.mem_of_getElem? (i := 1040) (by decide +kernel), List.mem_of_getElem? (i := 1041) (by decide +kernel)⟩
theorem lw_p38 : lw_okq (⟨"WordRationModel", "letterNow", "()I"⟩, 58) := ⟨⟨by decide +kernel, by decide +kernel⟩, List.mem_of_getElem? (i := 845) (by decide +kernel), List.mem_of_getElem? (i := 1044) (by decide +kernel), List.mem_of_getElem? (i := 1045) (by decide +kernel)⟩
theorem lw_p39 : lw_okq (⟨"WordRationModel", "readClause", "(I)V"⟩, 58) := ⟨⟨by decide +kernel, by decide +kernel⟩, List.mem_of_getElem? (i := 845) (by decide +kernel), List.mem_of_getElem? (i := 1048) (by decide +kernel), List.mem_of_getElem? (i := 1049) (by decide +kernel)⟩
theorem lw_p40 : lw_okq (⟨"WordRationModel", "bad", "(II)V"⟩, 58) := ⟨⟨by decide +kernel, by decide +kernel⟩, List.mem_of_getElem? (i := 845) (by decide +kernel), List.mem_of_getElem? (i := 1052) (by decide +kernel), List.mem_of_getElem? (i := 1053) (by decide +kernel)⟩
theorem lw_p41 : lw_okq (⟨"WordRationModel", "readYear", "()V"⟩, 58) := ⟨⟨by decide +kernel, by decide +kernel⟩, List.mem_of_getElem? (i := 845) (by decide +kernel), List.mem_of_getElem? (i := 1056) (by decide +kernel), List.mem_of_getElem? (i := 1057) (by decide +kernel)⟩
theorem lw_p42 : lw_okq (⟨"WordRationModel", "number", "(II)I"⟩, 58) := ⟨⟨by decide +kernel, by decide +kernel⟩, List.mem_of_getElem? (i := 845) (by decide +kernel), List.mem_of_getElem? (i := 1060) (by decide +kernel), List.mem_of_getElem? (i := 1061) (by decide +kernel)⟩
theorem lw_p43 : lw_okq (⟨"WordRationModel", "end", "()V"⟩, 58) := ⟨⟨by decide +kernel, by decide +kernel⟩, List.mem_of_getElem? (i := 845) (by decide +kernel), List.mem_of_getElem? (i := 1067) (by decide +kernel), List.mem_of_getElem? (i := 1068) (by decide +kernel)⟩
theorem lw_p44 : lw_okq (⟨"WordRationModel", "readWord", "()V"⟩, 58) := ⟨⟨by decide +kernel, by decide +kernel⟩, List.mem_of_getElem? (i := 845) (by decide +kernel), List.mem_of_getElem? (i := 1071) (by decide +kernel), List.mem_of_getElem? (i := 1072) (by decide +kernel)⟩
theorem lw_p45 : lw_okq (⟨"WordRationModel", "readWay", "()V"⟩, 58) := ⟨⟨by decide +kernel, by decide +kernel⟩, List.mem_of_getElem? (i := 845) (by decide +kernel), List.mem_of_getElem? (i := 1075) (by decide +kernel), List.mem_of_getElem? (i := 1076) (by decide +kernel)⟩
theorem lw_p46 : lw_okq (⟨"WordRationModel", "wordTold", "()I"⟩, 58) := ⟨⟨by decide +kernel, by decide +kernel⟩, List.mem_of_getElem? (i := 845) (by decide +kernel), List.mem_of_getElem? (i := 1079) (by decide +kernel), List.mem_of_getElem? (i := 1080) (by decide +kernel)⟩
theorem lw_p47 : lw_okq (⟨"WordRationModel", "readPointing", "()V"⟩, 58) := ⟨⟨by decide +kernel, by decide +kernel⟩, List.mem_of_getElem? (i := 845) (by decide +kernel), List.mem_of_getElem? (i := 1086) (by decide +kernel), List.mem_of_getElem? (i := 1087) (by decide +kernel)⟩
def lw_privs_3 : List (MethodName × Nat) := [(⟨"WordRation", "rankByWorth", "(II)I"⟩, 13), (⟨"WordRation", "wouldSell", "(III)Z"⟩, 13), (⟨"WordRation", "needsToCome", "(II)I"⟩, 13), (⟨"WordRation$Knots", "fits", "(LWordRation$Town;I)Z"⟩, 4), (⟨"WordRation", "greatestPart", "(III)I"⟩, 13), (⟨"WordRationModel", "readAll", "()V"⟩, 58), (⟨"WordRationModel", "letterNow", "()I"⟩, 58), (⟨"WordRationModel", "readClause", "(I)V"⟩, 58), (⟨"WordRationModel", "bad", "(II)V"⟩, 58), (⟨"WordRationModel", "readYear", "()V"⟩, 58), (⟨"WordRationModel", "number", "(II)I"⟩, 58), (⟨"WordRationModel", "end", "()V"⟩, 58), (⟨"WordRationModel", "readWord", "()V"⟩, 58), (⟨"WordRationModel", "readWay", "()V"⟩, 58), (⟨"WordRationModel", "wordTold", "()I"⟩, 58), (⟨"WordRationModel", "readPointing", "()V"⟩, 58)]
theorem lw_r3 : ∀ q ∈ lw_privs_3, lw_okq q := List.forall_mem_cons.mpr ⟨lw_p32, List.forall_mem_cons.mpr ⟨lw_p33, List.forall_mem_cons.mpr ⟨lw_p34, List.forall_mem_cons.mpr ⟨lw_p35, List.forall_mem_cons.mpr ⟨lw_p36, List.forall_mem_cons.mpr ⟨lw_p37, List.forall_mem_cons.mpr ⟨lw_p38, List.forall_mem_cons.mpr ⟨lw_p39, List.forall_mem_cons.mpr ⟨lw_p40, List.forall_mem_cons.mpr ⟨lw_p41, List.forall_mem_cons.mpr ⟨lw_p42, List.forall_mem_cons.mpr ⟨lw_p43, List.forall_mem_cons.mpr ⟨lw_p44, List.forall_mem_cons.mpr ⟨lw_p45, List.forall_mem_cons.mpr ⟨lw_p46, List.forall_mem_cons.mpr ⟨lw_p47, fun _ h => absurd h List.not_mem_nil⟩⟩⟩⟩⟩⟩⟩⟩⟩⟩⟩⟩⟩⟩⟩⟩
theorem lw_p48 : lw_okq (⟨"WordRationModel", "readPerson", "()V"⟩, 58) := ⟨⟨by decide +kernel, by decide +kernel⟩, List.mem_of_getElem? (i := 845) (by decide +kernel), List.mem_of_getElem? (i := 1090) (by decide +kernel), List.mem_of_getElem? (i := 1091) (by decide +kernel)⟩
theorem lw_p49 : lw_okq (⟨"WordRationModel", "readNeed", "()V"⟩, 58) := ⟨⟨by decide +kernel, by decide +kernel⟩, List.mem_of_getElem? (i := 845) (by decide +kernel), List.mem_of_getElem? (i := 1094) (by decide +kernel), List.mem_of_getElem? (i := 1095) (by decide +kernel)⟩
theorem lw_p50 : lw_okq (⟨"WordRationModel", "dayNow", "()I"⟩, 58) := ⟨⟨by decide +kernel, by decide +kernel⟩, List.mem_of_getElem? (i := 845) (by decide +kernel), List.mem_of_getElem? (i := 1106) (by decide +kernel), List.mem_of_getElem? (i := 1107) (by decide +kernel)⟩
theorem lw_p51 : lw_okq (⟨"WordRationModel", "isWord", "(I)Z"⟩, 58) := ⟨⟨by decide +kernel, by decide +kernel⟩, List.mem_of_getElem? (i := 845) (by decide +kernel), List.mem_of_getElem? (i := 1114) (by decide +kernel), List.mem_of_getElem? (i := 1115) (by decide +kernel)⟩
theorem lw_p52 : lw_okq (⟨"WordRationModel", "hoardedOf", "([II)I"⟩, 58) := ⟨⟨by decide +kernel, by decide +kernel⟩, List.mem_of_getElem? (i := 845) (by decide +kernel), List.mem_of_getElem? (i := 1119) (by decide +kernel), List.mem_of_getElem? (i := 1120) (by decide +kernel)⟩
theorem lw_p53 : lw_okq (⟨"WordRationModel", "isPerson", "(I)Z"⟩, 58) := ⟨⟨by decide +kernel, by decide +kernel⟩, List.mem_of_getElem? (i := 845) (by decide +kernel), List.mem_of_getElem? (i := 1127) (by decide +kernel), List.mem_of_getElem? (i := 1128) (by decide +kernel)⟩
theorem lw_p54 : lw_okq (⟨"WordRationModel", "isNeed", "(I)Z"⟩, 58) := ⟨⟨by decide +kernel, by decide +kernel⟩, List.mem_of_getElem? (i := 845) (by decide +kernel), List.mem_of_getElem? (i := 1135) (by decide +kernel), List.mem_of_getElem? (i := 1136) (by decide +kernel)⟩
theorem lw_p55 : lw_okq (⟨"WordRationModel", "isToCome", "(I)Z"⟩, 58) := ⟨⟨by decide +kernel, by decide +kernel⟩, List.mem_of_getElem? (i := 845) (by decide +kernel), List.mem_of_getElem? (i := 1140) (by decide +kernel), List.mem_of_getElem? (i := 1141) (by decide +kernel)⟩
theorem lw_p56 : lw_okq (⟨"WordRationModel", "dayOf", "(I)I"⟩, 58) := ⟨⟨by decide +kernel, by decide +kernel⟩, List.mem_of_getElem? (i := 845) (by decide +kernel), List.mem_of_getElem? (i := 1144) (by decide +kernel), List.mem_of_getElem? (i := 1145) (by decide +kernel)⟩
theorem lw_p57 : lw_okq (⟨"WordRationModel", "keepAct", "()V"⟩, 58) := ⟨⟨by decide +kernel, by decide +kernel⟩, List.mem_of_getElem? (i := 845) (by decide +kernel), List.mem_of_getElem? (i := 1154) (by decide +kernel), List.mem_of_getElem? (i := 1155) (by decide +kernel)⟩
theorem lw_p58 : lw_okq (⟨"WordRationModel", "goOn", "([I)I"⟩, 58) := ⟨⟨by decide +kernel, by decide +kernel⟩, List.mem_of_getElem? (i := 845) (by decide +kernel), List.mem_of_getElem? (i := 1158) (by decide +kernel), List.mem_of_getElem? (i := 1159) (by decide +kernel)⟩
theorem lw_p59 : lw_okq (⟨"WordRationModel", "meets", "([II)Z"⟩, 58) := ⟨⟨by decide +kernel, by decide +kernel⟩, List.mem_of_getElem? (i := 845) (by decide +kernel), List.mem_of_getElem? (i := 1162) (by decide +kernel), List.mem_of_getElem? (i := 1163) (by decide +kernel)⟩
theorem lw_p60 : lw_okq (⟨"WordRationModel", "person", "(I)I"⟩, 58) := ⟨⟨by decide +kernel, by decide +kernel⟩, List.mem_of_getElem? (i := 845) (by decide +kernel), List.mem_of_getElem? (i := 1166) (by decide +kernel), List.mem_of_getElem? (i := 1167) (by decide +kernel)⟩
theorem lw_p61 : lw_okq (⟨"WordRationModel", "wordOf", "(I)I"⟩, 58) := ⟨⟨by decide +kernel, by decide +kernel⟩, List.mem_of_getElem? (i := 845) (by decide +kernel), List.mem_of_getElem? (i := 1170) (by decide +kernel), List.mem_of_getElem? (i := 1171) (by decide +kernel)⟩
theorem lw_p62 : lw_okq (⟨"WordRationModel", "worthOf", "(I)I"⟩, 58) := ⟨⟨by decide +kernel, by decide +kernel⟩, List.mem_of_getElem? (i := 845) (by decide +kernel), List.mem_of_getElem? (i := 1190) (by decide +kernel), List.mem_of_getElem? (i := 1191) (by decide +kernel)⟩
theorem lw_p63 : lw_okq (⟨"WordRationModel", "drawn", "()V"⟩, 58) := ⟨⟨by decide +kernel, by decide +kernel⟩, List.mem_of_getElem? (i := 845) (by decide +kernel), List.mem_of_getElem? (i := 1223) (by decide +kernel), List.mem_of_getElem? (i := 1224) (by decide +kernel)⟩
def lw_privs_4 : List (MethodName × Nat) := [(⟨"WordRationModel", "readPerson", "()V"⟩, 58), (⟨"WordRationModel", "readNeed", "()V"⟩, 58), (⟨"WordRationModel", "dayNow", "()I"⟩, 58), (⟨"WordRationModel", "isWord", "(I)Z"⟩, 58), (⟨"WordRationModel", "hoardedOf", "([II)I"⟩, 58), (⟨"WordRationModel", "isPerson", "(I)Z"⟩, 58), (⟨"WordRationModel", "isNeed", "(I)Z"⟩, 58), (⟨"WordRationModel", "isToCome", "(I)Z"⟩, 58), (⟨"WordRationModel", "dayOf", "(I)I"⟩, 58), (⟨"WordRationModel", "keepAct", "()V"⟩, 58), (⟨"WordRationModel", "goOn", "([I)I"⟩, 58), (⟨"WordRationModel", "meets", "([II)Z"⟩, 58), (⟨"WordRationModel", "person", "(I)I"⟩, 58), (⟨"WordRationModel", "wordOf", "(I)I"⟩, 58), (⟨"WordRationModel", "worthOf", "(I)I"⟩, 58), (⟨"WordRationModel", "drawn", "()V"⟩, 58)]
theorem lw_r4 : ∀ q ∈ lw_privs_4, lw_okq q := List.forall_mem_cons.mpr ⟨lw_p48, List.forall_mem_cons.mpr ⟨lw_p49, List.forall_mem_cons.mpr ⟨lw_p50, List.forall_mem_cons.mpr ⟨lw_p51, List.forall_mem_cons.mpr ⟨lw_p52, List.forall_mem_cons.mpr ⟨lw_p53, List.forall_mem_cons.mpr ⟨lw_p54, List.forall_mem_cons.mpr ⟨lw_p55, List.forall_mem_cons.mpr ⟨lw_p56, List.forall_mem_cons.mpr ⟨lw_p57, List.forall_mem_cons.mpr ⟨lw_p58, List.forall_mem_cons.mpr ⟨lw_p59, List.forall_mem_cons.mpr ⟨lw_p60, List.forall_mem_cons.mpr ⟨lw_p61, List.forall_mem_cons.mpr ⟨lw_p62, List.forall_mem_cons.mpr ⟨lw_p63, fun _ h => absurd h List.not_mem_nil⟩⟩⟩⟩⟩⟩⟩⟩⟩⟩⟩⟩⟩⟩⟩⟩
theorem lw_p64 : lw_okq (⟨"WordRationModel", "draw", "(I)I"⟩, 58) := ⟨⟨by decide +kernel, by decide +kernel⟩, List.mem_of_getElem? (i := 845) (by decide +kernel), List.mem_of_getElem? (i := 1227) (by decide +kernel), List.mem_of_getElem? (i := 1228) (by decide +kernel)⟩
theorem lw_p65 : lw_okq (⟨"WordRationModel", "costBy", "(III)I"⟩, 58) := ⟨⟨by decide +kernel, by decide +kernel⟩, List.mem_of_getElem? (i := 845) (by decide +kernel), List.mem_of_getElem? (i := 1243) (by decide +kernel), List.mem_of_getElem? (i := 1244) (by decide +kernel)⟩
theorem lw_p66 : lw_okq (⟨"WordRationModel", "costOfWay", "(I)I"⟩, 58) := ⟨⟨by decide +kernel, by decide +kernel⟩, List.mem_of_getElem? (i := 845) (by decide +kernel), List.mem_of_getElem? (i := 1247) (by decide +kernel), List.mem_of_getElem? (i := 1248) (by decide +kernel)⟩
theorem lw_p67 : lw_okq (⟨"WordRationModel", "layTried", "()V"⟩, 58) := ⟨⟨by decide +kernel, by decide +kernel⟩, List.mem_of_getElem? (i := 845) (by decide +kernel), List.mem_of_getElem? (i := 1255) (by decide +kernel), List.mem_of_getElem? (i := 1256) (by decide +kernel)⟩
theorem lw_p68 : lw_okq (⟨"WordRationModel", "findPlan", "()V"⟩, 58) := ⟨⟨by decide +kernel, by decide +kernel⟩, List.mem_of_getElem? (i := 845) (by decide +kernel), List.mem_of_getElem? (i := 1267) (by decide +kernel), List.mem_of_getElem? (i := 1268) (by decide +kernel)⟩
theorem lw_p69 : lw_okq (⟨"WordRationModel", "comparePlan", "()V"⟩, 58) := ⟨⟨by decide +kernel, by decide +kernel⟩, List.mem_of_getElem? (i := 845) (by decide +kernel), List.mem_of_getElem? (i := 1271) (by decide +kernel), List.mem_of_getElem? (i := 1272) (by decide +kernel)⟩
theorem lw_p70 : lw_okq (⟨"WordRationModel", "use", "(III)V"⟩, 58) := ⟨⟨by decide +kernel, by decide +kernel⟩, List.mem_of_getElem? (i := 845) (by decide +kernel), List.mem_of_getElem? (i := 1275) (by decide +kernel), List.mem_of_getElem? (i := 1276) (by decide +kernel)⟩
theorem lw_p71 : lw_okq (⟨"WordRationModel", "wordsBy", "(II)I"⟩, 58) := ⟨⟨by decide +kernel, by decide +kernel⟩, List.mem_of_getElem? (i := 845) (by decide +kernel), List.mem_of_getElem? (i := 1279) (by decide +kernel), List.mem_of_getElem? (i := 1280) (by decide +kernel)⟩
theorem lw_p72 : lw_okq (⟨"WordRationModel", "nextPick", "(I)I"⟩, 58) := ⟨⟨by decide +kernel, by decide +kernel⟩, List.mem_of_getElem? (i := 845) (by decide +kernel), List.mem_of_getElem? (i := 1286) (by decide +kernel), List.mem_of_getElem? (i := 1287) (by decide +kernel)⟩
theorem lw_p73 : lw_okq (⟨"WordRationModel", "fits", "(II)Z"⟩, 58) := ⟨⟨by decide +kernel, by decide +kernel⟩, List.mem_of_getElem? (i := 845) (by decide +kernel), List.mem_of_getElem? (i := 1290) (by decide +kernel), List.mem_of_getElem? (i := 1291) (by decide +kernel)⟩
theorem lw_p74 : lw_okq (⟨"WordRationModel", "isOf", "(II)Z"⟩, 58) := ⟨⟨by decide +kernel, by decide +kernel⟩, List.mem_of_getElem? (i := 845) (by decide +kernel), List.mem_of_getElem? (i := 1298) (by decide +kernel), List.mem_of_getElem? (i := 1299) (by decide +kernel)⟩
theorem lw_p75 : lw_okq (⟨"WordRationModel", "doSell", "(III)Z"⟩, 58) := ⟨⟨by decide +kernel, by decide +kernel⟩, List.mem_of_getElem? (i := 845) (by decide +kernel), List.mem_of_getElem? (i := 1306) (by decide +kernel), List.mem_of_getElem? (i := 1307) (by decide +kernel)⟩
theorem lw_p76 : lw_okq (⟨"WordRationModel", "needsOf", "(II)I"⟩, 58) := ⟨⟨by decide +kernel, by decide +kernel⟩, List.mem_of_getElem? (i := 845) (by decide +kernel), List.mem_of_getElem? (i := 1310) (by decide +kernel), List.mem_of_getElem? (i := 1311) (by decide +kernel)⟩
theorem lw_p77 : lw_okq (⟨"WordRationModel", "whoSaid", "()I"⟩, 58) := ⟨⟨by decide +kernel, by decide +kernel⟩, List.mem_of_getElem? (i := 845) (by decide +kernel), List.mem_of_getElem? (i := 1347) (by decide +kernel), List.mem_of_getElem? (i := 1348) (by decide +kernel)⟩
theorem lw_p78 : lw_okq (⟨"WordRationModel", "wouldSay", "(III)Z"⟩, 58) := ⟨⟨by decide +kernel, by decide +kernel⟩, List.mem_of_getElem? (i := 845) (by decide +kernel), List.mem_of_getElem? (i := 1351) (by decide +kernel), List.mem_of_getElem? (i := 1352) (by decide +kernel)⟩
def lw_privs_5 : List (MethodName × Nat) := [(⟨"WordRationModel", "draw", "(I)I"⟩, 58), (⟨"WordRationModel", "costBy", "(III)I"⟩, 58), (⟨"WordRationModel", "costOfWay", "(I)I"⟩, 58), (⟨"WordRationModel", "layTried", "()V"⟩, 58), (⟨"WordRationModel", "findPlan", "()V"⟩, 58), (⟨"WordRationModel", "comparePlan", "()V"⟩, 58), (⟨"WordRationModel", "use", "(III)V"⟩, 58), (⟨"WordRationModel", "wordsBy", "(II)I"⟩, 58), (⟨"WordRationModel", "nextPick", "(I)I"⟩, 58), (⟨"WordRationModel", "fits", "(II)Z"⟩, 58), (⟨"WordRationModel", "isOf", "(II)Z"⟩, 58), (⟨"WordRationModel", "doSell", "(III)Z"⟩, 58), (⟨"WordRationModel", "needsOf", "(II)I"⟩, 58), (⟨"WordRationModel", "whoSaid", "()I"⟩, 58), (⟨"WordRationModel", "wouldSay", "(III)Z"⟩, 58)]
theorem lw_r5 : ∀ q ∈ lw_privs_5, lw_okq q := List.forall_mem_cons.mpr ⟨lw_p64, List.forall_mem_cons.mpr ⟨lw_p65, List.forall_mem_cons.mpr ⟨lw_p66, List.forall_mem_cons.mpr ⟨lw_p67, List.forall_mem_cons.mpr ⟨lw_p68, List.forall_mem_cons.mpr ⟨lw_p69, List.forall_mem_cons.mpr ⟨lw_p70, List.forall_mem_cons.mpr ⟨lw_p71, List.forall_mem_cons.mpr ⟨lw_p72, List.forall_mem_cons.mpr ⟨lw_p73, List.forall_mem_cons.mpr ⟨lw_p74, List.forall_mem_cons.mpr ⟨lw_p75, List.forall_mem_cons.mpr ⟨lw_p76, List.forall_mem_cons.mpr ⟨lw_p77, List.forall_mem_cons.mpr ⟨lw_p78, fun _ h => absurd h List.not_mem_nil⟩⟩⟩⟩⟩⟩⟩⟩⟩⟩⟩⟩⟩⟩⟩
def lw_privs : List (MethodName × Nat) := lw_privs_1 ++ (lw_privs_2 ++ (lw_privs_3 ++ (lw_privs_4 ++ (lw_privs_5))))
def lw_tbl : List Cond := k2_sels lw_privs ++ tables_1
theorem lw_privs_ok : ∀ q ∈ lw_privs, lw_okq q := by
  show ∀ q ∈ lw_privs_1 ++ (lw_privs_2 ++ (lw_privs_3 ++ (lw_privs_4 ++ (lw_privs_5)))), lw_okq q
  exact List.forall_mem_append.mpr ⟨lw_r1, List.forall_mem_append.mpr ⟨lw_r2, List.forall_mem_append.mpr ⟨lw_r3, List.forall_mem_append.mpr ⟨lw_r4, lw_r5⟩⟩⟩⟩
-- ===== end of PART A; then your names; then what follows =====
end
section
def RX0 : String := "WordRation$Book"
def TX0 : u_T := fun k => match k with
  | 0 => ("WordRation$Book", "words", "[I", true)
  | 1 => ("WordRation$Book", "lefts", "[I", true)
  | _ => ("WordRation$Book", "count", "I", false)
def tyX0 : Nat → FieldType := fun k => match k with
  | 0 => .array .int
  | 1 => .array .int
  | _ => .int
abbrev wsX00 : List Cond := u_ws RX0 TX0 3
theorem nmX0 : ∀ a, a < 3 → ∀ b, b < 3 → a ≠ b → (TX0 a).2.1 ≠ (TX0 b).2.1 := by decide +kernel
theorem tyX0_ok : ∀ k, k < 3 → parseFieldDescriptor (TX0 k).2.2.1 = some (tyX0 k) := by decide +kernel
abbrev cX0_init : ByteArray := prog_2_method_1_code
def yX0_init : MethodName := ⟨RX0, "<init>", "()V"⟩
abbrev cX0_clear : ByteArray := prog_2_method_2_code
def yX0_clear : MethodName := ⟨RX0, "clear", "()V"⟩
abbrev cX0_enter : ByteArray := prog_2_method_3_code
def yX0_enter : MethodName := ⟨RX0, "enter", "(II)V"⟩
abbrev cX0_firstWrong : ByteArray := prog_2_method_4_code
def yX0_firstWrong : MethodName := ⟨RX0, "firstWrong", "(LWordRation$State;)I"⟩
def RX1 : String := "WordRation$Image"
def TX1 : u_T := fun k => match k with
  | 0 => ("WordRation$Image", "state", "LWordRation$State;", true)
  | 1 => ("WordRation$Image", "seed", "I", false)
  | _ => ("WordRation$Image", "kept", "Z", false)
def tyX1 : Nat → FieldType := fun k => match k with
  | 0 => .object "WordRation$State"
  | 1 => .int
  | _ => .boolean
abbrev wsX10 : List Cond := u_ws RX1 TX1 3
theorem nmX1 : ∀ a, a < 3 → ∀ b, b < 3 → a ≠ b → (TX1 a).2.1 ≠ (TX1 b).2.1 := by decide +kernel
theorem tyX1_ok : ∀ k, k < 3 → parseFieldDescriptor (TX1 k).2.2.1 = some (tyX1 k) := by decide +kernel
abbrev cX1_init : ByteArray := prog_3_method_1_code
def yX1_init : MethodName := ⟨RX1, "<init>", "()V"⟩
def RX2 : String := "WordRation$Knots"
def TX2 : u_T := fun k => match k with
  | 0 => ("WordRation$Knots", "words", "[I", true)
  | 1 => ("WordRation$Knots", "days", "[I", true)
  | 2 => ("WordRation$Knots", "said", "[Z", true)
  | _ => ("WordRation$Knots", "count", "I", false)
def tyX2 : Nat → FieldType := fun k => match k with
  | 0 => .array .int
  | 1 => .array .int
  | 2 => .array .boolean
  | _ => .int
abbrev wsX20 : List Cond := u_ws RX2 TX2 4
theorem nmX2 : ∀ a, a < 4 → ∀ b, b < 4 → a ≠ b → (TX2 a).2.1 ≠ (TX2 b).2.1 := by decide +kernel
theorem tyX2_ok : ∀ k, k < 4 → parseFieldDescriptor (TX2 k).2.2.1 = some (tyX2 k) := by decide +kernel
abbrev cX2_init : ByteArray := prog_4_method_1_code
def yX2_init : MethodName := ⟨RX2, "<init>", "()V"⟩
abbrev cX2_clear : ByteArray := prog_4_method_2_code
def yX2_clear : MethodName := ⟨RX2, "clear", "()V"⟩
abbrev cX2_tie : ByteArray := prog_4_method_3_code
def yX2_tie : MethodName := ⟨RX2, "tie", "(IIZ)V"⟩
abbrev cX2_fitting : ByteArray := prog_4_method_4_code
def yX2_fitting : MethodName := ⟨RX2, "fitting", "(LWordRation$Town;)I"⟩
abbrev cX2_fits : ByteArray := prog_4_method_5_code
def yX2_fits : MethodName := ⟨RX2, "fits", "(LWordRation$Town;I)Z"⟩
def RX3 : String := "WordRation$Past"
def TX3 : u_T := fun k => match k with
  | 0 => ("WordRation$Past", "ring", "[LWordRation$State;", true)
  | 1 => ("WordRation$Past", "next", "I", false)
  | _ => ("WordRation$Past", "count", "I", false)
def tyX3 : Nat → FieldType := fun k => match k with
  | 0 => .array (.object "WordRation$State")
  | 1 => .int
  | _ => .int
abbrev wsX30 : List Cond := u_ws RX3 TX3 3
theorem nmX3 : ∀ a, a < 3 → ∀ b, b < 3 → a ≠ b → (TX3 a).2.1 ≠ (TX3 b).2.1 := by decide +kernel
theorem tyX3_ok : ∀ k, k < 3 → parseFieldDescriptor (TX3 k).2.2.1 = some (tyX3 k) := by decide +kernel
abbrev cX3_init : ByteArray := prog_5_method_1_code
def yX3_init : MethodName := ⟨RX3, "<init>", "()V"⟩
abbrev cX3_forget : ByteArray := prog_5_method_2_code
def yX3_forget : MethodName := ⟨RX3, "forget", "()V"⟩
abbrev cX3_remember : ByteArray := prog_5_method_3_code
def yX3_remember : MethodName := ⟨RX3, "remember", "(LWordRation$State;)V"⟩
abbrev cX3_returnTo : ByteArray := prog_5_method_4_code
def yX3_returnTo : MethodName := ⟨RX3, "returnTo", "(LWordRation$State;)V"⟩
def RX4 : String := "WordRation$Plan"
def TX4 : u_T := fun k => match k with
  | 0 => ("WordRation$Plan", "supply", "[I", true)
  | 1 => ("WordRation$Plan", "place", "[I", true)
  | 2 => ("WordRation$Plan", "worths", "[I", true)
  | 3 => ("WordRation$Plan", "uses", "[I", true)
  | 4 => ("WordRation$Plan", "worthBehind", "[I", true)
  | 5 => ("WordRation$Plan", "tried", "[I", true)
  | 6 => ("WordRation$Plan", "best", "[I", true)
  | 7 => ("WordRation$Plan", "count", "I", false)
  | 8 => ("WordRation$Plan", "bestWorth", "I", false)
  | _ => ("WordRation$Plan", "bestWords", "I", false)
def tyX4 : Nat → FieldType := fun k => match k with
  | 0 => .array .int
  | 1 => .array .int
  | 2 => .array .int
  | 3 => .array .int
  | 4 => .array .int
  | 5 => .array .int
  | 6 => .array .int
  | 7 => .int
  | 8 => .int
  | _ => .int
abbrev wsX40 : List Cond := u_ws RX4 TX4 10
theorem nmX4 : ∀ a, a < 10 → ∀ b, b < 10 → a ≠ b → (TX4 a).2.1 ≠ (TX4 b).2.1 := by decide +kernel
theorem tyX4_ok : ∀ k, k < 10 → parseFieldDescriptor (TX4 k).2.2.1 = some (tyX4 k) := by decide +kernel
abbrev cX4_init : ByteArray := prog_6_method_1_code
def yX4_init : MethodName := ⟨RX4, "<init>", "()V"⟩
abbrev cX4_workOut : ByteArray := prog_6_method_2_code
def yX4_workOut : MethodName := ⟨RX4, "workOut", "(LWordRation$Town;LWordRation$State;)V"⟩
abbrev cX4_howMet : ByteArray := prog_6_method_3_code
def yX4_howMet : MethodName := ⟨RX4, "howMet", "(I)I"⟩
abbrev cX4_gather : ByteArray := prog_6_method_4_code
def yX4_gather : MethodName := ⟨RX4, "gather", "(LWordRation$Town;LWordRation$State;)V"⟩
abbrev cX4_gatherUses : ByteArray := prog_6_method_5_code
def yX4_gatherUses : MethodName := ⟨RX4, "gatherUses", "(LWordRation$Town;I)V"⟩
abbrev cX4_search : ByteArray := prog_6_method_6_code
def yX4_search : MethodName := ⟨RX4, "search", "(LWordRation$Plan;[IIII)V"⟩
abbrev cX4_mayBeBetter : ByteArray := prog_6_method_7_code
def yX4_mayBeBetter : MethodName := ⟨RX4, "mayBeBetter", "(II)Z"⟩
abbrev cX4_take : ByteArray := prog_6_method_8_code
def yX4_take : MethodName := ⟨RX4, "take", "(II)V"⟩
abbrev cX4_affords : ByteArray := prog_6_method_9_code
def yX4_affords : MethodName := ⟨RX4, "affords", "(I)Z"⟩
abbrev cX4_change : ByteArray := prog_6_method_10_code
def yX4_change : MethodName := ⟨RX4, "change", "(II)V"⟩
def RX5 : String := "WordRation$State"
def TX5 : u_T := fun k => match k with
  | 0 => ("WordRation$State", "limit", "[I", true)
  | 1 => ("WordRation$State", "left", "[I", true)
  | 2 => ("WordRation$State", "said", "[I", true)
  | 3 => ("WordRation$State", "hoards", "[I", true)
  | 4 => ("WordRation$State", "days", "I", false)
  | 5 => ("WordRation$State", "met", "I", false)
  | 6 => ("WordRation$State", "lost", "I", false)
  | 7 => ("WordRation$State", "lostWorth", "I", false)
  | _ => ("WordRation$State", "pointed", "I", false)
def tyX5 : Nat → FieldType := fun k => match k with
  | 0 => .array .int
  | 1 => .array .int
  | 2 => .array .int
  | 3 => .array .int
  | 4 => .int
  | 5 => .int
  | 6 => .int
  | 7 => .int
  | _ => .int
abbrev wsX50 : List Cond := u_ws RX5 TX5 9
theorem nmX5 : ∀ a, a < 9 → ∀ b, b < 9 → a ≠ b → (TX5 a).2.1 ≠ (TX5 b).2.1 := by decide +kernel
theorem tyX5_ok : ∀ k, k < 9 → parseFieldDescriptor (TX5 k).2.2.1 = some (tyX5 k) := by decide +kernel
abbrev cX5_init : ByteArray := prog_7_method_1_code
def yX5_init : MethodName := ⟨RX5, "<init>", "()V"⟩
abbrev cX5_begin : ByteArray := prog_7_method_2_code
def yX5_begin : MethodName := ⟨RX5, "begin", "(LWordRation$Town;)V"⟩
abbrev cX5_copy : ByteArray := prog_7_method_3_code
def yX5_copy : MethodName := ⟨RX5, "copy", "(LWordRation$State;)V"⟩
abbrev cX5_hoardedBy : ByteArray := prog_7_method_4_code
def yX5_hoardedBy : MethodName := ⟨RX5, "hoardedBy", "(II)I"⟩
abbrev cX5_addHoarded : ByteArray := prog_7_method_5_code
def yX5_addHoarded : MethodName := ⟨RX5, "addHoarded", "(III)V"⟩
abbrev cX5_hoardedByAll : ByteArray := prog_7_method_6_code
def yX5_hoardedByAll : MethodName := ⟨RX5, "hoardedByAll", "(I)I"⟩
abbrev cX5_supply : ByteArray := prog_7_method_7_code
def yX5_supply : MethodName := ⟨RX5, "supply", "(I)I"⟩
abbrev cX5_sayable : ByteArray := prog_7_method_8_code
def yX5_sayable : MethodName := ⟨RX5, "sayable", "(II)I"⟩
abbrev cX5_canSay : ByteArray := prog_7_method_9_code
def yX5_canSay : MethodName := ⟨RX5, "canSay", "(II)Z"⟩
abbrev cX5_speak : ByteArray := prog_7_method_10_code
def yX5_speak : MethodName := ⟨RX5, "speak", "(II)V"⟩
abbrev cX5_canGo : ByteArray := prog_7_method_11_code
def yX5_canGo : MethodName := ⟨RX5, "canGo", "(II)Z"⟩
abbrev cX5_go : ByteArray := prog_7_method_12_code
def yX5_go : MethodName := ⟨RX5, "go", "(II)V"⟩
abbrev cX5_gesture : ByteArray := prog_7_method_13_code
def yX5_gesture : MethodName := ⟨RX5, "gesture", "()V"⟩
abbrev cX5_store : ByteArray := prog_7_method_14_code
def yX5_store : MethodName := ⟨RX5, "store", "(III)V"⟩
abbrev cX5_passDay : ByteArray := prog_7_method_15_code
def yX5_passDay : MethodName := ⟨RX5, "passDay", "(LWordRation$Town;)V"⟩
abbrev cX5_meetOrLose : ByteArray := prog_7_method_16_code
def yX5_meetOrLose : MethodName := ⟨RX5, "meetOrLose", "(LWordRation$Town;I)V"⟩
abbrev cX5_meets : ByteArray := prog_7_method_17_code
def yX5_meets : MethodName := ⟨RX5, "meets", "(LWordRation$Town;II)Z"⟩
abbrev cX5_beginYear : ByteArray := prog_7_method_18_code
def yX5_beginYear : MethodName := ⟨RX5, "beginYear", "()V"⟩
abbrev cX5_counted : ByteArray := prog_7_method_19_code
def yX5_counted : MethodName := ⟨RX5, "counted", "(II)I"⟩
def RX6 : String := "WordRation$Text"
def TX6 : u_T := fun k => match k with
  | 0 => ("WordRation$Text", "letters", "[I", true)
  | 1 => ("WordRation$Text", "length", "I", false)
  | 2 => ("WordRation$Text", "fault", "I", false)
  | 3 => ("WordRation$Text", "place", "I", false)
  | 4 => ("WordRation$Text", "at", "I", false)
  | _ => ("WordRation$Text", "numberAt", "I", false)
def tyX6 : Nat → FieldType := fun k => match k with
  | 0 => .array .int
  | 1 => .int
  | 2 => .int
  | 3 => .int
  | 4 => .int
  | _ => .int
abbrev wsX60 : List Cond := u_ws RX6 TX6 6
theorem nmX6 : ∀ a, a < 6 → ∀ b, b < 6 → a ≠ b → (TX6 a).2.1 ≠ (TX6 b).2.1 := by decide +kernel
theorem tyX6_ok : ∀ k, k < 6 → parseFieldDescriptor (TX6 k).2.2.1 = some (tyX6 k) := by decide +kernel
abbrev cX6_init : ByteArray := prog_8_method_1_code
def yX6_init : MethodName := ⟨RX6, "<init>", "()V"⟩
abbrev cX6_isFull : ByteArray := prog_8_method_2_code
def yX6_isFull : MethodName := ⟨RX6, "isFull", "()Z"⟩
abbrev cX6_add : ByteArray := prog_8_method_3_code
def yX6_add : MethodName := ⟨RX6, "add", "(I)V"⟩
abbrev cX6_empty : ByteArray := prog_8_method_4_code
def yX6_empty : MethodName := ⟨RX6, "empty", "()V"⟩
abbrev cX6_readInto : ByteArray := prog_8_method_5_code
def yX6_readInto : MethodName := ⟨RX6, "readInto", "(LWordRation$Town;)V"⟩
abbrev cX6_readClause : ByteArray := prog_8_method_6_code
def yX6_readClause : MethodName := ⟨RX6, "readClause", "(LWordRation$Town;)V"⟩
abbrev cX6_faultOfName : ByteArray := prog_8_method_7_code
def yX6_faultOfName : MethodName := ⟨RX6, "faultOfName", "(LWordRation$Town;I)I"⟩
abbrev cX6_readWord : ByteArray := prog_8_method_8_code
def yX6_readWord : MethodName := ⟨RX6, "readWord", "(LWordRation$Town;)V"⟩
abbrev cX6_readWay : ByteArray := prog_8_method_9_code
def yX6_readWay : MethodName := ⟨RX6, "readWay", "(LWordRation$Town;)V"⟩
abbrev cX6_readPointing : ByteArray := prog_8_method_10_code
def yX6_readPointing : MethodName := ⟨RX6, "readPointing", "(LWordRation$Town;)V"⟩
abbrev cX6_readNeed : ByteArray := prog_8_method_11_code
def yX6_readNeed : MethodName := ⟨RX6, "readNeed", "(LWordRation$Town;)V"⟩
abbrev cX6_readNumber : ByteArray := prog_8_method_12_code
def yX6_readNumber : MethodName := ⟨RX6, "readNumber", "(II)I"⟩
abbrev cX6_skipBlanks : ByteArray := prog_8_method_13_code
def yX6_skipBlanks : MethodName := ⟨RX6, "skipBlanks", "()V"⟩
abbrev cX6_letterHere : ByteArray := prog_8_method_14_code
def yX6_letterHere : MethodName := ⟨RX6, "letterHere", "()I"⟩
abbrev cX6_blame : ByteArray := prog_8_method_15_code
def yX6_blame : MethodName := ⟨RX6, "blame", "(II)V"⟩
def RX7 : String := "WordRation$Town"
def TX7 : u_T := fun k => match k with
  | 0 => ("WordRation$Town", "days", "I", false)
  | 1 => ("WordRation$Town", "words", "I", false)
  | 2 => ("WordRation$Town", "ways", "I", false)
  | 3 => ("WordRation$Town", "persons", "I", false)
  | 4 => ("WordRation$Town", "needs", "I", false)
  | 5 => ("WordRation$Town", "pointable", "I", false)
  | 6 => ("WordRation$Town", "honest", "I", false)
  | 7 => ("WordRation$Town", "limit", "[I", true)
  | 8 => ("WordRation$Town", "cost", "[I", true)
  | 9 => ("WordRation$Town", "rhyme", "[I", true)
  | 10 => ("WordRation$Town", "round", "[I", true)
  | 11 => ("WordRation$Town", "needPerson", "[I", true)
  | 12 => ("WordRation$Town", "needWord", "[I", true)
  | 13 => ("WordRation$Town", "needDay", "[I", true)
  | _ => ("WordRation$Town", "needWorth", "[I", true)
def tyX7 : Nat → FieldType := fun k => match k with
  | 0 => .int
  | 1 => .int
  | 2 => .int
  | 3 => .int
  | 4 => .int
  | 5 => .int
  | 6 => .int
  | 7 => .array .int
  | 8 => .array .int
  | 9 => .array .int
  | 10 => .array .int
  | 11 => .array .int
  | 12 => .array .int
  | 13 => .array .int
  | _ => .array .int
abbrev wsX70 : List Cond := u_ws RX7 TX7 15
theorem nmX7 : ∀ a, a < 15 → ∀ b, b < 15 → a ≠ b → (TX7 a).2.1 ≠ (TX7 b).2.1 := by decide +kernel
theorem tyX7_ok : ∀ k, k < 15 → parseFieldDescriptor (TX7 k).2.2.1 = some (tyX7 k) := by decide +kernel
abbrev cX7_init : ByteArray := prog_9_method_1_code
def yX7_init : MethodName := ⟨RX7, "<init>", "()V"⟩
abbrev cX7_clear : ByteArray := prog_9_method_2_code
def yX7_clear : MethodName := ⟨RX7, "clear", "()V"⟩
abbrev cX7_addWord : ByteArray := prog_9_method_3_code
def yX7_addWord : MethodName := ⟨RX7, "addWord", "(III)V"⟩
abbrev cX7_addWay : ByteArray := prog_9_method_4_code
def yX7_addWay : MethodName := ⟨RX7, "addWay", "(II)V"⟩
abbrev cX7_addPerson : ByteArray := prog_9_method_5_code
def yX7_addPerson : MethodName := ⟨RX7, "addPerson", "(Z)V"⟩
abbrev cX7_addNeed : ByteArray := prog_9_method_6_code
def yX7_addNeed : MethodName := ⟨RX7, "addNeed", "(IIII)V"⟩
abbrev cX7_wayRound : ByteArray := prog_9_method_7_code
def yX7_wayRound : MethodName := ⟨RX7, "wayRound", "(II)I"⟩
abbrev cX7_canPoint : ByteArray := prog_9_method_8_code
def yX7_canPoint : MethodName := ⟨RX7, "canPoint", "(I)Z"⟩
abbrev cX7_dayOfYear : ByteArray := prog_9_method_9_code
def yX7_dayOfYear : MethodName := ⟨RX7, "dayOfYear", "(I)I"⟩
abbrev cX7_isToCome : ByteArray := prog_9_method_10_code
def yX7_isToCome : MethodName := ⟨RX7, "isToCome", "(II)Z"⟩
abbrev cX7_wouldHaveSaid : ByteArray := prog_9_method_11_code
def yX7_wouldHaveSaid : MethodName := ⟨RX7, "wouldHaveSaid", "(III)Z"⟩
def RX8 : String := "WordRation"
def TX8 : u_T := fun k => match k with
  | 0 => ("WordRation", "text", "LWordRation$Text;", true)
  | 1 => ("WordRation", "town", "LWordRation$Town;", false)
  | 2 => ("WordRation", "draft", "LWordRation$Town;", false)
  | 3 => ("WordRation", "now", "LWordRation$State;", true)
  | 4 => ("WordRation", "trial", "LWordRation$State;", true)
  | 5 => ("WordRation", "past", "LWordRation$Past;", true)
  | 6 => ("WordRation", "images", "[LWordRation$Image;", true)
  | 7 => ("WordRation", "plan", "LWordRation$Plan;", true)
  | 8 => ("WordRation", "knots", "LWordRation$Knots;", true)
  | 9 => ("WordRation", "book", "LWordRation$Book;", true)
  | 10 => ("WordRation", "cheap", "[I", true)
  | 11 => ("WordRation", "byWords", "[I", true)
  | _ => ("WordRation", "seed", "I", false)
def tyX8 : Nat → FieldType := fun k => match k with
  | 0 => .object "WordRation$Text"
  | 1 => .object "WordRation$Town"
  | 2 => .object "WordRation$Town"
  | 3 => .object "WordRation$State"
  | 4 => .object "WordRation$State"
  | 5 => .object "WordRation$Past"
  | 6 => .array (.object "WordRation$Image")
  | 7 => .object "WordRation$Plan"
  | 8 => .object "WordRation$Knots"
  | 9 => .object "WordRation$Book"
  | 10 => .array .int
  | 11 => .array .int
  | _ => .int
abbrev wsX80 : List Cond := u_ws RX8 TX8 13
theorem nmX8 : ∀ a, a < 13 → ∀ b, b < 13 → a ≠ b → (TX8 a).2.1 ≠ (TX8 b).2.1 := by decide +kernel
theorem tyX8_ok : ∀ k, k < 13 → parseFieldDescriptor (TX8 k).2.2.1 = some (tyX8 k) := by decide +kernel
abbrev cX8_init : ByteArray := prog_1_method_1_code
def yX8_init : MethodName := ⟨RX8, "<init>", "()V"⟩
abbrev cX8_feed : ByteArray := prog_1_method_2_code
def yX8_feed : MethodName := ⟨RX8, "feed", "(I)I"⟩
abbrev cX8_town : ByteArray := prog_1_method_3_code
def yX8_town : MethodName := ⟨RX8, "town", "()I"⟩
abbrev cX8_fault : ByteArray := prog_1_method_4_code
def yX8_fault : MethodName := ⟨RX8, "fault", "()I"⟩
abbrev cX8_told : ByteArray := prog_1_method_5_code
def yX8_told : MethodName := ⟨RX8, "told", "(I)I"⟩
abbrev cX8_word : ByteArray := prog_1_method_6_code
def yX8_word : MethodName := ⟨RX8, "word", "(II)I"⟩
abbrev cX8_hoarded : ByteArray := prog_1_method_7_code
def yX8_hoarded : MethodName := ⟨RX8, "hoarded", "(II)I"⟩
abbrev cX8_need : ByteArray := prog_1_method_8_code
def yX8_need : MethodName := ⟨RX8, "need", "(II)I"⟩
abbrev cX8_day : ByteArray := prog_1_method_9_code
def yX8_day : MethodName := ⟨RX8, "day", "(I)I"⟩
abbrev cX8_say : ByteArray := prog_1_method_10_code
def yX8_say : MethodName := ⟨RX8, "say", "(II)I"⟩
abbrev cX8_around : ByteArray := prog_1_method_11_code
def yX8_around : MethodName := ⟨RX8, "around", "(III)I"⟩
abbrev cX8_point : ByteArray := prog_1_method_12_code
def yX8_point : MethodName := ⟨RX8, "point", "(I)I"⟩
abbrev cX8_hoard : ByteArray := prog_1_method_13_code
def yX8_hoard : MethodName := ⟨RX8, "hoard", "(III)I"⟩
abbrev cX8_sell : ByteArray := prog_1_method_14_code
def yX8_sell : MethodName := ⟨RX8, "sell", "(IIII)I"⟩
abbrev cX8_raise : ByteArray := prog_1_method_15_code
def yX8_raise : MethodName := ⟨RX8, "raise", "(II)I"⟩
abbrev cX8_drift : ByteArray := prog_1_method_16_code
def yX8_drift : MethodName := ⟨RX8, "drift", "(I)I"⟩
abbrev cX8_undo : ByteArray := prog_1_method_17_code
def yX8_undo : MethodName := ⟨RX8, "undo", "()I"⟩
abbrev cX8_cheapest : ByteArray := prog_1_method_18_code
def yX8_cheapest : MethodName := ⟨RX8, "cheapest", "(III)I"⟩
abbrev cX8_runsOut : ByteArray := prog_1_method_19_code
def yX8_runsOut : MethodName := ⟨RX8, "runsOut", "(I)I"⟩
abbrev cX8_willBe : ByteArray := prog_1_method_20_code
def yX8_willBe : MethodName := ⟨RX8, "willBe", "(I)I"⟩
abbrev cX8_plan : ByteArray := prog_1_method_21_code
def yX8_plan : MethodName := ⟨RX8, "plan", "(I)I"⟩
abbrev cX8_price : ByteArray := prog_1_method_22_code
def yX8_price : MethodName := ⟨RX8, "price", "(I)I"⟩
abbrev cX8_sells : ByteArray := prog_1_method_23_code
def yX8_sells : MethodName := ⟨RX8, "sells", "(II)I"⟩
abbrev cX8_share : ByteArray := prog_1_method_24_code
def yX8_share : MethodName := ⟨RX8, "share", "(II)I"⟩
abbrev cX8_more : ByteArray := prog_1_method_25_code
def yX8_more : MethodName := ⟨RX8, "more", "(I)I"⟩
abbrev cX8_fire : ByteArray := prog_1_method_26_code
def yX8_fire : MethodName := ⟨RX8, "fire", "(II)I"⟩
abbrev cX8_rhymes : ByteArray := prog_1_method_27_code
def yX8_rhymes : MethodName := ⟨RX8, "rhymes", "(I)I"⟩
abbrev cX8_silent : ByteArray := prog_1_method_28_code
def yX8_silent : MethodName := ⟨RX8, "silent", "(II)I"⟩
abbrev cX8_knot : ByteArray := prog_1_method_29_code
def yX8_knot : MethodName := ⟨RX8, "knot", "(IIZ)I"⟩
abbrev cX8_who : ByteArray := prog_1_method_30_code
def yX8_who : MethodName := ⟨RX8, "who", "()I"⟩
abbrev cX8_ask : ByteArray := prog_1_method_31_code
def yX8_ask : MethodName := ⟨RX8, "ask", "()I"⟩
abbrev cX8_write : ByteArray := prog_1_method_32_code
def yX8_write : MethodName := ⟨RX8, "write", "(II)I"⟩
abbrev cX8_tear : ByteArray := prog_1_method_33_code
def yX8_tear : MethodName := ⟨RX8, "tear", "()I"⟩
abbrev cX8_judge : ByteArray := prog_1_method_34_code
def yX8_judge : MethodName := ⟨RX8, "judge", "()I"⟩
abbrev cX8_seed : ByteArray := prog_1_method_35_code
def yX8_seed : MethodName := ⟨RX8, "seed", "(I)I"⟩
abbrev cX8_keep : ByteArray := prog_1_method_36_code
def yX8_keep : MethodName := ⟨RX8, "keep", "(I)I"⟩
abbrev cX8_goBack : ByteArray := prog_1_method_37_code
def yX8_goBack : MethodName := ⟨RX8, "goBack", "(I)I"⟩
abbrev cX8_isWord : ByteArray := prog_1_method_38_code
def yX8_isWord : MethodName := ⟨RX8, "isWord", "(I)Z"⟩
abbrev cX8_isPerson : ByteArray := prog_1_method_39_code
def yX8_isPerson : MethodName := ⟨RX8, "isPerson", "(I)Z"⟩
abbrev cX8_isNeed : ByteArray := prog_1_method_40_code
def yX8_isNeed : MethodName := ⟨RX8, "isNeed", "(I)Z"⟩
abbrev cX8_today : ByteArray := prog_1_method_41_code
def yX8_today : MethodName := ⟨RX8, "today", "()I"⟩
abbrev cX8_neverSaid : ByteArray := prog_1_method_42_code
def yX8_neverSaid : MethodName := ⟨RX8, "neverSaid", "()I"⟩
abbrev cX8_refusalOfDays : ByteArray := prog_1_method_43_code
def yX8_refusalOfDays : MethodName := ⟨RX8, "refusalOfDays", "(I)I"⟩
abbrev cX8_drawOf : ByteArray := prog_1_method_44_code
def yX8_drawOf : MethodName := ⟨RX8, "drawOf", "(I)I"⟩
abbrev cX8_doByDraws : ByteArray := prog_1_method_45_code
def yX8_doByDraws : MethodName := ⟨RX8, "doByDraws", "()V"⟩
abbrev cX8_workOutCheap : ByteArray := prog_1_method_46_code
def yX8_workOutCheap : MethodName := ⟨RX8, "workOutCheap", "(I)V"⟩
abbrev cX8_cheapestKind : ByteArray := prog_1_method_47_code
def yX8_cheapestKind : MethodName := ⟨RX8, "cheapestKind", "(II)I"⟩
abbrev cX8_costBy : ByteArray := prog_1_method_48_code
def yX8_costBy : MethodName := ⟨RX8, "costBy", "(III)I"⟩
abbrev cX8_cheapTogether : ByteArray := prog_1_method_49_code
def yX8_cheapTogether : MethodName := ⟨RX8, "cheapTogether", "(I)I"⟩
abbrev cX8_isToComeOf : ByteArray := prog_1_method_50_code
def yX8_isToComeOf : MethodName := ⟨RX8, "isToComeOf", "(II)Z"⟩
abbrev cX8_rankByWorth : ByteArray := prog_1_method_51_code
def yX8_rankByWorth : MethodName := ⟨RX8, "rankByWorth", "(II)I"⟩
abbrev cX8_needsToCome : ByteArray := prog_1_method_52_code
def yX8_needsToCome : MethodName := ⟨RX8, "needsToCome", "(II)I"⟩
abbrev cX8_wouldSell : ByteArray := prog_1_method_53_code
def yX8_wouldSell : MethodName := ⟨RX8, "wouldSell", "(III)Z"⟩
abbrev cX8_oneNightMore : ByteArray := prog_1_method_54_code
def yX8_oneNightMore : MethodName := ⟨RX8, "oneNightMore", "(II)I"⟩
abbrev cX8_greatestPart : ByteArray := prog_1_method_55_code
def yX8_greatestPart : MethodName := ⟨RX8, "greatestPart", "(III)I"⟩
def RX9 : String := "WordRationModel"
def TX9 : u_T := fun k => match k with
  | 0 => ("WordRationModel", "now", "[I", true)
  | 1 => ("WordRationModel", "tried", "[I", true)
  | 2 => ("WordRationModel", "was", "[I", true)
  | 3 => ("WordRationModel", "acts", "I", false)
  | 4 => ("WordRationModel", "seed", "I", false)
  | 5 => ("WordRationModel", "days", "I", false)
  | 6 => ("WordRationModel", "words", "I", false)
  | 7 => ("WordRationModel", "persons", "I", false)
  | 8 => ("WordRationModel", "needs", "I", false)
  | 9 => ("WordRationModel", "cost", "[I", true)
  | 10 => ("WordRationModel", "rhyme", "[I", true)
  | 11 => ("WordRationModel", "ways", "[I", true)
  | 12 => ("WordRationModel", "pointing", "[Z", true)
  | 13 => ("WordRationModel", "honest", "[Z", true)
  | 14 => ("WordRationModel", "needed", "[I", true)
  | 15 => ("WordRationModel", "text", "[I", true)
  | 16 => ("WordRationModel", "letters", "I", false)
  | 17 => ("WordRationModel", "at", "I", false)
  | 18 => ("WordRationModel", "wrong", "I", false)
  | 19 => ("WordRationModel", "wrongAt", "I", false)
  | 20 => ("WordRationModel", "faultAt", "I", false)
  | 21 => ("WordRationModel", "newDays", "I", false)
  | 22 => ("WordRationModel", "newWords", "I", false)
  | 23 => ("WordRationModel", "newPersons", "I", false)
  | 24 => ("WordRationModel", "newNeeds", "I", false)
  | 25 => ("WordRationModel", "newWays", "I", false)
  | 26 => ("WordRationModel", "newLimit", "[I", true)
  | 27 => ("WordRationModel", "newCost", "[I", true)
  | 28 => ("WordRationModel", "newRhyme", "[I", true)
  | 29 => ("WordRationModel", "newRound", "[I", true)
  | 30 => ("WordRationModel", "newPointing", "[Z", true)
  | 31 => ("WordRationModel", "newHonest", "[Z", true)
  | 32 => ("WordRationModel", "newNeeded", "[I", true)
  | 33 => ("WordRationModel", "toldPlace", "I", false)
  | 34 => ("WordRationModel", "least", "[I", true)
  | 35 => ("WordRationModel", "coming", "I", false)
  | 36 => ("WordRationModel", "list", "[I", true)
  | 37 => ("WordRationModel", "rest", "[I", true)
  | 38 => ("WordRationModel", "pick", "[I", true)
  | 39 => ("WordRationModel", "used", "[I", true)
  | 40 => ("WordRationModel", "supply", "[I", true)
  | 41 => ("WordRationModel", "worth", "I", false)
  | 42 => ("WordRationModel", "count", "I", false)
  | 43 => ("WordRationModel", "best", "[I", true)
  | 44 => ("WordRationModel", "bestWorth", "I", false)
  | 45 => ("WordRationModel", "bestCount", "I", false)
  | 46 => ("WordRationModel", "fires", "[I", true)
  | 47 => ("WordRationModel", "later", "[I", true)
  | 48 => ("WordRationModel", "knots", "I", false)
  | 49 => ("WordRationModel", "knotWord", "[I", true)
  | 50 => ("WordRationModel", "knotDay", "[I", true)
  | 51 => ("WordRationModel", "knotSaid", "[Z", true)
  | 52 => ("WordRationModel", "entries", "I", false)
  | 53 => ("WordRationModel", "entryWord", "[I", true)
  | 54 => ("WordRationModel", "entryLeft", "[I", true)
  | 55 => ("WordRationModel", "isKept", "[Z", true)
  | 56 => ("WordRationModel", "kept", "[I", true)
  | _ => ("WordRationModel", "keptSeed", "[I", true)
def tyX9 : Nat → FieldType := fun k => match k with
  | 0 => .array .int
  | 1 => .array .int
  | 2 => .array .int
  | 3 => .int
  | 4 => .int
  | 5 => .int
  | 6 => .int
  | 7 => .int
  | 8 => .int
  | 9 => .array .int
  | 10 => .array .int
  | 11 => .array .int
  | 12 => .array .boolean
  | 13 => .array .boolean
  | 14 => .array .int
  | 15 => .array .int
  | 16 => .int
  | 17 => .int
  | 18 => .int
  | 19 => .int
  | 20 => .int
  | 21 => .int
  | 22 => .int
  | 23 => .int
  | 24 => .int
  | 25 => .int
  | 26 => .array .int
  | 27 => .array .int
  | 28 => .array .int
  | 29 => .array .int
  | 30 => .array .boolean
  | 31 => .array .boolean
  | 32 => .array .int
  | 33 => .int
  | 34 => .array .int
  | 35 => .int
  | 36 => .array .int
  | 37 => .array .int
  | 38 => .array .int
  | 39 => .array .int
  | 40 => .array .int
  | 41 => .int
  | 42 => .int
  | 43 => .array .int
  | 44 => .int
  | 45 => .int
  | 46 => .array .int
  | 47 => .array .int
  | 48 => .int
  | 49 => .array .int
  | 50 => .array .int
  | 51 => .array .boolean
  | 52 => .int
  | 53 => .array .int
  | 54 => .array .int
  | 55 => .array .boolean
  | 56 => .array .int
  | _ => .array .int
abbrev wsX90 : List Cond := u_ws RX9 TX9 58
theorem nmX9 : ∀ a, a < 58 → ∀ b, b < 58 → a ≠ b → (TX9 a).2.1 ≠ (TX9 b).2.1 := by decide +kernel
theorem tyX9_ok : ∀ k, k < 58 → parseFieldDescriptor (TX9 k).2.2.1 = some (tyX9 k) := by decide +kernel
abbrev cX9_init : ByteArray := prog_11_method_1_code
def yX9_init : MethodName := ⟨RX9, "<init>", "()V"⟩
abbrev cX9_in : ByteArray := prog_11_method_3_code
def yX9_in : MethodName := ⟨RX9, "in", "(JJJ)Z"⟩
abbrev cX9_isWord : ByteArray := prog_11_method_4_code
def yX9_isWord : MethodName := ⟨RX9, "isWord", "(I)Z"⟩
abbrev cX9_isPerson : ByteArray := prog_11_method_5_code
def yX9_isPerson : MethodName := ⟨RX9, "isPerson", "(I)Z"⟩
abbrev cX9_isNeed : ByteArray := prog_11_method_6_code
def yX9_isNeed : MethodName := ⟨RX9, "isNeed", "(I)Z"⟩
abbrev cX9_has : ByteArray := prog_11_method_7_code
def yX9_has : MethodName := ⟨RX9, "has", "(II)Z"⟩
abbrev cX9_bits : ByteArray := prog_11_method_8_code
def yX9_bits : MethodName := ⟨RX9, "bits", "(I)I"⟩
abbrev cX9_up : ByteArray := prog_11_method_9_code
def yX9_up : MethodName := ⟨RX9, "up", "(II)I"⟩
abbrev cX9_person : ByteArray := prog_11_method_10_code
def yX9_person : MethodName := ⟨RX9, "person", "(I)I"⟩
abbrev cX9_wordOf : ByteArray := prog_11_method_11_code
def yX9_wordOf : MethodName := ⟨RX9, "wordOf", "(I)I"⟩
abbrev cX9_dayOf : ByteArray := prog_11_method_12_code
def yX9_dayOf : MethodName := ⟨RX9, "dayOf", "(I)I"⟩
abbrev cX9_worthOf : ByteArray := prog_11_method_13_code
def yX9_worthOf : MethodName := ⟨RX9, "worthOf", "(I)I"⟩
abbrev cX9_feed : ByteArray := prog_11_method_14_code
def yX9_feed : MethodName := ⟨RX9, "feed", "(I)I"⟩
abbrev cX9_bad : ByteArray := prog_11_method_15_code
def yX9_bad : MethodName := ⟨RX9, "bad", "(II)V"⟩
abbrev cX9_letterNow : ByteArray := prog_11_method_16_code
def yX9_letterNow : MethodName := ⟨RX9, "letterNow", "()I"⟩
abbrev cX9_isFigure : ByteArray := prog_11_method_17_code
def yX9_isFigure : MethodName := ⟨RX9, "isFigure", "(I)Z"⟩
abbrev cX9_number : ByteArray := prog_11_method_18_code
def yX9_number : MethodName := ⟨RX9, "number", "(II)I"⟩
abbrev cX9_wordTold : ByteArray := prog_11_method_19_code
def yX9_wordTold : MethodName := ⟨RX9, "wordTold", "()I"⟩
abbrev cX9_end : ByteArray := prog_11_method_20_code
def yX9_end : MethodName := ⟨RX9, "end", "()V"⟩
abbrev cX9_readWord : ByteArray := prog_11_method_21_code
def yX9_readWord : MethodName := ⟨RX9, "readWord", "()V"⟩
abbrev cX9_readWay : ByteArray := prog_11_method_22_code
def yX9_readWay : MethodName := ⟨RX9, "readWay", "()V"⟩
abbrev cX9_readPointing : ByteArray := prog_11_method_23_code
def yX9_readPointing : MethodName := ⟨RX9, "readPointing", "()V"⟩
abbrev cX9_readPerson : ByteArray := prog_11_method_24_code
def yX9_readPerson : MethodName := ⟨RX9, "readPerson", "()V"⟩
abbrev cX9_readNeed : ByteArray := prog_11_method_25_code
def yX9_readNeed : MethodName := ⟨RX9, "readNeed", "()V"⟩
abbrev cX9_readYear : ByteArray := prog_11_method_26_code
def yX9_readYear : MethodName := ⟨RX9, "readYear", "()V"⟩
abbrev cX9_readClause : ByteArray := prog_11_method_27_code
def yX9_readClause : MethodName := ⟨RX9, "readClause", "(I)V"⟩
abbrev cX9_readAll : ByteArray := prog_11_method_28_code
def yX9_readAll : MethodName := ⟨RX9, "readAll", "()V"⟩
abbrev cX9_town : ByteArray := prog_11_method_29_code
def yX9_town : MethodName := ⟨RX9, "town", "()I"⟩
abbrev cX9_fault : ByteArray := prog_11_method_30_code
def yX9_fault : MethodName := ⟨RX9, "fault", "()I"⟩
abbrev cX9_dayNow : ByteArray := prog_11_method_31_code
def yX9_dayNow : MethodName := ⟨RX9, "dayNow", "()I"⟩
abbrev cX9_isToCome : ByteArray := prog_11_method_32_code
def yX9_isToCome : MethodName := ⟨RX9, "isToCome", "(I)Z"⟩
abbrev cX9_hoardedOf : ByteArray := prog_11_method_33_code
def yX9_hoardedOf : MethodName := ⟨RX9, "hoardedOf", "([II)I"⟩
abbrev cX9_told : ByteArray := prog_11_method_34_code
def yX9_told : MethodName := ⟨RX9, "told", "(I)I"⟩
abbrev cX9_word : ByteArray := prog_11_method_35_code
def yX9_word : MethodName := ⟨RX9, "word", "(II)I"⟩
abbrev cX9_hoarded : ByteArray := prog_11_method_36_code
def yX9_hoarded : MethodName := ⟨RX9, "hoarded", "(II)I"⟩
abbrev cX9_need : ByteArray := prog_11_method_37_code
def yX9_need : MethodName := ⟨RX9, "need", "(II)I"⟩
abbrev cX9_keepAct : ByteArray := prog_11_method_38_code
def yX9_keepAct : MethodName := ⟨RX9, "keepAct", "()V"⟩
abbrev cX9_canSay : ByteArray := prog_11_method_39_code
def yX9_canSay : MethodName := ⟨RX9, "canSay", "([III)Z"⟩
abbrev cX9_says : ByteArray := prog_11_method_40_code
def yX9_says : MethodName := ⟨RX9, "says", "([III)V"⟩
abbrev cX9_canGo : ByteArray := prog_11_method_41_code
def yX9_canGo : MethodName := ⟨RX9, "canGo", "([III)Z"⟩
abbrev cX9_goes : ByteArray := prog_11_method_42_code
def yX9_goes : MethodName := ⟨RX9, "goes", "([III)V"⟩
abbrev cX9_meets : ByteArray := prog_11_method_43_code
def yX9_meets : MethodName := ⟨RX9, "meets", "([II)Z"⟩
abbrev cX9_goOn : ByteArray := prog_11_method_44_code
def yX9_goOn : MethodName := ⟨RX9, "goOn", "([I)I"⟩
abbrev cX9_day : ByteArray := prog_11_method_45_code
def yX9_day : MethodName := ⟨RX9, "day", "(I)I"⟩
abbrev cX9_say : ByteArray := prog_11_method_46_code
def yX9_say : MethodName := ⟨RX9, "say", "(II)I"⟩
abbrev cX9_around : ByteArray := prog_11_method_47_code
def yX9_around : MethodName := ⟨RX9, "around", "(III)I"⟩
abbrev cX9_point : ByteArray := prog_11_method_48_code
def yX9_point : MethodName := ⟨RX9, "point", "(I)I"⟩
abbrev cX9_hoard : ByteArray := prog_11_method_49_code
def yX9_hoard : MethodName := ⟨RX9, "hoard", "(III)I"⟩
abbrev cX9_sell : ByteArray := prog_11_method_50_code
def yX9_sell : MethodName := ⟨RX9, "sell", "(IIII)I"⟩
abbrev cX9_raise : ByteArray := prog_11_method_51_code
def yX9_raise : MethodName := ⟨RX9, "raise", "(II)I"⟩
abbrev cX9_draw : ByteArray := prog_11_method_52_code
def yX9_draw : MethodName := ⟨RX9, "draw", "(I)I"⟩
abbrev cX9_drawn : ByteArray := prog_11_method_53_code
def yX9_drawn : MethodName := ⟨RX9, "drawn", "()V"⟩
abbrev cX9_drift : ByteArray := prog_11_method_54_code
def yX9_drift : MethodName := ⟨RX9, "drift", "(I)I"⟩
abbrev cX9_undo : ByteArray := prog_11_method_55_code
def yX9_undo : MethodName := ⟨RX9, "undo", "()I"⟩
abbrev cX9_layTried : ByteArray := prog_11_method_56_code
def yX9_layTried : MethodName := ⟨RX9, "layTried", "()V"⟩
abbrev cX9_costOfWay : ByteArray := prog_11_method_57_code
def yX9_costOfWay : MethodName := ⟨RX9, "costOfWay", "(I)I"⟩
abbrev cX9_costBy : ByteArray := prog_11_method_58_code
def yX9_costBy : MethodName := ⟨RX9, "costBy", "(III)I"⟩
abbrev cX9_cheapest : ByteArray := prog_11_method_59_code
def yX9_cheapest : MethodName := ⟨RX9, "cheapest", "(III)I"⟩
abbrev cX9_runsOut : ByteArray := prog_11_method_60_code
def yX9_runsOut : MethodName := ⟨RX9, "runsOut", "(I)I"⟩
abbrev cX9_willBe : ByteArray := prog_11_method_61_code
def yX9_willBe : MethodName := ⟨RX9, "willBe", "(I)I"⟩
abbrev cX9_wordsBy : ByteArray := prog_11_method_62_code
def yX9_wordsBy : MethodName := ⟨RX9, "wordsBy", "(II)I"⟩
abbrev cX9_use : ByteArray := prog_11_method_63_code
def yX9_use : MethodName := ⟨RX9, "use", "(III)V"⟩
abbrev cX9_fits : ByteArray := prog_11_method_64_code
def yX9_fits : MethodName := ⟨RX9, "fits", "(II)Z"⟩
abbrev cX9_nextPick : ByteArray := prog_11_method_65_code
def yX9_nextPick : MethodName := ⟨RX9, "nextPick", "(I)I"⟩
abbrev cX9_comparePlan : ByteArray := prog_11_method_66_code
def yX9_comparePlan : MethodName := ⟨RX9, "comparePlan", "()V"⟩
abbrev cX9_findPlan : ByteArray := prog_11_method_67_code
def yX9_findPlan : MethodName := ⟨RX9, "findPlan", "()V"⟩
abbrev cX9_plan : ByteArray := prog_11_method_68_code
def yX9_plan : MethodName := ⟨RX9, "plan", "(I)I"⟩
abbrev cX9_isOf : ByteArray := prog_11_method_69_code
def yX9_isOf : MethodName := ⟨RX9, "isOf", "(II)Z"⟩
abbrev cX9_needsOf : ByteArray := prog_11_method_70_code
def yX9_needsOf : MethodName := ⟨RX9, "needsOf", "(II)I"⟩
abbrev cX9_price : ByteArray := prog_11_method_71_code
def yX9_price : MethodName := ⟨RX9, "price", "(I)I"⟩
abbrev cX9_doSell : ByteArray := prog_11_method_72_code
def yX9_doSell : MethodName := ⟨RX9, "doSell", "(III)Z"⟩
abbrev cX9_sells : ByteArray := prog_11_method_73_code
def yX9_sells : MethodName := ⟨RX9, "sells", "(II)I"⟩
abbrev cX9_share : ByteArray := prog_11_method_74_code
def yX9_share : MethodName := ⟨RX9, "share", "(II)I"⟩
abbrev cX9_more : ByteArray := prog_11_method_75_code
def yX9_more : MethodName := ⟨RX9, "more", "(I)I"⟩
abbrev cX9_fire : ByteArray := prog_11_method_76_code
def yX9_fire : MethodName := ⟨RX9, "fire", "(II)I"⟩
abbrev cX9_rhymes : ByteArray := prog_11_method_77_code
def yX9_rhymes : MethodName := ⟨RX9, "rhymes", "(I)I"⟩
abbrev cX9_silent : ByteArray := prog_11_method_78_code
def yX9_silent : MethodName := ⟨RX9, "silent", "(II)I"⟩
abbrev cX9_knot : ByteArray := prog_11_method_79_code
def yX9_knot : MethodName := ⟨RX9, "knot", "(IIZ)I"⟩
abbrev cX9_wouldSay : ByteArray := prog_11_method_80_code
def yX9_wouldSay : MethodName := ⟨RX9, "wouldSay", "(III)Z"⟩
abbrev cX9_whoSaid : ByteArray := prog_11_method_81_code
def yX9_whoSaid : MethodName := ⟨RX9, "whoSaid", "()I"⟩
abbrev cX9_who : ByteArray := prog_11_method_82_code
def yX9_who : MethodName := ⟨RX9, "who", "()I"⟩
abbrev cX9_ask : ByteArray := prog_11_method_83_code
def yX9_ask : MethodName := ⟨RX9, "ask", "()I"⟩
abbrev cX9_write : ByteArray := prog_11_method_84_code
def yX9_write : MethodName := ⟨RX9, "write", "(II)I"⟩
abbrev cX9_tear : ByteArray := prog_11_method_85_code
def yX9_tear : MethodName := ⟨RX9, "tear", "()I"⟩
abbrev cX9_judge : ByteArray := prog_11_method_86_code
def yX9_judge : MethodName := ⟨RX9, "judge", "()I"⟩
abbrev cX9_seed : ByteArray := prog_11_method_87_code
def yX9_seed : MethodName := ⟨RX9, "seed", "(I)I"⟩
abbrev cX9_keep : ByteArray := prog_11_method_88_code
def yX9_keep : MethodName := ⟨RX9, "keep", "(I)I"⟩
abbrev cX9_goBack : ByteArray := prog_11_method_89_code
def yX9_goBack : MethodName := ⟨RX9, "goBack", "(I)I"⟩
def RJ6 : String := "java/lang/Integer"
def TJ6 : u_T := fun k => match k with
  | _ => ("", "", "", false)
def tyJ6 : Nat → FieldType := fun k => match k with
  | _ => .int
abbrev wsJ60 : List Cond := u_ws RJ6 TJ6 0
theorem nmJ6 : ∀ a, a < 0 → ∀ b, b < 0 → a ≠ b → (TJ6 a).2.1 ≠ (TJ6 b).2.1 := by decide +kernel
theorem tyJ6_ok : ∀ k, k < 0 → parseFieldDescriptor (TJ6 k).2.2.1 = some (tyJ6 k) := by decide +kernel
abbrev cJ6_bitCount_0f7a4 : ByteArray := prog_12_method_49_code
def yJ6_bitCount_0f7a4 : MethodName := ⟨RJ6, "bitCount", "(I)I"⟩
def RJ9 : String := "java/lang/Math"
def TJ9 : u_T := fun k => match k with
  | _ => ("", "", "", false)
def tyJ9 : Nat → FieldType := fun k => match k with
  | _ => .int
abbrev wsJ90 : List Cond := u_ws RJ9 TJ9 0
theorem nmJ9 : ∀ a, a < 0 → ∀ b, b < 0 → a ≠ b → (TJ9 a).2.1 ≠ (TJ9 b).2.1 := by decide +kernel
theorem tyJ9_ok : ∀ k, k < 0 → parseFieldDescriptor (TJ9 k).2.2.1 = some (tyJ9 k) := by decide +kernel
abbrev cJ9_max_7cf53 : ByteArray := prog_13_method_65_code
def yJ9_max_7cf53 : MethodName := ⟨RJ9, "max", "(II)I"⟩
abbrev cJ9_min_7cf53 : ByteArray := prog_13_method_69_code
def yJ9_min_7cf53 : MethodName := ⟨RJ9, "min", "(II)I"⟩
def RJ10 : String := "java/lang/System"
def TJ10 : u_T := fun k => match k with
  | _ => ("", "", "", false)
def tyJ10 : Nat → FieldType := fun k => match k with
  | _ => .int
abbrev wsJ100 : List Cond := u_ws RJ10 TJ10 0
theorem nmJ10 : ∀ a, a < 0 → ∀ b, b < 0 → a ≠ b → (TJ10 a).2.1 ≠ (TJ10 b).2.1 := by decide +kernel
theorem tyJ10_ok : ∀ k, k < 0 → parseFieldDescriptor (TJ10 k).2.2.1 = some (tyJ10 k) := by decide +kernel
def RL : String := "WordRationLaw"
abbrev cL_law : ByteArray := code
def yL_law : MethodName := ⟨RL, "law", "([I)Z"⟩
abbrev vwCl : List vw_C := [(RX0, TX0, 3), (RX1, TX1, 3), (RX2, TX2, 4), (RX3, TX3, 3), (RX4, TX4, 10), (RX5, TX5, 9), (RX6, TX6, 6), (RX7, TX7, 15), (RX8, TX8, 13), (RX9, TX9, 58)]
end
section
/-! THE WORLD AS NUMBERED CELLS: memory, shapes, what the heap holds of it -/
def zSH : List (Nat × Nat) := [(99, 0), (8, 13), (6, 6), (10, 240), (7, 15), (10, 8), (10, 8), (10, 8), (10, 16), (10, 8), (10, 8), (10, 8), (10, 8), (7, 15), (10, 8), (10, 8), (10, 8), (10, 16), (10, 8), (10, 8), (10, 8), (10, 8), (5, 9), (10, 8), (10, 8), (10, 8), (10, 40), (5, 9), (10, 8), (10, 8), (10, 8), (10, 40), (3, 3), (13, 16), (5, 9), (10, 8), (10, 8), (10, 8), (10, 40), (5, 9), (10, 8), (10, 8), (10, 8), (10, 40), (5, 9), (10, 8), (10, 8), (10, 8), (10, 40), (5, 9), (10, 8), (10, 8), (10, 8), (10, 40), (5, 9), (10, 8), (10, 8), (10, 8), (10, 40), (5, 9), (10, 8), (10, 8), (10, 8), (10, 40), (5, 9), (10, 8), (10, 8), (10, 8), (10, 40), (5, 9), (10, 8), (10, 8), (10, 8), (10, 40), (5, 9), (10, 8), (10, 8), (10, 8), (10, 40), (5, 9), (10, 8), (10, 8), (10, 8), (10, 40), (5, 9), (10, 8), (10, 8), (10, 8), (10, 40), (5, 9), (10, 8), (10, 8), (10, 8), (10, 40), (5, 9), (10, 8), (10, 8), (10, 8), (10, 40), (5, 9), (10, 8), (10, 8), (10, 8), (10, 40), (5, 9), (10, 8), (10, 8), (10, 8), (10, 40), (5, 9), (10, 8), (10, 8), (10, 8), (10, 40), (12, 2), (4, 10), (10, 8), (10, 8), (10, 8), (10, 40), (10, 9), (10, 8), (10, 8), (2, 4), (10, 6), (10, 6), (11, 6), (0, 3), (10, 15), (10, 15), (10, 8), (10, 10), (1, 3), (5, 9), (10, 8), (10, 8), (10, 8), (10, 40), (1, 3), (5, 9), (10, 8), (10, 8), (10, 8), (10, 40), (9, 58), (10, 69), (10, 69), (10, 1104), (10, 8), (10, 8), (10, 16), (11, 8), (11, 5), (10, 32), (10, 240), (10, 8), (10, 8), (10, 8), (10, 16), (11, 8), (11, 5), (10, 32), (10, 8), (10, 8), (10, 9), (10, 9), (10, 8), (10, 8), (10, 8), (10, 10), (10, 10), (10, 6), (10, 6), (11, 6), (10, 15), (10, 15), (11, 2), (10, 138), (10, 2)]
def zRF : List (List Bool) := [[true, true, false], [true, false, false], [true, true, true, false], [true, false, false], [true, true, true, true, true, true, true, false, false, false], [true, true, true, true, false, false, false, false, false], [true, false, false, false, false, false], [false, false, false, false, false, false, false, true, true, true, true, true, true, true, true], [true, true, true, true, true, true, true, true, true, true, true, true, false], [true, true, true, false, false, false, false, false, false, true, true, true, true, true, true, true, false, false, false, false, false, false, false, false, false, false, true, true, true, true, true, true, true, false, true, false, true, true, true, true, true, false, false, true, false, false, true, true, false, true, true, true, false, true, true, true, true, true]]
def zsh (i : Nat) : Nat × Nat := zSH.getD i (99, 0)
def zisr (ci k : Nat) : Bool := (zRF.getD ci []).getD k false
/-- memory: how many cells, their slots, the numbers in them, the references (0: null) -/
abbrev zM : Type := Nat × Nat × (Nat → Nat → Int32) × (Nat → Nat → Nat)
def mI (M : zM) : Nat → Nat → Int32 := M.2.2.1
def mR (M : zM) : Nat → Nat → Nat := M.2.2.2
def wI (M : zM) (a : Nat) (f : Nat → Int32) : zM := (M.1, M.2.1, va_up (mI M) a f, mR M)
def wR (M : zM) (a : Nat) (f : Nat → Nat) : zM := (M.1, M.2.1, mI M, va_up (mR M) a f)
def wN (M : zM) (n : Nat) : zM := (M.1 + 1, M.2.1 + n, va_up (mI M) (M.1 + 1) (fun _ => 0), va_up (mR M) (M.1 + 1) (fun _ => 0))
/-- what is fixed: the floor, the classes, the array classes, the static tables' cells, the script -/
abbrev zG : Type := Nat × va_G × (ClassId × ClassId × ClassId × ClassId) × (Nat × Nat × Nat) × Nat × (Nat → Int32)
def zA (G : zG) : Nat → Prop := fun q => G.1 ≤ q
def zad (G : zG) (i : Nat) : Nat := if i < 1000 then G.1 + (i - 1) else if i = 1000 then G.2.2.2.1.1 else if i = 1001 then G.2.2.2.1.2.1 else G.2.2.2.1.2.2
def zo (G : zG) (r : Nat) : Option Nat := if r = 0 then none else some (zad G r)
def rv (G : zG) : Value → Value
  | .ref r => va_rf (zo G r)
  | v => v
def zfv (G : zG) (M : zM) (i k : Nat) : Value := if zisr (zsh i).1 k then va_rf (zo G (mR M i k)) else .int (mI M i k)
def zent (G : zG) (M : zM) (i : Nat) : va_E :=
  if (zsh i).1 = 10 then .inl (G.2.2.1.1, (zsh i).2, .inl (mI M i))
  else if (zsh i).1 = 11 then .inl (G.2.2.1.2.1, (zsh i).2, .inl (mI M i))
  else if (zsh i).1 = 12 then .inl (G.2.2.1.2.2.1, (zsh i).2, .inr (.inr (.inr (.inr (fun j => zo G (mR M i j))))))
  else if (zsh i).1 = 13 then .inl (G.2.2.1.2.2.2, (zsh i).2, .inr (.inr (.inr (.inr (fun j => zo G (mR M i j))))))
  else .inr ((zsh i).1, (List.range (zsh i).2).map (zfv G M i))
def zwl (G : zG) (M : zM) : va_W := (List.range M.1).map (fun j => (zad G (j + 1), zent G M (j + 1)))
def zty (G : zG) : List (ClassId × FieldType) := [(G.2.2.1.1, .int), (G.2.2.1.2.1, .boolean), (G.2.2.1.2.2.1, .object "WordRation$Image"), (G.2.2.1.2.2.2, .object "WordRation$State")]
def zEag (j : Nat) : Int32 := [4, 1, 2, 3, 0].getD j 0
def zRis (j : Nat) : Int32 := [0, 1, 2, 3, 4].getD j 0
def zNM : List (String × Nat × MethodName × String) := [(RX8, 18, yX7_init, RX8), (RX8, 28, yX5_init, RX8), (RX8, 51, yX4_init, RX8), (RX8, 58, yX2_init, RX8), (RX8, 65, yX0_init, RX8), (RX8, 77, yX1_init, RX8), (RX8, 9, yX6_init, RX8), (RX1, 9, yX5_init, RX8), (RX3, 17, yX5_init, RX8)]
def zKS (G : zG) (U : State) (H : Heap) : Prop :=
  va_K G.2.1 vwCl (zty G) U ∧ va_Z RX8 "EAGER" "[I" (.ref (zad G 1000)) (zA G) U H ∧ va_Z RX8 "RISING" "[I" (.ref (zad G 1001)) (zA G) U H ∧
  va_T .int (zad G 1000) 5 (fun j => .int (zEag j)) (zA G) U H ∧ va_T .int (zad G 1001) 5 (fun j => .int (zRis j)) (zA G) U H ∧ va_T .int (zad G 1002) G.2.2.2.2.1 (fun j => .int (G.2.2.2.2.2 j)) (zA G) U H ∧
  (∀ q ∈ zNM, va_Nw (.methodLinkNest q.1 q.2.1 q.2.2.1 q.2.2.2) U) ∧ va_Nw (.fieldLinkNest RX4 44 RX8 "EAGER" "[I" RX8) U ∧ va_Nw (.fieldLinkNest RX4 51 RX8 "RISING" "[I" RX8) U ∧
  va_AO "WordRation$Image" U ∧ va_AO "WordRation$State" U
theorem zKS.moved {G : zG} {s U : State} {H1 : Heap} (hW : s.WarmedH U.vm) (hk : ∀ a : Nat, a < s.heap.size → ¬ zA G a → H1[a]? = s.heap[a]?) (h : zKS G s s.heap) : zKS G U H1 := by
  obtain ⟨h1, h2, h3, h4, h5, h6, h7, h8, h9, h10, h11⟩ := h
  exact ⟨va_K.moved hW.alike h1, (va_Z.moved hW.alike h2).kept hk, (va_Z.moved hW.alike h3).kept hk, (va_T.moved hW.alike h4).kept hk, (va_T.moved hW.alike h5).kept hk, (va_T.moved hW.alike h6).kept hk,
    fun q hq => va_Nw.warmM hW (h7 q hq), va_Nw.warmF hW h8, va_Nw.warmF hW h9, va_AO.moved hW.alike h10, va_AO.moved hW.alike h11⟩
theorem zKS.calling {G : zG} {U : State} {g : JFrame} {mk : MethodId} {a : Array Value} (h : zKS G U U.heap) : zKS G (U.calling g mk a) (U.calling g mk a).heap := by
  obtain ⟨h1, h2, h3, h4, h5, h6, h7, h8, h9, h10, h11⟩ := h
  exact ⟨va_K.moved (u := U) (U := U.calling g mk a) (Vm.Alike.refl U.vm) h1, va_Z.moved (u := U) (U := U.calling g mk a) (Vm.Alike.refl U.vm) h2, va_Z.moved (u := U) (U := U.calling g mk a) (Vm.Alike.refl U.vm) h3,
    va_T.moved (u := U) (U := U.calling g mk a) (Vm.Alike.refl U.vm) h4, va_T.moved (u := U) (U := U.calling g mk a) (Vm.Alike.refl U.vm) h5, va_T.moved (u := U) (U := U.calling g mk a) (Vm.Alike.refl U.vm) h6,
    fun q hq => va_Nw.same rfl (u := U) (U := U.calling g mk a) rfl (h7 q hq), va_Nw.same rfl (u := U) (U := U.calling g mk a) rfl h8, va_Nw.same rfl (u := U) (U := U.calling g mk a) rfl h9, va_AO.moved (u := U) (U := U.calling g mk a) (Vm.Alike.refl U.vm) h10, va_AO.moved (u := U) (U := U.calling g mk a) (Vm.Alike.refl U.vm) h11⟩
def zSt (G : zG) (M : zM) : Prop := (∀ j, j < 5 → mI M 1000 j = zEag j) ∧ (∀ j, j < 5 → mI M 1001 j = zRis j) ∧ (∀ j, j < G.2.2.2.2.1 → mI M 1002 j = G.2.2.2.2.2 j) ∧ mR M 1002 0 = G.2.2.2.2.1 ∧ G.2.2.2.2.1 < 1000
def zWd (G : zG) (M : zM) (H : Heap) : Prop := va_P G.2.1 vwCl (zwl G M) H ∧ zSt G M ∧ M.1 < 1000
theorem zad_lo {G : zG} {i : Nat} (h : i < 1000) : zad G i = G.1 + (i - 1) := by simp [zad, h]
theorem zwl_get {G : zG} {M : zM} {i : Nat} (h1 : 1 ≤ i) (h2 : i ≤ M.1) : (zwl G M)[i - 1]? = some (zad G i, zent G M i) := by
  unfold zwl
  rw [List.getElem?_map, List.getElem?_range (by omega)]
  simp only [Option.map_some]
  rw [show i - 1 + 1 = i by omega]
theorem zwl_inv {G : zG} {M : zM} {k : Nat} {q : Nat × va_E} (h : (zwl G M)[k]? = some q) : k < M.1 ∧ q = (zad G (k + 1), zent G M (k + 1)) := by
  unfold zwl at h
  rw [List.getElem?_map] at h
  by_cases hk : k < M.1
  · rw [List.getElem?_range hk] at h
    simp only [Option.map_some] at h
    exact ⟨hk, (Option.some.inj h).symm⟩
  · have hn : (List.range M.1)[k]? = none := by
      rw [List.getElem?_eq_none]
      simp; omega
    rw [hn] at h
    cases h
theorem zwl_D {G : zG} {M : zM} (h : M.1 < 1000) : va_D (zA G) (zwl G M) := by
  refine ⟨fun i j p q hp hq e => ?_, fun k q hq => ?_⟩
  · obtain ⟨h1, rfl⟩ := zwl_inv hp
    obtain ⟨h2, rfl⟩ := zwl_inv hq
    simp only [] at e
    rw [zad_lo (by omega), zad_lo (by omega)] at e
    omega
  · obtain ⟨h1, rfl⟩ := zwl_inv hq
    simp only []
    rw [zad_lo (by omega)]
    exact Nat.le_add_right _ _
theorem zwl_set {G : zG} {M M' : zM} {i : Nat} (h0 : M'.1 = M.1) (h1 : 1 ≤ i) (h2 : i ≤ M.1) (ho : ∀ j, j ≠ i → zent G M' j = zent G M j) : (zwl G M).set (i - 1) (zad G i, zent G M' i) = zwl G M' := by
  apply List.ext_getElem?
  intro k
  by_cases hk : k = i - 1
  · subst hk
    have hl : i - 1 < (zwl G M).length := by simp [zwl]; omega
    rw [List.getElem?_set_self hl, zwl_get h1 (by omega)]
  · rw [List.getElem?_set_ne (Ne.symm hk)]
    unfold zwl
    rw [List.getElem?_map, List.getElem?_map, h0]
    by_cases hk2 : k < M.1
    · rw [List.getElem?_range hk2]
      simp only [Option.map_some]
      rw [ho (k + 1) (by omega)]
    · have hn : (List.range M.1)[k]? = none := by
        rw [List.getElem?_eq_none]; simp; omega
      rw [hn]
      rfl
theorem zwl_push {G : zG} {M : zM} {n : Nat} (ho : ∀ j, j ≤ M.1 → zent G (wN M n) j = zent G M j) : zwl G M ++ [(zad G (M.1 + 1), zent G (wN M n) (M.1 + 1))] = zwl G (wN M n) := by
  unfold zwl
  show _ = (List.range (M.1 + 1)).map _
  rw [List.range_succ, List.map_append]
  congr 1
  apply List.map_congr_left
  intro j hj
  have := List.mem_range.mp hj
  rw [ho (j + 1) (by omega)]
theorem zent_cong {G : zG} {M M' : zM} {j : Nat} (h1 : mI M' j = mI M j) (h2 : mR M' j = mR M j) : zent G M' j = zent G M j := by
  unfold zent
  rw [h1, h2]
  have : zfv G M' j = zfv G M j := by funext k; unfold zfv; rw [h1, h2]
  rw [this]
theorem mI_wI (M : zM) (a : Nat) (f : Nat → Int32) : mI (wI M a f) = va_up (mI M) a f := rfl
theorem mR_wI (M : zM) (a : Nat) (f : Nat → Int32) : mR (wI M a f) = mR M := rfl
end
section
/-! THE JUDGEMENT Ex: from every state that holds this memory, these locals and this stack, the method comes to its return with that answer and that memory; and its rules, one an instruction -/
def zW : List Cond := lw_tbl.filter goodWord
theorem zin {w : Cond} (h : w ∈ lw_tbl) (hg : goodWord w = true) : w ∈ zW := List.mem_filter.mpr ⟨h, hg⟩
theorem zin_t {w : Cond} (i : Nat) (h : tables_1[i]? = some w) (hg : goodWord w = true) : w ∈ zW := zin (List.mem_append_right _ (List.mem_of_getElem? h)) hg
theorem zin_p {q : MethodName × Nat} (h : q ∈ lw_privs) (hg : goodWord (Cond.selects q.1.cls q.1 q.1) = true) : Cond.selects q.1.cls q.1 q.1 ∈ zW := zin (List.mem_append_left _ (List.mem_map.mpr ⟨q, h, rfl⟩)) hg
theorem zW_good : ∀ w ∈ zW, goodWord w = true := fun _ h => (List.mem_filter.mp h).2
theorem zW_tbl : ∀ w ∈ zW, w ∈ lw_tbl := fun _ h => (List.mem_filter.mp h).1
def zLR (G : zG) (ls : Array Slot) (nL : Nat) (Ls : List Value) : Prop := ls.size = nL ∧ lv_wf ls ∧ ∀ (k : Nat) (v : Value), Ls[k]? = some v → v ≠ .null → ls[k]? = some (.val (rv G v))
def zRet (b : ByteArray) (ret : Option FieldType) (pc : Nat) : Option Value → Prop
  | none => ret = none ∧ decode b pc = .ok (.return_, 1)
  | some w => ∃ (x : Int32) (ty : FieldType), w = .int x ∧ ret = some ty ∧ narrow ty (.int x) = .int x ∧ decode b pc = .ok (.ireturn, 1)
def zCx (G : zG) (d : Nat) (y : MethodName) (b : ByteArray) (nL : Nat) (ret : Option FieldType) (p : Program) (R : Room) (s : State) (m : MethodId) (args : Array Value) (meth : Method) (c : Code) (T0 S0 : Nat) : Prop :=
  p.tables.exec = Jvm.exec ∧ c.code = b ∧ c.maxLocals = nL ∧ s.vm.findClass y.cls = some m.cls ∧ (∀ w ∈ zW, w.before args s = true) ∧ meth.sig.returnType = ret ∧ meth.locks = false ∧ meth.name = y.name ∧ zKS G s s.heap ∧ s.heap.size = G.1 + T0 ∧ d + 1 ≤ R.frames ∧ 64 * (d + 1) ≤ R.locals
def Ex (G : zG) (d : Nat) (y : MethodName) (b : ByteArray) (nL : Nat) (ret : Option FieldType) (pc : Nat) (Ls st : List Value) (M : zM) (res : Option Value × zM) : Prop :=
  (M.1 ≤ res.2.1 ∧ M.2.1 ≤ res.2.2.1) ∧ ∀ (p : Program) (l : Launch) (e : Env) (R : Room) (s : State) (m : MethodId) (args : Array Value) (below : List Frame) (meth : Method) (c : Code) (H : Heap) (locs : List Loc) (cells slots : Nat) (Q : State → Prop) (ls : Array Slot) (T0 S0 : Nat),
    zCx G d y b nL ret p R s m args meth c T0 S0 → zWd G M H → va_S (zA G) s.heap H locs → zLR G ls nL Ls → T0 + cells = M.1 → S0 + slots = M.2.1 → res.2.1 ≤ T0 + R.cells → res.2.2.1 ≤ S0 + R.slots →
    (∀ (H' : Heap) (locs' : List Loc) (cells' slots' : Nat) (pcr : Nat) (lsr : Array Slot), zWd G res.2 H' → va_S (zA G) s.heap H' locs' → T0 + cells' = res.2.1 → S0 + slots' = res.2.2.1 → zRet b ret pcr res.1 →
      W p l e R s m args below meth c H' locs' cells' slots' Q (F0 m pcr lsr (res.1.toList.map (rv G)))) →
    W p l e R s m args below meth c H locs cells slots Q (F0 m pc ls (st.map (rv G)))
section EX
variable {G : zG} {d : Nat} {y : MethodName} {b : ByteArray} {nL : Nat} {ret : Option FieldType} {pc : Nat} {Ls st : List Value} {M : zM} {res : Option Value × zM}
theorem x_ret {x : Int32} {ty : FieldType} (hd : decode b pc = .ok (.ireturn, 1)) (hr : ret = some ty) (hn : narrow ty (.int x) = .int x) : Ex G d y b nL ret pc Ls [.int x] M (some (.int x), M) := by
  refine ⟨⟨Nat.le_refl _, Nat.le_refl _⟩, ?_⟩
  intro p l e R s m args below meth c H locs cells slots Q ls T0 S0 hC hw hS hl h1 h2 h3 h4 K
  exact K H locs cells slots pc ls hw hS h1 h2 ⟨x, ty, rfl, hr, hn, hd⟩
theorem x_vret (hd : decode b pc = .ok (.return_, 1)) (hr : ret = none) : Ex G d y b nL ret pc Ls [] M (none, M) := by
  refine ⟨⟨Nat.le_refl _, Nat.le_refl _⟩, ?_⟩
  intro p l e R s m args below meth c H locs cells slots Q ls T0 S0 hC hw hS hl h1 h2 h3 h4 K
  exact K H locs cells slots pc ls hw hS h1 h2 ⟨hr, hd⟩
/-- a step that changes neither heap nor locals -/
theorem x_pure {pc2 : Nat} {st2 : List Value} (h : ∀ {p : Program} {l : Launch} {e : Env} {R : Room} {s : State} {m : MethodId} {args : Array Value} {below : List Frame} {meth : Method} {c : Code} {H : Heap} {locs : List Loc} {cells slots : Nat} {Q : State → Prop} {ls : Array Slot} {T0 S0 : Nat},
    zCx G d y b nL ret p R s m args meth c T0 S0 → zLR G ls nL Ls → W p l e R s m args below meth c H locs cells slots Q (F0 m pc2 ls (st2.map (rv G))) → W p l e R s m args below meth c H locs cells slots Q (F0 m pc ls (st.map (rv G))))
    (k : Ex G d y b nL ret pc2 Ls st2 M res) : Ex G d y b nL ret pc Ls st M res := by
  refine ⟨k.1, ?_⟩
  intro p l e R s m args below meth c H locs cells slots Q ls T0 S0 hC hw hS hl h1 h2 h3 h4 K
  exact h hC hl (k.2 p l e R s m args below meth c H locs cells slots Q ls T0 S0 hC hw hS hl h1 h2 h3 h4 K)
theorem zLR.at {ls : Array Slot} {k : Nat} {v : Value} (h : zLR G ls nL Ls) (hk : Ls[k]? = some v) (hv : v ≠ .null) : ls[k]? = some (.val (rv G v)) := h.2.2 k v hk hv
theorem x_iconst {n : Int} {v : Int32} (hd : decode b pc = .ok (.iconst n, 1)) (hv : Int32.ofInt n = v) (k : Ex G d y b nL ret (pc + 1) Ls (.int v :: st) M res) : Ex G d y b nL ret pc Ls st M res := x_pure (fun C _ w => lv_iconst C.1 C.2.1 hd hv w) k
theorem x_bipush {n : Int} {v : Int32} (hd : decode b pc = .ok (.bipush n, 2)) (hv : (Int8.ofInt n).toInt32 = v) (k : Ex G d y b nL ret (pc + 2) Ls (.int v :: st) M res) : Ex G d y b nL ret pc Ls st M res := x_pure (fun C _ w => lv_bipush C.1 C.2.1 hd hv w) k
theorem x_sipush {n : Int} {v : Int32} (hd : decode b pc = .ok (.sipush n, 3)) (hv : (Int16.ofInt n).toInt32 = v) (k : Ex G d y b nL ret (pc + 3) Ls (.int v :: st) M res) : Ex G d y b nL ret pc Ls st M res := x_pure (fun C _ w => lv_sipush C.1 C.2.1 hd hv w) k
theorem x_lconst {n : Fin 2} {v : Int64} (hd : decode b pc = .ok (.lconst n, 1)) (hv : Int64.ofNat (n : Nat) = v) (k : Ex G d y b nL ret (pc + 1) Ls (.long v :: st) M res) : Ex G d y b nL ret pc Ls st M res := x_pure (fun C _ w => lv_lconst C.1 C.2.1 hd hv w) k
theorem x_ldc {i : Nat} {v : Int32} (hd : decode b pc = .ok (.ldc i, 2)) (hc : Cond.constant y.cls i v ∈ zW) (k : Ex G d y b nL ret (pc + 2) Ls (.int v :: st) M res) : Ex G d y b nL ret pc Ls st M res := x_pure (fun C _ w => lv_ldc C.1 C.2.1 C.2.2.2.1 (C.2.2.2.2.1 _ hc) hd w) k
theorem x_ldcw {i : Nat} {v : Int32} (hd : decode b pc = .ok (.ldc_w i, 3)) (hc : Cond.constant y.cls i v ∈ zW) (k : Ex G d y b nL ret (pc + 3) Ls (.int v :: st) M res) : Ex G d y b nL ret pc Ls st M res := x_pure (fun C _ w => lv_ldcw C.1 C.2.1 C.2.2.2.1 (C.2.2.2.2.1 _ hc) hd w) k
theorem x_ldc2 {i : Nat} {v : Int64} (hd : decode b pc = .ok (.ldc2_w i, 3)) (hc : Cond.constantLong y.cls i v ∈ zW) (k : Ex G d y b nL ret (pc + 3) Ls (.long v :: st) M res) : Ex G d y b nL ret pc Ls st M res := x_pure (fun C _ w => lv_ldc2 C.1 C.2.1 C.2.2.2.1 (C.2.2.2.2.1 _ hc) hd w) k
theorem x_iload_n {n : Fin 4} {i : Nat} {x : Int32} (hd : decode b pc = .ok (.iload_n n, 1)) (hi : (n : Nat) = i) (hl : Ls[i]? = some (.int x)) (k : Ex G d y b nL ret (pc + 1) Ls (.int x :: st) M res) : Ex G d y b nL ret pc Ls st M res := x_pure (fun C h w => lv_iload_n C.1 C.2.1 hd hi (h.at hl (fun q => by cases q)) w) k
theorem x_iload {i : Nat} {x : Int32} (hd : decode b pc = .ok (.iload i, 2)) (hl : Ls[i]? = some (.int x)) (k : Ex G d y b nL ret (pc + 2) Ls (.int x :: st) M res) : Ex G d y b nL ret pc Ls st M res := x_pure (fun C h w => lv_iload C.1 C.2.1 hd (h.at hl (fun q => by cases q)) w) k
theorem x_lload_n {n : Fin 4} {i : Nat} {x : Int64} (hd : decode b pc = .ok (.lload_n n, 1)) (hi : (n : Nat) = i) (hl : Ls[i]? = some (.long x)) (k : Ex G d y b nL ret (pc + 1) Ls (.long x :: st) M res) : Ex G d y b nL ret pc Ls st M res := x_pure (fun C h w => lv_lload_n C.1 C.2.1 hd hi (h.at hl (fun q => by cases q)) w) k
theorem x_lload {i : Nat} {x : Int64} (hd : decode b pc = .ok (.lload i, 2)) (hl : Ls[i]? = some (.long x)) (k : Ex G d y b nL ret (pc + 2) Ls (.long x :: st) M res) : Ex G d y b nL ret pc Ls st M res := x_pure (fun C h w => lv_lload C.1 C.2.1 hd (h.at hl (fun q => by cases q)) w) k
theorem rv_ref {r : Nat} (h : r ≠ 0) : rv G (.ref r) = .ref (zad G r) := by simp [rv, zo, h, va_rf]
theorem x_aload_n {n : Fin 4} {i r : Nat} (hd : decode b pc = .ok (.aload_n n, 1)) (hi : (n : Nat) = i) (hl : Ls[i]? = some (.ref r)) (hr : r ≠ 0) (k : Ex G d y b nL ret (pc + 1) Ls (.ref r :: st) M res) : Ex G d y b nL ret pc Ls st M res := by
  refine x_pure (st2 := .ref r :: st) (fun C h w => ?_) k
  have h2 := h.at hl (fun q => by cases q)
  rw [rv_ref hr] at h2
  rw [List.map_cons, rv_ref hr] at w
  exact lv_aload_n C.1 C.2.1 hd hi h2 w
theorem x_aload {i r : Nat} (hd : decode b pc = .ok (.aload i, 2)) (hl : Ls[i]? = some (.ref r)) (hr : r ≠ 0) (k : Ex G d y b nL ret (pc + 2) Ls (.ref r :: st) M res) : Ex G d y b nL ret pc Ls st M res := by
  refine x_pure (st2 := .ref r :: st) (fun C h w => ?_) k
  have h2 := h.at hl (fun q => by cases q)
  rw [rv_ref hr] at h2
  rw [List.map_cons, rv_ref hr] at w
  exact lv_aload C.1 C.2.1 hd h2 w
theorem x_iadd {x z : Int32} (hd : decode b pc = .ok (.iadd, 1)) (k : Ex G d y b nL ret (pc + 1) Ls (.int (x + z) :: st) M res) : Ex G d y b nL ret pc Ls (.int z :: .int x :: st) M res := x_pure (fun C _ w => lv_iadd C.1 C.2.1 hd w) k
theorem x_isub {x z : Int32} (hd : decode b pc = .ok (.isub, 1)) (k : Ex G d y b nL ret (pc + 1) Ls (.int (x - z) :: st) M res) : Ex G d y b nL ret pc Ls (.int z :: .int x :: st) M res := x_pure (fun C _ w => lv_isub C.1 C.2.1 hd w) k
theorem x_imul {x z : Int32} (hd : decode b pc = .ok (.imul, 1)) (k : Ex G d y b nL ret (pc + 1) Ls (.int (x * z) :: st) M res) : Ex G d y b nL ret pc Ls (.int z :: .int x :: st) M res := x_pure (fun C _ w => lv_imul C.1 C.2.1 hd w) k
theorem x_iand {x z : Int32} (hd : decode b pc = .ok (.iand, 1)) (k : Ex G d y b nL ret (pc + 1) Ls (.int (x &&& z) :: st) M res) : Ex G d y b nL ret pc Ls (.int z :: .int x :: st) M res := x_pure (fun C _ w => lv_iand C.1 C.2.1 hd w) k
theorem x_ior {x z : Int32} (hd : decode b pc = .ok (.ior, 1)) (k : Ex G d y b nL ret (pc + 1) Ls (.int (x ||| z) :: st) M res) : Ex G d y b nL ret pc Ls (.int z :: .int x :: st) M res := x_pure (fun C _ w => lv_ior C.1 C.2.1 hd w) k
theorem x_idiv {x z : Int32} (hd : decode b pc = .ok (.idiv, 1)) (hz : ¬ z = 0) (k : Ex G d y b nL ret (pc + 1) Ls (.int (x / z) :: st) M res) : Ex G d y b nL ret pc Ls (.int z :: .int x :: st) M res := x_pure (fun C _ w => lv_idiv C.1 C.2.1 hd hz w) k
theorem x_irem {x z : Int32} (hd : decode b pc = .ok (.irem, 1)) (hz : ¬ z = 0) (k : Ex G d y b nL ret (pc + 1) Ls (.int (x - x / z * z) :: st) M res) : Ex G d y b nL ret pc Ls (.int z :: .int x :: st) M res := x_pure (fun C _ w => lv_irem C.1 C.2.1 hd hz w) k
theorem x_goto {off : Int} {t : Nat} (hd : decode b pc = .ok (.goto off, 3)) (ht : (pc : Int) + off = (t : Int)) (k : Ex G d y b nL ret t Ls st M res) : Ex G d y b nL ret pc Ls st M res := x_pure (fun C _ w => lv_goto C.1 C.2.1 hd ht w) k
theorem x_dup {v : Value} (hd : decode b pc = .ok (.dup, 1)) (hv : (rv G v).category = 1) (k : Ex G d y b nL ret (pc + 1) Ls (v :: v :: st) M res) : Ex G d y b nL ret pc Ls (v :: st) M res := x_pure (fun C _ w => lv_dup C.1 C.2.1 hd hv w) k
end EX
end
section
section EX2
variable {G : zG} {d : Nat} {y : MethodName} {b : ByteArray} {nL : Nat} {ret : Option FieldType} {pc : Nat} {Ls st : List Value} {M : zM} {res : Option Value × zM}
theorem x_ineg {x : Int32} (hd : decode b pc = .ok (.ineg, 1)) (k : Ex G d y b nL ret (pc + 1) Ls (.int (-x) :: st) M res) : Ex G d y b nL ret pc Ls (.int x :: st) M res := x_pure (fun C _ w => lv_ineg C.1 C.2.1 hd w) k
theorem x_ishl {x z : Int32} (hd : decode b pc = .ok (.ishl, 1)) (k : Ex G d y b nL ret (pc + 1) Ls (.int (x <<< (z &&& 31)) :: st) M res) : Ex G d y b nL ret pc Ls (.int z :: .int x :: st) M res := x_pure (fun C _ w => lv_ishl C.1 C.2.1 hd w) k
theorem x_ishr {x z : Int32} (hd : decode b pc = .ok (.ishr, 1)) (k : Ex G d y b nL ret (pc + 1) Ls (.int (x >>> (z &&& 31)) :: st) M res) : Ex G d y b nL ret pc Ls (.int z :: .int x :: st) M res := x_pure (fun C _ w => lv_ishr C.1 C.2.1 hd w) k
theorem x_iushr {x z : Int32} (hd : decode b pc = .ok (.iushr, 1)) (k : Ex G d y b nL ret (pc + 1) Ls (.int ((x.toUInt32 >>> (z.toUInt32 &&& Int32.toUInt32 31)).toInt32) :: st) M res) : Ex G d y b nL ret pc Ls (.int z :: .int x :: st) M res := x_pure (fun C _ w => lv_iushr C.1 C.2.1 hd rfl w) k
theorem x_i2l {x : Int32} (hd : decode b pc = .ok (.i2l, 1)) (k : Ex G d y b nL ret (pc + 1) Ls (.long x.toInt64 :: st) M res) : Ex G d y b nL ret pc Ls (.int x :: st) M res := x_pure (fun C _ w => lv_i2l C.1 C.2.1 hd rfl w) k
theorem x_l2i {x : Int64} (hd : decode b pc = .ok (.l2i, 1)) (k : Ex G d y b nL ret (pc + 1) Ls (.int x.toInt32 :: st) M res) : Ex G d y b nL ret pc Ls (.long x :: st) M res := x_pure (fun C _ w => lv_l2i C.1 C.2.1 hd rfl w) k
theorem x_ladd {x z : Int64} (hd : decode b pc = .ok (.ladd, 1)) (k : Ex G d y b nL ret (pc + 1) Ls (.long (x + z) :: st) M res) : Ex G d y b nL ret pc Ls (.long z :: .long x :: st) M res := x_pure (fun C _ w => lv_ladd C.1 C.2.1 hd w) k
theorem x_lmul {x z : Int64} (hd : decode b pc = .ok (.lmul, 1)) (k : Ex G d y b nL ret (pc + 1) Ls (.long (x * z) :: st) M res) : Ex G d y b nL ret pc Ls (.long z :: .long x :: st) M res := x_pure (fun C _ w => lv_lmul C.1 C.2.1 hd w) k
theorem x_land {x z : Int64} (hd : decode b pc = .ok (.land, 1)) (k : Ex G d y b nL ret (pc + 1) Ls (.long (x &&& z) :: st) M res) : Ex G d y b nL ret pc Ls (.long z :: .long x :: st) M res := x_pure (fun C _ w => lv_land C.1 C.2.1 hd w) k
theorem x_ldiv {x z : Int64} (hd : decode b pc = .ok (.ldiv, 1)) (hz : ¬ z = 0) (k : Ex G d y b nL ret (pc + 1) Ls (.long (x / z) :: st) M res) : Ex G d y b nL ret pc Ls (.long z :: .long x :: st) M res := x_pure (fun C _ w => lv_ldiv C.1 C.2.1 hd hz w) k
theorem x_lcmp {x z : Int64} (hd : decode b pc = .ok (.lcmp, 1)) (k : Ex G d y b nL ret (pc + 1) Ls (.int (lg_cmp x z) :: st) M res) : Ex G d y b nL ret pc Ls (.long z :: .long x :: st) M res := x_pure (fun C _ w => W.lcmp C.1 C.2.1 hd w) k
theorem x_dup2 {v w : Value} (hd : decode b pc = .ok (.dup2, 1)) (hv : (rv G v).category = 1) (hw : (rv G w).category = 1) (k : Ex G d y b nL ret (pc + 1) Ls (v :: w :: v :: w :: st) M res) : Ex G d y b nL ret pc Ls (v :: w :: st) M res := x_pure (fun C _ w => lv_dup2_11 C.1 C.2.1 hd hv hw w) k
/-- a branch -/
theorem x_br {P : Prop} {pt pf : Nat} {st2 : List Value} (hb : (M.1 ≤ res.2.1 ∧ M.2.1 ≤ res.2.2.1)) (h : ∀ {p : Program} {l : Launch} {e : Env} {R : Room} {s : State} {m : MethodId} {args : Array Value} {below : List Frame} {meth : Method} {c : Code} {H : Heap} {locs : List Loc} {cells slots : Nat} {Q : State → Prop} {ls : Array Slot} {T0 S0 : Nat},
    zCx G d y b nL ret p R s m args meth c T0 S0 → (P → W p l e R s m args below meth c H locs cells slots Q (F0 m pt ls (st2.map (rv G)))) → (¬ P → W p l e R s m args below meth c H locs cells slots Q (F0 m pf ls (st2.map (rv G)))) → W p l e R s m args below meth c H locs cells slots Q (F0 m pc ls (st.map (rv G))))
    (kt : P → Ex G d y b nL ret pt Ls st2 M res) (kf : ¬ P → Ex G d y b nL ret pf Ls st2 M res) : Ex G d y b nL ret pc Ls st M res := by
  refine ⟨hb, ?_⟩
  intro p l e R s m args below meth c H locs cells slots Q ls T0 S0 hC hw hS hl h1 h2 h3 h4 K
  exact h hC (fun q => (kt q).2 p l e R s m args below meth c H locs cells slots Q ls T0 S0 hC hw hS hl h1 h2 h3 h4 K) (fun q => (kf q).2 p l e R s m args below meth c H locs cells slots Q ls T0 S0 hC hw hS hl h1 h2 h3 h4 K)
theorem ex_b {P : Prop} {pt pf : Nat} {st2 : List Value} (kt : P → Ex G d y b nL ret pt Ls st2 M res) (kf : ¬ P → Ex G d y b nL ret pf Ls st2 M res) : M.1 ≤ res.2.1 ∧ M.2.1 ≤ res.2.2.1 := (Classical.em P).elim (fun q => (kt q).1) (fun q => (kf q).1)
theorem x_if_eq {x : Int32} {off : Int} {t : Nat} (hd : decode b pc = .ok (.ifCond .eq off, 3)) (ht : (pc : Int) + off = (t : Int)) (kt : x = 0 → Ex G d y b nL ret t Ls st M res) (kf : ¬ x = 0 → Ex G d y b nL ret (pc + 3) Ls st M res) : Ex G d y b nL ret pc Ls (.int x :: st) M res := x_br (ex_b kt kf) (fun C a z => lv_if_eq C.1 C.2.1 hd ht a z) kt kf
theorem x_if_ne {x : Int32} {off : Int} {t : Nat} (hd : decode b pc = .ok (.ifCond .ne off, 3)) (ht : (pc : Int) + off = (t : Int)) (kt : ¬ x = 0 → Ex G d y b nL ret t Ls st M res) (kf : x = 0 → Ex G d y b nL ret (pc + 3) Ls st M res) : Ex G d y b nL ret pc Ls (.int x :: st) M res := x_br (P := ¬ x = 0) (ex_b kt (fun q => kf (Classical.not_not.mp q))) (fun C a z => lv_if_ne C.1 C.2.1 hd ht a (fun q => z (fun r => r q))) kt (fun q => kf (Classical.not_not.mp q))
theorem x_if_lt {x : Int32} {off : Int} {t : Nat} (hd : decode b pc = .ok (.ifCond .lt off, 3)) (ht : (pc : Int) + off = (t : Int)) (kt : x < 0 → Ex G d y b nL ret t Ls st M res) (kf : ¬ x < 0 → Ex G d y b nL ret (pc + 3) Ls st M res) : Ex G d y b nL ret pc Ls (.int x :: st) M res := x_br (ex_b kt kf) (fun C a z => lv_if_lt C.1 C.2.1 hd ht a z) kt kf
theorem x_if_ge {x : Int32} {off : Int} {t : Nat} (hd : decode b pc = .ok (.ifCond .ge off, 3)) (ht : (pc : Int) + off = (t : Int)) (kt : 0 ≤ x → Ex G d y b nL ret t Ls st M res) (kf : ¬ 0 ≤ x → Ex G d y b nL ret (pc + 3) Ls st M res) : Ex G d y b nL ret pc Ls (.int x :: st) M res := x_br (ex_b kt kf) (fun C a z => lv_if_ge C.1 C.2.1 hd ht a z) kt kf
theorem x_if_gt {x : Int32} {off : Int} {t : Nat} (hd : decode b pc = .ok (.ifCond .gt off, 3)) (ht : (pc : Int) + off = (t : Int)) (kt : 0 < x → Ex G d y b nL ret t Ls st M res) (kf : ¬ 0 < x → Ex G d y b nL ret (pc + 3) Ls st M res) : Ex G d y b nL ret pc Ls (.int x :: st) M res := x_br (ex_b kt kf) (fun C a z => lv_if_gt C.1 C.2.1 hd ht a z) kt kf
theorem x_if_le {x : Int32} {off : Int} {t : Nat} (hd : decode b pc = .ok (.ifCond .le off, 3)) (ht : (pc : Int) + off = (t : Int)) (kt : x ≤ 0 → Ex G d y b nL ret t Ls st M res) (kf : ¬ x ≤ 0 → Ex G d y b nL ret (pc + 3) Ls st M res) : Ex G d y b nL ret pc Ls (.int x :: st) M res := x_br (ex_b kt kf) (fun C a z => lv_if_le C.1 C.2.1 hd ht a z) kt kf
theorem x_icmp_eq {x z : Int32} {off : Int} {t : Nat} (hd : decode b pc = .ok (.if_icmp .eq off, 3)) (ht : (pc : Int) + off = (t : Int)) (kt : x = z → Ex G d y b nL ret t Ls st M res) (kf : ¬ x = z → Ex G d y b nL ret (pc + 3) Ls st M res) : Ex G d y b nL ret pc Ls (.int z :: .int x :: st) M res := x_br (ex_b kt kf) (fun C a z => lv_icmp_eq C.1 C.2.1 hd ht a z) kt kf
theorem x_icmp_ne {x z : Int32} {off : Int} {t : Nat} (hd : decode b pc = .ok (.if_icmp .ne off, 3)) (ht : (pc : Int) + off = (t : Int)) (kt : ¬ x = z → Ex G d y b nL ret t Ls st M res) (kf : x = z → Ex G d y b nL ret (pc + 3) Ls st M res) : Ex G d y b nL ret pc Ls (.int z :: .int x :: st) M res := x_br (P := ¬ x = z) (ex_b kt (fun q => kf (Classical.not_not.mp q))) (fun C a z => lv_icmp_ne C.1 C.2.1 hd ht a (fun q => z (fun r => r q))) kt (fun q => kf (Classical.not_not.mp q))
theorem x_icmp_lt {x z : Int32} {off : Int} {t : Nat} (hd : decode b pc = .ok (.if_icmp .lt off, 3)) (ht : (pc : Int) + off = (t : Int)) (kt : x < z → Ex G d y b nL ret t Ls st M res) (kf : ¬ x < z → Ex G d y b nL ret (pc + 3) Ls st M res) : Ex G d y b nL ret pc Ls (.int z :: .int x :: st) M res := x_br (ex_b kt kf) (fun C a z => lv_icmp_lt C.1 C.2.1 hd ht a z) kt kf
theorem x_icmp_ge {x z : Int32} {off : Int} {t : Nat} (hd : decode b pc = .ok (.if_icmp .ge off, 3)) (ht : (pc : Int) + off = (t : Int)) (kt : z ≤ x → Ex G d y b nL ret t Ls st M res) (kf : ¬ z ≤ x → Ex G d y b nL ret (pc + 3) Ls st M res) : Ex G d y b nL ret pc Ls (.int z :: .int x :: st) M res := x_br (ex_b kt kf) (fun C a z => lv_icmp_ge C.1 C.2.1 hd ht a z) kt kf
theorem x_icmp_gt {x z : Int32} {off : Int} {t : Nat} (hd : decode b pc = .ok (.if_icmp .gt off, 3)) (ht : (pc : Int) + off = (t : Int)) (kt : z < x → Ex G d y b nL ret t Ls st M res) (kf : ¬ z < x → Ex G d y b nL ret (pc + 3) Ls st M res) : Ex G d y b nL ret pc Ls (.int z :: .int x :: st) M res := x_br (ex_b kt kf) (fun C a z => lv_icmp_gt C.1 C.2.1 hd ht a z) kt kf
theorem x_icmp_le {x z : Int32} {off : Int} {t : Nat} (hd : decode b pc = .ok (.if_icmp .le off, 3)) (ht : (pc : Int) + off = (t : Int)) (kt : x ≤ z → Ex G d y b nL ret t Ls st M res) (kf : ¬ x ≤ z → Ex G d y b nL ret (pc + 3) Ls st M res) : Ex G d y b nL ret pc Ls (.int z :: .int x :: st) M res := x_br (ex_b kt kf) (fun C a z => lv_icmp_le C.1 C.2.1 hd ht a z) kt kf
/-- switches: the place in the table is given -/
theorem x_tableOut {dflt lo hi : Int} {offs : Array Int} {len : Nat} {x : Int32} {t : Nat} (hd : decode b pc = .ok (.tableswitch dflt lo hi offs, len)) (h : x.toInt < lo ∨ hi < x.toInt) (ht : (pc : Int) + dflt = (t : Int)) (k : Ex G d y b nL ret t Ls st M res) : Ex G d y b nL ret pc Ls (.int x :: st) M res := x_pure (fun C _ w => lv_tableOut C.1 C.2.1 hd h ht w) k
theorem x_tableIn {dflt lo hi : Int} {offs : Array Int} {len : Nat} {x : Int32} {off : Int} {t : Nat} (hd : decode b pc = .ok (.tableswitch dflt lo hi offs, len)) (h1 : ¬ x.toInt < lo) (h2 : ¬ hi < x.toInt) (ho : offs[(x.toInt - lo).toNat]? = some off) (ht : (pc : Int) + off = (t : Int)) (k : Ex G d y b nL ret t Ls st M res) : Ex G d y b nL ret pc Ls (.int x :: st) M res := x_pure (fun C _ w => lv_tableIn C.1 C.2.1 hd h1 h2 ho ht w) k
theorem x_lookup {dflt : Int} {ps : Array (Int × Int)} {len : Nat} {x : Int32} {off : Int} {t : Nat} (hd : decode b pc = .ok (.lookupswitch dflt ps, len)) (hp : (ps.toList.zip (ps.toList.drop 1)).all (fun (a, next) => a.1 < next.1) = true) (ho : Op.lookupswitch.offset ps.toList dflt x.toInt = off) (ht : (pc : Int) + off = (t : Int)) (k : Ex G d y b nL ret t Ls st M res) : Ex G d y b nL ret pc Ls (.int x :: st) M res := x_pure (fun C _ w => lv_lookup C.1 C.2.1 hd hp ho ht w) k
/-! locals written -/
def zas (G : zG) (Ls : List Value) : List (Nat × Value) := (Ls.zipIdx.filter (fun q => decide (q.1 ≠ .null))).map (fun q => (q.2, rv G q.1))
theorem zas_has {ls : Array Slot} (h : zLR G ls nL Ls) : lv_has ls nL (zas G Ls) := by
  refine ⟨h.1, h.2.1, fun q hq => ?_⟩
  obtain ⟨⟨v, k⟩, h1, rfl⟩ := List.mem_map.mp hq
  obtain ⟨h2, h3⟩ := List.mem_filter.mp h1
  have h4 : Ls[k]? = some v := by
    have := List.mem_zipIdx_iff_getElem?.mp h2
    simpa using this
  exact h.2.2 k v h4 (by simpa using h3)
theorem zas_mem {k : Nat} {v : Value} (h : Ls[k]? = some v) (hv : v ≠ .null) : (k, rv G v) ∈ zas G Ls := by
  refine List.mem_map.mpr ⟨(v, k), List.mem_filter.mpr ⟨List.mem_zipIdx_iff_getElem?.mpr (by simpa using h), by simpa using hv⟩, rfl⟩
/-- no long stands just before -/
def zok1 (Ls : List Value) : Nat → Bool
  | 0 => true
  | j + 1 => match Ls[j]? with
    | some (.long _) => false
    | some (.double _) => false
    | _ => true
theorem rv_cat {v : Value} (hv : ∀ x, v ≠ .long x) (hv2 : ∀ x, v ≠ .double x) : (rv G v).category = 1 := by
  cases v with
  | long x => exact absurd rfl (hv x)
  | double x => exact absurd rfl (hv2 x)
  | ref r => by_cases h : r = 0 <;> simp [rv, zo, h, va_rf, Value.category]
  | _ => rfl
theorem zLR.store1 {ls ls' : Array Slot} {i : Nat} {v : Value} (h : zLR G ls nL Ls) (hok : zok1 Ls i = true) (h' : lv_has ls' nL ((i, rv G v) :: (zas G Ls).filter (fun q => !(q.1 == i) && !(q.1 + 1 == i && q.2.category == 2)))) : zLR G ls' nL (Ls.set i v) := by
  refine ⟨h'.1, h'.2.1, fun k w hk hw => ?_⟩
  by_cases e : k = i
  · subst e
    have hlt : k < Ls.length := by
      have := (List.getElem?_eq_some_iff.mp hk).1
      simpa using this
    rw [List.getElem?_set_self hlt] at hk
    cases hk
    exact h'.2.2 (k, rv G v) List.mem_cons_self
  · rw [List.getElem?_set_ne (Ne.symm e)] at hk
    refine h'.2.2 (k, rv G w) (List.mem_cons_of_mem _ (List.mem_filter.mpr ⟨zas_mem hk hw, ?_⟩))
    by_cases e2 : k + 1 = i
    · subst e2
      simp only [zok1, hk] at hok
      have hc : (rv G w).category = 1 := by
        refine rv_cat (fun x q => ?_) (fun x q => ?_) <;> (subst q; simp at hok)
      simp [hc]
    · simp [e, e2]
theorem zLR.store2 {ls ls' : Array Slot} {i : Nat} {x : Int64} (h : zLR G ls nL Ls) (hok : zok1 Ls i = true) (h' : lv_has ls' nL ((i, Value.long x) :: (zas G Ls).filter (fun q => !(q.1 == i) && (!(q.1 == i + 1) && !(q.1 + 1 == i && q.2.category == 2))))) : zLR G ls' nL ((Ls.set i (.long x)).set (i + 1) .null) := by
  refine ⟨h'.1, h'.2.1, fun k w hk hw => ?_⟩
  by_cases e1 : k = i + 1
  · subst e1
    have hlt : i + 1 < Ls.length := by
      have := (List.getElem?_eq_some_iff.mp hk).1
      simpa using this
    rw [List.getElem?_set_self (by simpa using hlt)] at hk
    cases hk
    exact absurd rfl hw
  rw [List.getElem?_set_ne (Ne.symm e1)] at hk
  by_cases e : k = i
  · subst e
    have hlt : k < Ls.length := by
      have := (List.getElem?_eq_some_iff.mp hk).1
      simpa using this
    rw [List.getElem?_set_self hlt] at hk
    cases hk
    exact h'.2.2 (k, Value.long x) List.mem_cons_self
  · rw [List.getElem?_set_ne (Ne.symm e)] at hk
    refine h'.2.2 (k, rv G w) (List.mem_cons_of_mem _ (List.mem_filter.mpr ⟨zas_mem hk hw, ?_⟩))
    by_cases e2 : k + 1 = i
    · subst e2
      simp only [zok1, hk] at hok
      have hc : (rv G w).category = 1 := by
        refine rv_cat (fun x q => ?_) (fun x q => ?_) <;> (subst q; simp at hok)
      simp [hc, e1]
    · simp [e, e1, e2]
/-- a step that changes locals -/
theorem x_loc {pc2 : Nat} {st2 Ls2 : List Value} (h : ∀ {p : Program} {l : Launch} {e : Env} {R : Room} {s : State} {m : MethodId} {args : Array Value} {below : List Frame} {meth : Method} {c : Code} {H : Heap} {locs : List Loc} {cells slots : Nat} {Q : State → Prop} {ls : Array Slot} {T0 S0 : Nat},
    zCx G d y b nL ret p R s m args meth c T0 S0 → zLR G ls nL Ls → (∀ ls' : Array Slot, zLR G ls' nL Ls2 → W p l e R s m args below meth c H locs cells slots Q (F0 m pc2 ls' (st2.map (rv G)))) → W p l e R s m args below meth c H locs cells slots Q (F0 m pc ls (st.map (rv G))))
    (k : Ex G d y b nL ret pc2 Ls2 st2 M res) : Ex G d y b nL ret pc Ls st M res := by
  refine ⟨k.1, ?_⟩
  intro p l e R s m args below meth c H locs cells slots Q ls T0 S0 hC hw hS hl h1 h2 h3 h4 K
  exact h hC hl (fun ls' hl' => k.2 p l e R s m args below meth c H locs cells slots Q ls' T0 S0 hC hw hS hl' h1 h2 h3 h4 K)
theorem x_istore_n {n : Fin 4} {i : Nat} {x : Int32} (hd : decode b pc = .ok (.istore_n n, 1)) (hi : (n : Nat) = i) (hn : i < nL) (hok : zok1 Ls i = true) (k : Ex G d y b nL ret (pc + 1) (Ls.set i (.int x)) st M res) : Ex G d y b nL ret pc Ls (.int x :: st) M res := x_loc (fun C h w => lv_istore_n C.1 C.2.1 hd hi (zas_has h) hn rfl (fun ls' h' => w ls' (zLR.store1 (v := .int _) h hok h'))) k
theorem x_istore {i : Nat} {x : Int32} (hd : decode b pc = .ok (.istore i, 2)) (hn : i < nL) (hok : zok1 Ls i = true) (k : Ex G d y b nL ret (pc + 2) (Ls.set i (.int x)) st M res) : Ex G d y b nL ret pc Ls (.int x :: st) M res := x_loc (fun C h w => lv_istore C.1 C.2.1 hd (zas_has h) hn rfl (fun ls' h' => w ls' (zLR.store1 (v := .int _) h hok h'))) k
theorem x_lstore_n {n : Fin 4} {i : Nat} {x : Int64} (hd : decode b pc = .ok (.lstore_n n, 1)) (hi : (n : Nat) = i) (hn : i + 1 < nL) (hok : zok1 Ls i = true) (k : Ex G d y b nL ret (pc + 1) ((Ls.set i (.long x)).set (i + 1) .null) st M res) : Ex G d y b nL ret pc Ls (.long x :: st) M res := x_loc (fun C h w => lv_lstore_n C.1 C.2.1 hd hi (zas_has h) hn rfl (fun ls' h' => w ls' (h.store2 hok h'))) k
theorem x_astore_n {n : Fin 4} {i r : Nat} (hd : decode b pc = .ok (.astore_n n, 1)) (hi : (n : Nat) = i) (hn : i < nL) (hok : zok1 Ls i = true) (hr : r ≠ 0) (k : Ex G d y b nL ret (pc + 1) (Ls.set i (.ref r)) st M res) : Ex G d y b nL ret pc Ls (.ref r :: st) M res := by
  refine x_loc (st2 := st) (fun C h w => ?_) k
  rw [List.map_cons, rv_ref hr]
  refine lv_astore_n C.1 C.2.1 hd hi (zas_has h) hn rfl (fun ls' h' => w ls' (zLR.store1 (v := .ref r) h hok ?_))
  rw [rv_ref hr]
  exact h'
theorem x_astore {i r : Nat} (hd : decode b pc = .ok (.astore i, 2)) (hn : i < nL) (hok : zok1 Ls i = true) (hr : r ≠ 0) (k : Ex G d y b nL ret (pc + 2) (Ls.set i (.ref r)) st M res) : Ex G d y b nL ret pc Ls (.ref r :: st) M res := by
  refine x_loc (st2 := st) (fun C h w => ?_) k
  rw [List.map_cons, rv_ref hr]
  refine lv_astore C.1 C.2.1 hd (zas_has h) hn rfl (fun ls' h' => w ls' (zLR.store1 (v := .ref r) h hok ?_))
  rw [rv_ref hr]
  exact h'
theorem x_iinc {i : Nat} {n : Int} {x v : Int32} (hd : decode b pc = .ok (.iinc i n, 3)) (hl : Ls[i]? = some (.int x)) (hv : x + Int32.ofInt n = v) (hn : i < nL) (hok : zok1 Ls i = true) (k : Ex G d y b nL ret (pc + 3) (Ls.set i (.int v)) st M res) : Ex G d y b nL ret pc Ls st M res := by
  refine x_loc (fun C h w => ?_) k
  obtain ⟨q, hq⟩ := List.getElem?_of_mem (zas_mem (G := G) hl (fun q => by cases q))
  exact lv_iinc C.1 C.2.1 hd (zas_has h) hq hv hn rfl (fun ls' h' => w ls' (zLR.store1 (v := .int _) h hok h'))
end EX2
end
section
/-! rules that read and write cells -/
/-- a field's place: its class, its number, how many fields, 0 int 1 boolean 2 reference, final -/
def zFk (own : String) (idx ci k n q : Nat) (fin : Bool) : Prop := ∃ (C : String) (T : u_T) (ty : Nat → FieldType), vwCl[ci]? = some (C, T, n) ∧ (∀ w ∈ u_ws C T n, w ∈ zW) ∧ (∀ k, k < n → parseFieldDescriptor (T k).2.2.1 = some (ty k)) ∧ (∀ a, a < n → ∀ b, b < n → a ≠ b → (T a).2.1 ≠ (T b).2.1) ∧ k < n ∧ ci < 10 ∧
  Cond.fieldLink own idx (T k).1 (T k).2.1 (T k).2.2.1 ∈ zW ∧ (T k).2.2.2 = fin ∧ zisr ci k = decide (q = 2) ∧ (q = 0 → ty k = .int) ∧ (q = 1 → ty k = .boolean) ∧ (q = 2 → ∀ a : Nat, narrow (ty k) (.ref a) = .ref a ∧ fits (ty k) (.ref a) = true) ∧ (T k).1 = C
def zAc (M : zM) (i ci n : Nat) : Prop := 1 ≤ i ∧ i ≤ M.1 ∧ zsh i = (ci, n)
def zvI (M : zM) (i : Nat) : Prop := (1 ≤ i ∧ i ≤ M.1 ∧ (zsh i).1 = 10) ∨ i = 1000 ∨ i = 1001 ∨ i = 1002
noncomputable def zlI (M : zM) (i : Nat) : Nat := if 1000 ≤ i then (if i = 1002 then mR M 1002 0 else if i = 1000 ∨ i = 1001 then 5 else 0) else if 1 ≤ i ∧ i ≤ M.1 ∧ (zsh i).1 = 10 then (zsh i).2 else 0
theorem zent_o {G : zG} {M : zM} {i ci n : Nat} (h : zsh i = (ci, n)) (hc : ci < 10) : zent G M i = .inr (ci, (List.range n).map (zfv G M i)) := by
  unfold zent
  rw [h]
  rw [if_neg (by show ¬ ci = 10; omega), if_neg (by show ¬ ci = 11; omega), if_neg (by show ¬ ci = 12; omega), if_neg (by show ¬ ci = 13; omega)]
theorem zent_i {G : zG} {M : zM} {i n : Nat} (h : zsh i = (10, n)) : zent G M i = .inl (G.2.2.1.1, n, .inl (mI M i)) := by unfold zent; rw [h]; rfl
theorem zent_z {G : zG} {M : zM} {i n : Nat} (h : zsh i = (11, n)) : zent G M i = .inl (G.2.2.1.2.1, n, .inl (mI M i)) := by unfold zent; rw [h]; rfl
theorem zent_m {G : zG} {M : zM} {i n : Nat} (h : zsh i = (12, n)) : zent G M i = .inl (G.2.2.1.2.2.1, n, .inr (.inr (.inr (.inr (fun j => zo G (mR M i j)))))) := by unfold zent; rw [h]; rfl
theorem zent_s {G : zG} {M : zM} {i n : Nat} (h : zsh i = (13, n)) : zent G M i = .inl (G.2.2.1.2.2.2, n, .inr (.inr (.inr (.inr (fun j => zo G (mR M i j)))))) := by unfold zent; rw [h]; rfl
theorem zsh_lo : ∀ i, 1000 ≤ i → (zsh i) = (99, 0) := by
  intro i h
  unfold zsh
  rw [List.getD_eq_getElem?_getD, List.getElem?_eq_none]
  · rfl
  · have : zSH.length = 179 := by decide +kernel
    omega
theorem zWd.ad0 {G : zG} {M : zM} {H : Heap} (h : zWd G M H) : va_D (zA G) (zwl G M) := zwl_D h.2.2
theorem rv_fv {G : zG} {M : zM} {i k ci n : Nat} (hs : zsh i = (ci, n)) (hr : zisr ci k = true) : zfv G M i k = rv G (.ref (mR M i k)) := by unfold zfv; rw [hs]; simp [hr, rv]
theorem rv_fi {G : zG} {M : zM} {i k ci n : Nat} (hs : zsh i = (ci, n)) (hr : zisr ci k = false) : zfv G M i k = .int (mI M i k) := by unfold zfv; rw [hs]; simp [hr]
theorem zSt.wI {G : zG} {M : zM} {a : Nat} {f : Nat → Int32} (h : zSt G M) (ha : a < 1000) : zSt G (wI M a f) := by
  obtain ⟨h1, h2, h3, h4, h5⟩ := h
  refine ⟨fun j hj => ?_, fun j hj => ?_, fun j hj => ?_, h4, h5⟩
  · rw [← h1 j hj]; show va_up (mI M) a f 1000 j = _; rw [va_up, if_neg (by omega)]
  · rw [← h2 j hj]; show va_up (mI M) a f 1001 j = _; rw [va_up, if_neg (by omega)]
  · rw [← h3 j hj]; show va_up (mI M) a f 1002 j = _; rw [va_up, if_neg (by omega)]
theorem zSt.wR {G : zG} {M : zM} {a : Nat} {f : Nat → Nat} (h : zSt G M) (ha : a < 1000) : zSt G (wR M a f) := by
  obtain ⟨h1, h2, h3, h4, h5⟩ := h
  refine ⟨h1, h2, h3, ?_, h5⟩
  rw [← h4]; show va_up (mR M) a f 1002 0 = _; rw [va_up, if_neg (by omega)]
theorem zSt.wN {G : zG} {M : zM} {n : Nat} (h : zSt G M) (ha : M.1 + 1 < 1000) : zSt G (wN M n) := by
  obtain ⟨h1, h2, h3, h4, h5⟩ := h
  refine ⟨fun j hj => ?_, fun j hj => ?_, fun j hj => ?_, ?_, h5⟩
  · rw [← h1 j hj]; show va_up (mI M) (M.1 + 1) _ 1000 j = _; rw [va_up, if_neg (by omega)]
  · rw [← h2 j hj]; show va_up (mI M) (M.1 + 1) _ 1001 j = _; rw [va_up, if_neg (by omega)]
  · rw [← h3 j hj]; show va_up (mI M) (M.1 + 1) _ 1002 j = _; rw [va_up, if_neg (by omega)]
  · rw [← h4]; show va_up (mR M) (M.1 + 1) _ 1002 0 = _; rw [va_up, if_neg (by omega)]
theorem zfv_oI {G : zG} {M : zM} {a j : Nat} {f : Nat → Int32} (h : j ≠ a) : zent G (wI M a f) j = zent G M j := zent_cong (by show va_up (mI M) a f j = _; rw [va_up, if_neg h]) rfl
theorem zfv_oR {G : zG} {M : zM} {a j : Nat} {f : Nat → Nat} (h : j ≠ a) : zent G (wR M a f) j = zent G M j := zent_cong rfl (by show va_up (mR M) a f j = _; rw [va_up, if_neg h])
theorem range_set {α : Type} {n k : Nat} {f g : Nat → α} (ho : ∀ j, j ≠ k → g j = f j) : ((List.range n).map f).set k (g k) = (List.range n).map g := by
  apply List.ext_getElem?
  intro j
  by_cases hj : j = k
  · subst hj
    by_cases hl : j < n
    · rw [List.getElem?_set_self (by simpa using hl)]
      simp [hl]
    · have e1 : (((List.range n).map f).set j (g j))[j]? = none := by rw [List.getElem?_eq_none]; simp; omega
      have e2 : ((List.range n).map g)[j]? = none := by rw [List.getElem?_eq_none]; simp; omega
      rw [e1, e2]
  · rw [List.getElem?_set_ne (Ne.symm hj), List.getElem?_map, List.getElem?_map]
    by_cases hl : j < n
    · simp [List.getElem?_range hl, ho j hj]
    · have e1 : (List.range n)[j]? = none := by rw [List.getElem?_eq_none]; simp; omega
      rw [e1]; rfl
theorem zwl_putI {G : zG} {M : zM} {i ci n k : Nat} {x : Int32} (ha : zAc M i ci n) (hc : ci < 10) (hr : zisr ci k = false) : (zwl G M).set (i - 1) (zad G i, .inr (ci, ((List.range n).map (zfv G M i)).set k (.int x))) = zwl G (wI M i (upd (mI M i) k x)) := by
  obtain ⟨h1, h2, hs⟩ := ha
  rw [← zwl_set (M := M) (M' := wI M i (upd (mI M i) k x)) rfl h1 h2 (fun j hj => zfv_oI hj), zent_o hs hc]
  have e : (.int x : Value) = zfv G (wI M i (upd (mI M i) k x)) i k := by
    rw [rv_fi hs hr]; show _ = Value.int (va_up (mI M) i (upd (mI M i) k x) i k); rw [va_up, if_pos rfl, upd, if_pos rfl]
  rw [e, range_set]
  intro j hj
  unfold zfv
  rw [hs]
  show (if zisr ci j = true then _ else Value.int (va_up (mI M) i (upd (mI M i) k x) i j)) = _
  rw [va_up, if_pos rfl, upd, if_neg hj]
  rfl
theorem zwl_putR {G : zG} {M : zM} {i ci n k r : Nat} (ha : zAc M i ci n) (hc : ci < 10) (hr : zisr ci k = true) : (zwl G M).set (i - 1) (zad G i, .inr (ci, ((List.range n).map (zfv G M i)).set k (rv G (.ref r)))) = zwl G (wR M i (va_up (mR M i) k r)) := by
  obtain ⟨h1, h2, hs⟩ := ha
  rw [← zwl_set (M := M) (M' := wR M i (va_up (mR M i) k r)) rfl h1 h2 (fun j hj => zfv_oR hj), zent_o hs hc]
  have e : rv G (.ref r) = zfv G (wR M i (va_up (mR M i) k r)) i k := by
    rw [rv_fv hs hr]; show _ = rv G (.ref (va_up (mR M) i (va_up (mR M i) k r) i k)); rw [va_up, if_pos rfl, va_up, if_pos rfl]
  rw [e, range_set]
  intro j hj
  unfold zfv
  rw [hs]
  show (if zisr ci j = true then va_rf (zo G (va_up (mR M) i (va_up (mR M i) k r) i j)) else _) = _
  rw [va_up, if_pos rfl, va_up, if_neg hj]
  rfl
section EX3
variable {G : zG} {d : Nat} {y : MethodName} {b : ByteArray} {nL : Nat} {ret : Option FieldType} {pc : Nat} {Ls st : List Value} {M : zM} {res : Option Value × zM}
/-- a step that reads cells -/
theorem x_rd {pc2 : Nat} {st2 : List Value} (h : ∀ {p : Program} {l : Launch} {e : Env} {R : Room} {s : State} {m : MethodId} {args : Array Value} {below : List Frame} {meth : Method} {c : Code} {H : Heap} {locs : List Loc} {cells slots : Nat} {Q : State → Prop} {ls : Array Slot} {T0 S0 : Nat},
    zCx G d y b nL ret p R s m args meth c T0 S0 → zWd G M H → va_S (zA G) s.heap H locs → ls.size = nL → W p l e R s m args below meth c H locs cells slots Q (F0 m pc2 ls (st2.map (rv G))) → W p l e R s m args below meth c H locs cells slots Q (F0 m pc ls (st.map (rv G))))
    (k : Ex G d y b nL ret pc2 Ls st2 M res) : Ex G d y b nL ret pc Ls st M res := by
  refine ⟨k.1, ?_⟩
  intro p l e R s m args below meth c H locs cells slots Q ls T0 S0 hC hw hS hl h1 h2 h3 h4 K
  exact h hC hw hS hl.1 (k.2 p l e R s m args below meth c H locs cells slots Q ls T0 S0 hC hw hS hl h1 h2 h3 h4 K)
/-- a step that writes cells -/
theorem x_wr {pc2 : Nat} {st2 : List Value} {M2 : zM} (e1 : M2.1 = M.1) (e2 : M2.2.1 = M.2.1) (hst : ∀ H', zWd G M H' → zSt G M2) (h : ∀ {p : Program} {l : Launch} {e : Env} {R : Room} {s : State} {m : MethodId} {args : Array Value} {below : List Frame} {meth : Method} {c : Code} {H : Heap} {locs : List Loc} {cells slots : Nat} {Q : State → Prop} {ls : Array Slot} {T0 S0 : Nat},
    zCx G d y b nL ret p R s m args meth c T0 S0 → zWd G M H → va_S (zA G) s.heap H locs → ls.size = nL → (∀ (H1 : Heap) (locs1 : List Loc), va_P G.2.1 vwCl (zwl G M2) H1 → va_S (zA G) s.heap H1 locs1 → W p l e R s m args below meth c H1 locs1 cells slots Q (F0 m pc2 ls (st2.map (rv G)))) → W p l e R s m args below meth c H locs cells slots Q (F0 m pc ls (st.map (rv G))))
    (k : Ex G d y b nL ret pc2 Ls st2 M2 res) : Ex G d y b nL ret pc Ls st M res := by
  refine ⟨by rw [← e1, ← e2]; exact k.1, ?_⟩
  intro p l e R s m args below meth c H locs cells slots Q ls T0 S0 hC hw hS hl h1 h2 h3 h4 K
  exact h hC hw hS hl.1 (fun H1 locs1 hP hS1 => k.2 p l e R s m args below meth c H1 locs1 cells slots Q ls T0 S0 hC ⟨hP, hst H hw, by rw [e1]; exact hw.2.2⟩ hS1 hl (by rw [e1]; exact h1) (by rw [e2]; exact h2) h3 h4 K)
theorem x_getI {idx ci k n q i : Nat} {fin : Bool} (hd : decode b pc = .ok (.getfield idx, 3)) (hf : zFk y.cls idx ci k n q fin) (ha : zAc M i ci n) (hq : q ≠ 2) (kk : Ex G d y b nL ret (pc + 3) Ls (.int (mI M i k) :: st) M res) : Ex G d y b nL ret pc Ls (.ref i :: st) M res := by
  obtain ⟨C, T, ty, f1, f2, f3, f4, f5, f6, f7, f8, f9, f10, f11, f12, f13⟩ := hf
  refine x_rd (st2 := .int (mI M i k) :: st) (fun hC hw hS hz w => ?_) kk
  obtain ⟨h1, h2, hs⟩ := ha
  rw [List.map_cons, rv_ref (by omega)]
  have he := zwl_get (G := G) h1 h2
  rw [zent_o hs f6] at he
  exact va_get hC.1 hC.2.1 (fun w h => hC.2.2.2.2.1 w h) f2 hC.2.2.2.1 hC.2.2.2.2.2.2.2.2.1.1 hw.1 (i - 1) he f1 k f5 (hC.2.2.2.2.1 _ f7) (fun _ h => h) (v := .int (mI M i k)) (by rw [List.getElem?_map, List.getElem?_range f5, Option.map_some, rv_fi hs (by rw [f9]; simp [hq])]) hd w
theorem x_getR {idx ci k n i : Nat} {fin : Bool} (hd : decode b pc = .ok (.getfield idx, 3)) (hf : zFk y.cls idx ci k n 2 fin) (ha : zAc M i ci n) (kk : Ex G d y b nL ret (pc + 3) Ls (.ref (mR M i k) :: st) M res) : Ex G d y b nL ret pc Ls (.ref i :: st) M res := by
  obtain ⟨C, T, ty, f1, f2, f3, f4, f5, f6, f7, f8, f9, f10, f11, f12, f13⟩ := hf
  refine x_rd (st2 := .ref (mR M i k) :: st) (fun hC hw hS hz w => ?_) kk
  obtain ⟨h1, h2, hs⟩ := ha
  rw [List.map_cons, rv_ref (by omega)]
  have he := zwl_get (G := G) h1 h2
  rw [zent_o hs f6] at he
  exact va_get hC.1 hC.2.1 (fun w h => hC.2.2.2.2.1 w h) f2 hC.2.2.2.1 hC.2.2.2.2.2.2.2.2.1.1 hw.1 (i - 1) he f1 k f5 (hC.2.2.2.2.1 _ f7) (fun _ h => h) (v := rv G (.ref (mR M i k))) (by rw [List.getElem?_map, List.getElem?_range f5, Option.map_some, rv_fv hs (by rw [f9]; rfl)]) hd w
theorem x_putI {idx ci k n i : Nat} {x : Int32} (hd : decode b pc = .ok (.putfield idx, 3)) (hf : zFk y.cls idx ci k n 0 false) (ha : zAc M i ci n) (kk : Ex G d y b nL ret (pc + 3) Ls st (wI M i (upd (mI M i) k x)) res) : Ex G d y b nL ret pc Ls (.int x :: .ref i :: st) M res := by
  obtain ⟨C, T, ty, f1, f2, f3, f4, f5, f6, f7, f8, f9, f10, f11, f12, f13⟩ := hf
  refine x_wr (M2 := wI M i (upd (mI M i) k x)) rfl rfl (fun H' hw => hw.2.1.wI (by have := ha.2.1; have := hw.2.2; omega)) (fun hC hw hS hz w => ?_) kk
  rw [List.map_cons, List.map_cons, rv_ref (by have := ha.1; omega)]
  have he := zwl_get (G := G) ha.1 ha.2.1
  rw [zent_o ha.2.2 f6] at he
  refine va_put hC.1 hC.2.1 (fun w h => hC.2.2.2.2.1 w h) f2 ty f3 f4 hC.2.2.2.1 hC.2.2.2.2.2.2.2.2.1.1 hw.1 hw.ad0 hS (i - 1) he f1 k f5 (hC.2.2.2.2.1 _ f7) (fun _ h => h) f8 (f3 k f5) (by rw [f10 rfl]; rfl) (by rw [f10 rfl]; rfl) (by simpa using f5) hd (fun H1 locs1 hP hD hS1 => ?_)
  rw [show rv G (.int x) = .int x from rfl, zwl_putI ha f6 (by rw [f9]; rfl)] at hP
  exact w H1 locs1 hP hS1
theorem x_putZ {idx ci k n i : Nat} {x : Int32} (hd : decode b pc = .ok (.putfield idx, 3)) (hf : zFk y.cls idx ci k n 1 false) (ha : zAc M i ci n) (hx : x = 0 ∨ x = 1) (kk : Ex G d y b nL ret (pc + 3) Ls st (wI M i (upd (mI M i) k x)) res) : Ex G d y b nL ret pc Ls (.int x :: .ref i :: st) M res := by
  obtain ⟨C, T, ty, f1, f2, f3, f4, f5, f6, f7, f8, f9, f10, f11, f12, f13⟩ := hf
  refine x_wr (M2 := wI M i (upd (mI M i) k x)) rfl rfl (fun H' hw => hw.2.1.wI (by have := ha.2.1; have := hw.2.2; omega)) (fun hC hw hS hz w => ?_) kk
  rw [List.map_cons, List.map_cons, rv_ref (by have := ha.1; omega)]
  have he := zwl_get (G := G) ha.1 ha.2.1
  rw [zent_o ha.2.2 f6] at he
  refine va_put hC.1 hC.2.1 (fun w h => hC.2.2.2.2.1 w h) f2 ty f3 f4 hC.2.2.2.1 hC.2.2.2.2.2.2.2.2.1.1 hw.1 hw.ad0 hS (i - 1) he f1 k f5 (hC.2.2.2.2.1 _ f7) (fun _ h => h) f8 (f3 k f5) (by rw [f11 rfl]; rcases hx with h | h <;> (subst h; rfl)) (by rw [f11 rfl]; rcases hx with h | h <;> (subst h; rfl)) (by simpa using f5) hd (fun H1 locs1 hP hD hS1 => ?_)
  rw [show rv G (.int x) = .int x from rfl, zwl_putI ha f6 (by rw [f9]; rfl)] at hP
  exact w H1 locs1 hP hS1
theorem x_putR {idx ci k n i r : Nat} (hd : decode b pc = .ok (.putfield idx, 3)) (hf : zFk y.cls idx ci k n 2 false) (ha : zAc M i ci n) (hr : r ≠ 0) (kk : Ex G d y b nL ret (pc + 3) Ls st (wR M i (va_up (mR M i) k r)) res) : Ex G d y b nL ret pc Ls (.ref r :: .ref i :: st) M res := by
  obtain ⟨C, T, ty, f1, f2, f3, f4, f5, f6, f7, f8, f9, f10, f11, f12, f13⟩ := hf
  refine x_wr (M2 := wR M i (va_up (mR M i) k r)) rfl rfl (fun H' hw => hw.2.1.wR (by have := ha.2.1; have := hw.2.2; omega)) (fun hC hw hS hz w => ?_) kk
  rw [List.map_cons, List.map_cons, rv_ref (r := i) (by have := ha.1; omega)]
  have he := zwl_get (G := G) ha.1 ha.2.1
  rw [zent_o ha.2.2 f6] at he
  refine va_put hC.1 hC.2.1 (fun w h => hC.2.2.2.2.1 w h) f2 ty f3 f4 hC.2.2.2.1 hC.2.2.2.2.2.2.2.2.1.1 hw.1 hw.ad0 hS (i - 1) he f1 k f5 (hC.2.2.2.2.1 _ f7) (fun _ h => h) f8 (f3 k f5) (by rw [rv_ref hr]; exact (f12 rfl _).1) (by rw [rv_ref hr]; exact (f12 rfl _).2) (by simpa using f5) hd (fun H1 locs1 hP hD hS1 => ?_)
  rw [zwl_putR ha f6 (by rw [f9]; rfl)] at hP
  exact w H1 locs1 hP hS1
theorem x_putF {idx ci k n i r : Nat} (hd : decode b pc = .ok (.putfield idx, 3)) (hf : zFk y.cls idx ci k n 2 true) (hy : y.name = "<init>") (hcl : ∀ (C : String) (T : u_T) (n : Nat), vwCl[ci]? = some (C, T, n) → C = y.cls) (ha : zAc M i ci n) (hr : r ≠ 0) (kk : Ex G d y b nL ret (pc + 3) Ls st (wR M i (va_up (mR M i) k r)) res) : Ex G d y b nL ret pc Ls (.ref r :: .ref i :: st) M res := by
  obtain ⟨C, T, ty, f1, f2, f3, f4, f5, f6, f7, f8, f9, f10, f11, f12, f13⟩ := hf
  refine x_wr (M2 := wR M i (va_up (mR M i) k r)) rfl rfl (fun H' hw => hw.2.1.wR (by have := ha.2.1; have := hw.2.2; omega)) (fun hC hw hS hz w => ?_) kk
  rw [List.map_cons, List.map_cons, rv_ref (r := i) (by have := ha.1; omega)]
  have he := zwl_get (G := G) ha.1 ha.2.1
  rw [zent_o ha.2.2 f6] at he
  refine va_putF hC.1 hC.2.1 (fun w h => hC.2.2.2.2.1 w h) f2 ty f3 f4 hC.2.2.2.1 hC.2.2.2.2.2.2.2.2.1.1 hw.1 hw.ad0 hS (i - 1) he f1 k f5 (hC.2.2.2.2.1 _ f7) (fun _ h => h) f8 (hC.2.2.2.2.2.2.2.1.trans hy) (by rw [f13]; exact hcl C T n f1) (f3 k f5) (by rw [rv_ref hr]; exact (f12 rfl _).1) (by rw [rv_ref hr]; exact (f12 rfl _).2) (by simpa using f5) hd (fun H1 locs1 hP hD hS1 => ?_)
  rw [zwl_putR ha f6 (by rw [f9]; rfl)] at hP
  exact w H1 locs1 hP hS1
end EX3
end
section
section EX4
variable {G : zG} {d : Nat} {y : MethodName} {b : ByteArray} {nL : Nat} {ret : Option FieldType} {pc : Nat} {Ls st : List Value} {M : zM} {res : Option Value × zM}
theorem zlI_own {M : zM} {i n : Nat} (h : zAc M i 10 n) (hm : M.1 < 1000) : zlI M i = n := by
  obtain ⟨h1, h2, h3⟩ := h
  unfold zlI
  rw [if_neg (by omega), if_pos ⟨h1, h2, by rw [h3]⟩, h3]
theorem zwl_putA {G : zG} {M : zM} {i n k : Nat} {x : Int32} (ha : zAc M i 10 n) : (zwl G M).set (i - 1) (zad G i, .inl (G.2.2.1.1, n, .inl (upd (mI M i) k x))) = zwl G (wI M i (upd (mI M i) k x)) := by
  obtain ⟨h1, h2, hs⟩ := ha
  rw [← zwl_set (M := M) (M' := wI M i (upd (mI M i) k x)) rfl h1 h2 (fun j hj => zfv_oI hj), zent_i hs]
  rw [show mI (wI M i (upd (mI M i) k x)) i = upd (mI M i) k x from by show va_up _ _ _ _ = _; rw [va_up, if_pos rfl]]
theorem zwl_putAf {G : zG} {M : zM} {i n : Nat} {f : Nat → Int32} (ha : zAc M i 10 n) : (zwl G M).set (i - 1) (zad G i, .inl (G.2.2.1.1, n, .inl f)) = zwl G (wI M i f) := by
  obtain ⟨h1, h2, hs⟩ := ha
  rw [← zwl_set (M := M) (M' := wI M i f) rfl h1 h2 (fun j hj => zfv_oI hj), zent_i hs]
  rw [show mI (wI M i f) i = f from by show va_up _ _ _ _ = _; rw [va_up, if_pos rfl]]
theorem zwl_putZ {G : zG} {M : zM} {i n k : Nat} {x : Int32} (ha : zAc M i 11 n) : (zwl G M).set (i - 1) (zad G i, .inl (G.2.2.1.2.1, n, .inl (upd (mI M i) k x))) = zwl G (wI M i (upd (mI M i) k x)) := by
  obtain ⟨h1, h2, hs⟩ := ha
  rw [← zwl_set (M := M) (M' := wI M i (upd (mI M i) k x)) rfl h1 h2 (fun j hj => zfv_oI hj), zent_z hs]
  rw [show mI (wI M i (upd (mI M i) k x)) i = upd (mI M i) k x from by show va_up _ _ _ _ = _; rw [va_up, if_pos rfl]]
theorem zS_of {T0 S0 : Nat} {p : Program} {R : Room} {s : State} {m : MethodId} {args : Array Value} {meth : Method} {c : Code} (hC : zCx G d y b nL ret p R s m args meth c T0 S0) : zKS G s s.heap := hC.2.2.2.2.2.2.2.2.1
theorem x_iald {i : Nat} {j : Int32} (hd : decode b pc = .ok (.iaload, 1)) (hin : vp_in j (zlI M i)) (kk : Ex G d y b nL ret (pc + 1) Ls (.int (mI M i j.toNatClampNeg) :: st) M res) : Ex G d y b nL ret pc Ls (.int j :: .ref i :: st) M res := by
  refine x_rd (st2 := .int (mI M i j.toNatClampNeg) :: st) (fun hC hw hS hz w => ?_) kk
  have hlt : j.toNatClampNeg < zlI M i := Nat.not_le.mp fun q => hin (Or.inr q)
  have hst := hw.2.1
  by_cases hi : 1000 ≤ i
  · have h0 : i ≠ 0 := by omega
    rw [List.map_cons, List.map_cons, rv_ref h0]
    by_cases e : i = 1002
    · subst e
      have hl : zlI M 1002 = G.2.2.2.2.1 := by unfold zlI; rw [if_pos (by omega), if_pos rfl]; exact hst.2.2.2.1
      rw [hl] at hin hlt
      refine va_ti hC.1 hC.2.1 (zS_of hC).2.2.2.2.2.1 hS hin (v := .int (mI M 1002 j.toNatClampNeg)) ?_ hd w
      rw [hst.2.2.1 _ hlt]
    · by_cases e2 : i = 1000 ∨ i = 1001
      · have hl : zlI M i = 5 := by unfold zlI; rw [if_pos hi, if_neg e, if_pos e2]
        rw [hl] at hin hlt
        rcases e2 with e2 | e2
        · subst e2
          refine va_ti hC.1 hC.2.1 (zS_of hC).2.2.2.1 hS hin (v := .int (mI M 1000 j.toNatClampNeg)) ?_ hd w
          rw [hst.1 _ hlt]
        · subst e2
          refine va_ti hC.1 hC.2.1 (zS_of hC).2.2.2.2.1 hS hin (v := .int (mI M 1001 j.toNatClampNeg)) ?_ hd w
          rw [hst.2.1 _ hlt]
      · exfalso
        have hl : zlI M i = 0 := by unfold zlI; rw [if_pos hi, if_neg e, if_neg e2]
        omega
  · by_cases hv : 1 ≤ i ∧ i ≤ M.1 ∧ (zsh i).1 = 10
    · have hl : zlI M i = (zsh i).2 := by unfold zlI; rw [if_neg hi, if_pos hv]
      have hs : zsh i = (10, (zsh i).2) := by rw [← hv.2.2]
      rw [hl] at hin
      rw [List.map_cons, List.map_cons, rv_ref (by omega)]
      have he := zwl_get (G := G) hv.1 hv.2.1
      rw [zent_i hs] at he
      exact va_iald hC.1 hC.2.1 (zS_of hC).1 hw.1 (i - 1) 0 he rfl hin hd w
    · exfalso
      have hl : zlI M i = 0 := by unfold zlI; rw [if_neg hi, if_neg hv]
      omega
theorem x_alen {i : Nat} (hd : decode b pc = .ok (.arraylength, 1)) (hv : zvI M i) (hm : M.1 < 1000) (kk : Ex G d y b nL ret (pc + 1) Ls (.int (nI (zlI M i)) :: st) M res) : Ex G d y b nL ret pc Ls (.ref i :: st) M res := by
  refine x_rd (st2 := .int (nI (zlI M i)) :: st) (fun hC hw hS hz w => ?_) kk
  have hst := hw.2.1
  rcases hv with hv | e | e | e
  · have hl : zlI M i = (zsh i).2 := by unfold zlI; rw [if_neg (by omega), if_pos hv]
    have hs : zsh i = (10, (zsh i).2) := by rw [← hv.2.2]
    rw [List.map_cons, rv_ref (by omega)]
    have he := zwl_get (G := G) hv.1 hv.2.1
    rw [zent_i hs] at he
    exact va_alen hC.1 hC.2.1 (zS_of hC).1 hw.1 (i - 1) 0 he rfl (v := nI (zlI M i)) (by rw [hl]; rfl) hd w
  · subst e
    rw [List.map_cons, rv_ref (by omega)]
    exact va_tlen hC.1 hC.2.1 (zS_of hC).2.2.2.1 hS (v := nI (zlI M 1000)) (by rfl) hd w
  · subst e
    rw [List.map_cons, rv_ref (by omega)]
    exact va_tlen hC.1 hC.2.1 (zS_of hC).2.2.2.2.1 hS (v := nI (zlI M 1001)) (by rfl) hd w
  · subst e
    have hl : zlI M 1002 = G.2.2.2.2.1 := by unfold zlI; rw [if_pos (by omega), if_pos rfl]; exact hst.2.2.2.1
    rw [List.map_cons, rv_ref (by omega)]
    exact va_tlen hC.1 hC.2.1 (zS_of hC).2.2.2.2.2.1 hS (v := nI (zlI M 1002)) (by rw [hl]; rfl) hd w
theorem x_zald {i n : Nat} {j : Int32} (hd : decode b pc = .ok (.baload, 1)) (ha : zAc M i 11 n) (hin : vp_in j n) (kk : Ex G d y b nL ret (pc + 1) Ls (.int (mI M i j.toNatClampNeg) :: st) M res) : Ex G d y b nL ret pc Ls (.int j :: .ref i :: st) M res := by
  refine x_rd (st2 := .int (mI M i j.toNatClampNeg) :: st) (fun hC hw hS hz w => ?_) kk
  rw [List.map_cons, List.map_cons, rv_ref (by have := ha.1; omega)]
  have he := zwl_get (G := G) ha.1 ha.2.1
  rw [zent_z ha.2.2] at he
  exact va_zald hC.1 hC.2.1 (zS_of hC).1 hw.1 (i - 1) 1 he rfl hin hd w
theorem x_aaldM {i n : Nat} {j : Int32} (hd : decode b pc = .ok (.aaload, 1)) (ha : zAc M i 12 n) (hin : vp_in j n) (kk : Ex G d y b nL ret (pc + 1) Ls (.ref (mR M i j.toNatClampNeg) :: st) M res) : Ex G d y b nL ret pc Ls (.int j :: .ref i :: st) M res := by
  refine x_rd (st2 := .ref (mR M i j.toNatClampNeg) :: st) (fun hC hw hS hz w => ?_) kk
  rw [List.map_cons, List.map_cons, rv_ref (r := i) (by have := ha.1; omega)]
  have he := zwl_get (G := G) ha.1 ha.2.1
  rw [zent_m ha.2.2] at he
  exact va_aldq hC.1 hC.2.1 (zS_of hC).1 hw.1 (i - 1) 2 he rfl hin hd w
theorem x_aaldS {i n : Nat} {j : Int32} (hd : decode b pc = .ok (.aaload, 1)) (ha : zAc M i 13 n) (hin : vp_in j n) (kk : Ex G d y b nL ret (pc + 1) Ls (.ref (mR M i j.toNatClampNeg) :: st) M res) : Ex G d y b nL ret pc Ls (.int j :: .ref i :: st) M res := by
  refine x_rd (st2 := .ref (mR M i j.toNatClampNeg) :: st) (fun hC hw hS hz w => ?_) kk
  rw [List.map_cons, List.map_cons, rv_ref (r := i) (by have := ha.1; omega)]
  have he := zwl_get (G := G) ha.1 ha.2.1
  rw [zent_s ha.2.2] at he
  exact va_aldq hC.1 hC.2.1 (zS_of hC).1 hw.1 (i - 1) 3 he rfl hin hd w
theorem x_iast {i n : Nat} {j x : Int32} (hd : decode b pc = .ok (.iastore, 1)) (ha : zAc M i 10 n) (hin : vp_in j n) (kk : Ex G d y b nL ret (pc + 1) Ls st (wI M i (upd (mI M i) j.toNatClampNeg x)) res) : Ex G d y b nL ret pc Ls (.int x :: .int j :: .ref i :: st) M res := by
  refine x_wr (M2 := wI M i (upd (mI M i) j.toNatClampNeg x)) rfl rfl (fun H' hw => hw.2.1.wI (by have := ha.2.1; have := hw.2.2; omega)) (fun hC hw hS hz w => ?_) kk
  rw [List.map_cons, List.map_cons, List.map_cons, rv_ref (by have := ha.1; omega)]
  have he := zwl_get (G := G) ha.1 ha.2.1
  rw [zent_i ha.2.2] at he
  refine va_iast hC.1 hC.2.1 (zS_of hC).1 hw.1 hw.ad0 hS (i - 1) 0 he rfl hin hd (fun H1 locs1 hP hD hS1 => ?_)
  rw [zwl_putA ha] at hP
  exact w H1 locs1 hP hS1
theorem x_zast {i n : Nat} {j x : Int32} (hd : decode b pc = .ok (.bastore, 1)) (ha : zAc M i 11 n) (hin : vp_in j n) (hx : x = 0 ∨ x = 1) (kk : Ex G d y b nL ret (pc + 1) Ls st (wI M i (upd (mI M i) j.toNatClampNeg x)) res) : Ex G d y b nL ret pc Ls (.int x :: .int j :: .ref i :: st) M res := by
  refine x_wr (M2 := wI M i (upd (mI M i) j.toNatClampNeg x)) rfl rfl (fun H' hw => hw.2.1.wI (by have := ha.2.1; have := hw.2.2; omega)) (fun hC hw hS hz w => ?_) kk
  rw [List.map_cons, List.map_cons, List.map_cons, rv_ref (by have := ha.1; omega)]
  have he := zwl_get (G := G) ha.1 ha.2.1
  rw [zent_z ha.2.2] at he
  refine va_zast hC.1 hC.2.1 (zS_of hC).1 hw.1 hw.ad0 hS (i - 1) 1 he rfl hin hd (fun H1 locs1 hP hD hS1 => ?_)
  have hn : vp_nar .boolean x = x := by rcases hx with h | h <;> (subst h; rfl)
  rw [hn, zwl_putZ ha] at hP
  exact w H1 locs1 hP hS1
theorem zwl_putQm {G : zG} {M : zM} {i n k r : Nat} (ha : zAc M i 12 n) (hr : r ≠ 0) : (zwl G M).set (i - 1) (zad G i, .inl (G.2.2.1.2.2.1, n, .inr (.inr (.inr (.inr (va_up (fun j => zo G (mR M i j)) k (some (zad G r)))))))) = zwl G (wR M i (va_up (mR M i) k r)) := by
  obtain ⟨h1, h2, hs⟩ := ha
  rw [← zwl_set (M := M) (M' := wR M i (va_up (mR M i) k r)) rfl h1 h2 (fun j hj => zfv_oR hj), zent_m hs]
  have e : va_up (fun j => zo G (mR M i j)) k (some (zad G r)) = fun j => zo G (mR (wR M i (va_up (mR M i) k r)) i j) := by
    funext j
    show _ = zo G (va_up (mR M) i (va_up (mR M i) k r) i j)
    by_cases hj : j = k
    · subst hj; simp [va_up, zo, hr]
    · simp [va_up, hj]
  rw [e]
theorem zwl_putQs {G : zG} {M : zM} {i n k r : Nat} (ha : zAc M i 13 n) (hr : r ≠ 0) : (zwl G M).set (i - 1) (zad G i, .inl (G.2.2.1.2.2.2, n, .inr (.inr (.inr (.inr (va_up (fun j => zo G (mR M i j)) k (some (zad G r)))))))) = zwl G (wR M i (va_up (mR M i) k r)) := by
  obtain ⟨h1, h2, hs⟩ := ha
  rw [← zwl_set (M := M) (M' := wR M i (va_up (mR M i) k r)) rfl h1 h2 (fun j hj => zfv_oR hj), zent_s hs]
  have e : va_up (fun j => zo G (mR M i j)) k (some (zad G r)) = fun j => zo G (mR (wR M i (va_up (mR M i) k r)) i j) := by
    funext j
    show _ = zo G (va_up (mR M) i (va_up (mR M i) k r) i j)
    by_cases hj : j = k
    · subst hj; simp [va_up, zo, hr]
    · simp [va_up, hj]
  rw [e]
theorem x_aastM {i n r : Nat} {j : Int32} (hd : decode b pc = .ok (.aastore, 1)) (ha : zAc M i 12 n) (hv : zAc M r 1 3) (hin : vp_in j n) (kk : Ex G d y b nL ret (pc + 1) Ls st (wR M i (va_up (mR M i) j.toNatClampNeg r)) res) : Ex G d y b nL ret pc Ls (.ref r :: .int j :: .ref i :: st) M res := by
  have hr : r ≠ 0 := by have := hv.1; omega
  refine x_wr (M2 := wR M i (va_up (mR M i) j.toNatClampNeg r)) rfl rfl (fun H' hw => hw.2.1.wR (by have := ha.2.1; have := hw.2.2; omega)) (fun hC hw hS hz w => ?_) kk
  rw [List.map_cons, List.map_cons, List.map_cons, rv_ref (r := i) (by have := ha.1; omega), rv_ref hr]
  have he := zwl_get (G := G) ha.1 ha.2.1
  rw [zent_m ha.2.2] at he
  have he2 := zwl_get (G := G) hv.1 hv.2.1
  rw [zent_o hv.2.2 (by omega)] at he2
  refine va_astq hC.1 hC.2.1 (zS_of hC).1 hw.1 hw.ad0 hS (i - 1) 2 (r - 1) 1 (r := (RX1, TX1, 3)) he rfl he2 rfl hin hd (fun H1 locs1 hP hD hS1 => ?_)
  rw [zwl_putQm ha hr] at hP
  exact w H1 locs1 hP hS1
theorem x_aastS {i n r : Nat} {j : Int32} (hd : decode b pc = .ok (.aastore, 1)) (ha : zAc M i 13 n) (hv : zAc M r 5 9) (hin : vp_in j n) (kk : Ex G d y b nL ret (pc + 1) Ls st (wR M i (va_up (mR M i) j.toNatClampNeg r)) res) : Ex G d y b nL ret pc Ls (.ref r :: .int j :: .ref i :: st) M res := by
  have hr : r ≠ 0 := by have := hv.1; omega
  refine x_wr (M2 := wR M i (va_up (mR M i) j.toNatClampNeg r)) rfl rfl (fun H' hw => hw.2.1.wR (by have := ha.2.1; have := hw.2.2; omega)) (fun hC hw hS hz w => ?_) kk
  rw [List.map_cons, List.map_cons, List.map_cons, rv_ref (r := i) (by have := ha.1; omega), rv_ref hr]
  have he := zwl_get (G := G) ha.1 ha.2.1
  rw [zent_s ha.2.2] at he
  have he2 := zwl_get (G := G) hv.1 hv.2.1
  rw [zent_o hv.2.2 (by omega)] at he2
  refine va_astq hC.1 hC.2.1 (zS_of hC).1 hw.1 hw.ad0 hS (i - 1) 3 (r - 1) 5 (r := (RX5, TX5, 9)) he rfl he2 rfl hin hd (fun H1 locs1 hP hD hS1 => ?_)
  rw [zwl_putQs ha hr] at hP
  exact w H1 locs1 hP hS1
theorem x_gets {idx i : Nat} {n : String} (hd : decode b pc = .ok (.getstatic idx, 3)) (hy : y.cls = RX4) (hi : (idx = 44 ∧ i = 1000) ∨ (idx = 51 ∧ i = 1001)) (kk : Ex G d y b nL ret (pc + 3) Ls (.ref i :: st) M res) : Ex G d y b nL ret pc Ls st M res := by
  refine x_rd (st2 := .ref i :: st) (fun hC hw hS hz w => ?_) kk
  rcases hi with ⟨rfl, rfl⟩ | ⟨rfl, rfl⟩
  · rw [List.map_cons, rv_ref (by omega)] at w
    exact va_getsN hC.1 hC.2.1 (zS_of hC).2.1 hS hC.2.2.2.1 (va_Nw.use rfl (by rw [hy]; exact (zS_of hC).2.2.2.2.2.2.2.1)) (fun _ h => h) hd w
  · rw [List.map_cons, rv_ref (by omega)] at w
    exact va_getsN hC.1 hC.2.1 (zS_of hC).2.2.1 hS hC.2.2.2.1 (va_Nw.use rfl (by rw [hy]; exact (zS_of hC).2.2.2.2.2.2.2.2.1)) (fun _ h => h) hd w
theorem x_copy {idx i0 i1 n0 n1 : Nat} {sp dp n : Int32} (hd : decode b pc = .ok (.invokestatic idx, 3)) (hlink : Cond.methodLink y.cls idx arraycopyName ∈ zW) (hnat : Cond.native arraycopyName ∈ zW) (hstat : Cond.static arraycopyName ∈ zW) (hini : Cond.initialized "java/lang/System" ∈ zW) (h0 : zAc M i0 10 n0) (h1 : zAc M i1 10 n1)
    (c1 : ¬ sp < 0) (c2 : ¬ dp < 0) (c3 : ¬ n < 0) (c4 : sp.toNatClampNeg + n.toNatClampNeg ≤ n0) (c5 : dp.toNatClampNeg + n.toNatClampNeg ≤ n1) (kk : Ex G d y b nL ret (pc + 3) Ls [] (wI M i1 (va_cpy (mI M i0) (mI M i1) sp.toNatClampNeg dp.toNatClampNeg n.toNatClampNeg)) res) : Ex G d y b nL ret pc Ls [.int n, .int dp, .ref i1, .int sp, .ref i0] M res := by
  refine x_wr (M2 := wI M i1 (va_cpy (mI M i0) (mI M i1) sp.toNatClampNeg dp.toNatClampNeg n.toNatClampNeg)) rfl rfl (fun H' hw => hw.2.1.wI (by have := h1.2.1; have := hw.2.2; omega)) (fun hC hw hS hz w => ?_) kk
  simp only [List.map_cons, List.map_nil]
  rw [rv_ref (r := i0) (by have := h0.1; omega), rv_ref (r := i1) (by have := h1.1; omega)]
  have he0 := zwl_get (G := G) h0.1 h0.2.1
  rw [zent_i h0.2.2] at he0
  have he1 := zwl_get (G := G) h1.1 h1.2.1
  rw [zent_i h1.2.2] at he1
  have hR := hC.2.2.2.2.2.2.2.2.2.2
  have hts := hC.2.2.2.2.1
  refine va_copyi hC.1 hC.2.1 (hC.2.2.1.trans hz.symm) hC.2.2.2.1 (hts _ hlink) (hts _ hnat) (hts _ hstat) (hts _ hini) (zS_of hC).1 hw.1 hw.ad0 hS (i0 - 1) (i1 - 1) 0 0 (ty := .int) he0 he1 rfl rfl rfl c1 c2 c3 c4 c5 (fun _ _ => rfl) (by omega) (Nat.le_trans (by decide : _ ≤ 64) (Nat.le_trans (by omega) hR.2)) hd (fun H1 locs1 hP hD hS1 => ?_)
  rw [zwl_putAf h1] at hP
  exact w H1 locs1 hP hS1
theorem x_oinit {idx i : Nat} (hd : decode b pc = .ok (.invokespecial idx, 3)) (hl : Cond.methodLink y.cls idx Lib.objectInit ∈ zW) (h2 : Cond.instanceMethod Lib.objectInit ∈ zW) (h3 : Cond.code Lib.objectInit ⟨#[0xb1]⟩ 1 none ∈ zW) (hi : i ≠ 0) (hst : (st.map fun v => (rv G v).category).sum ≤ 8) (kk : Ex G d y b nL ret (pc + 3) Ls st M res) : Ex G d y b nL ret pc Ls (.ref i :: st) M res := by
  refine x_rd (st2 := st) (fun hC hw hS hz w => ?_) kk
  rw [List.map_cons, rv_ref hi]
  have hts := hC.2.2.2.2.1
  have hR := hC.2.2.2.2.2.2.2.2.2.2
  refine W.objInit hC.1 hC.2.1 hC.2.2.2.1 (hts _ hl) (hts _ h2) (hts _ h3) rfl (by show _ = _; rw [hC.2.2.1]; exact hz) rfl hd (by omega) ?_ w
  have e : ((st.map (rv G)).map fun v => v.category).sum ≤ 8 := by rw [List.map_map]; exact hst
  show 2 * 0 + _ + 12 ≤ _
  omega
end EX4
end
section
/-! a method's contract out of Ex; calls; new cells -/
def zent1 : List Value → List Value
  | [] => []
  | .long x :: vs => .long x :: .null :: zent1 vs
  | v :: vs => v :: zent1 vs
def zent0 (av : List Value) (n : Nat) : List Value := zent1 av ++ List.replicate (n - (zent1 av).length) .null
/-- plain values: numbers, longs, references -/
def zpl : Value → Bool
  | .int _ => true
  | .long _ => true
  | .ref _ => true
  | _ => false
theorem zent1_args {G : zG} : ∀ (av : List Value), av.all zpl = true → ∀ (i k : Nat) (v : Value), (zent1 av)[k]? = some v → v ≠ .null → (i + k, rv G v) ∈ lv_args i (av.map (rv G)) := by
  intro av
  induction av with
  | nil => intro _ i k v h; simp [zent1] at h
  | cons a av ih =>
    intro hp i k v h hv
    simp only [List.all_cons, Bool.and_eq_true] at hp
    cases a with
    | long x =>
      simp only [zent1] at h
      simp only [List.map_cons, rv, lv_args, Value.category, if_true]
      match k, h with
      | 0, h => cases h; exact List.mem_cons_self
      | 1, h => cases h; exact absurd rfl hv
      | k + 2, h =>
        refine List.mem_cons_of_mem _ ?_
        have := ih hp.2 (i + 2) k v (by simpa using h) hv
        rwa [show i + 2 + k = i + (k + 2) by omega] at this
    | int x =>
      simp only [zent1] at h
      simp only [List.map_cons, rv, lv_args, Value.category]
      match k, h with
      | 0, h => cases h; exact List.mem_cons_self
      | k + 1, h =>
        refine List.mem_cons_of_mem _ ?_
        have := ih hp.2 (i + 1) k v (by simpa using h) hv
        rwa [show i + 1 + k = i + (k + 1) by omega] at this
    | ref x =>
      simp only [zent1] at h
      have hc : (rv G (.ref x)).category = 1 := rv_cat (fun _ q => by cases q) (fun _ q => by cases q)
      simp only [List.map_cons, lv_args, hc]
      match k, h with
      | 0, h => cases h; exact List.mem_cons_self
      | k + 1, h =>
        refine List.mem_cons_of_mem _ ?_
        have := ih hp.2 (i + 1) k v (by simpa using h) hv
        rwa [show i + 1 + k = i + (k + 1) by omega] at this
    | _ => simp [zpl] at hp
theorem zent1_len {G : zG} : ∀ (av : List Value), av.all zpl = true → (lg_sl (av.map (rv G))).length = (zent1 av).length := by
  intro av
  induction av with
  | nil => intro _; rfl
  | cons a av ih =>
    intro hp
    simp only [List.all_cons, Bool.and_eq_true] at hp
    have := ih hp.2
    cases a with
    | long x =>
      simp only [lg_sl, List.map_cons, rv, List.flatMap_cons, Value.category, zent1, List.length_append, List.length_cons] at this ⊢
      simp only [if_true, List.length_cons, List.length_nil]
      omega
    | int x =>
      simp only [lg_sl, List.map_cons, rv, List.flatMap_cons, Value.category, zent1, List.length_append, List.length_cons] at this ⊢
      simp at this ⊢
      omega
    | ref x =>
      have hc : (rv G (.ref x)).category = 1 := rv_cat (fun _ q => by cases q) (fun _ q => by cases q)
      simp only [lg_sl, List.map_cons, List.flatMap_cons, hc, zent1, List.length_append, List.length_cons] at this ⊢
      simp at this ⊢
      omega
    | _ => simp [zpl] at hp
theorem zent_LR {G : zG} {av : List Value} {n : Nat} (hp : av.all zpl = true) (hn : (zent1 av).length ≤ n) : zLR G ((lg_sl (av.map (rv G)) ++ List.replicate (n - (lg_sl (av.map (rv G))).length) Slot.unset).toArray) n (zent0 av n) := by
  have h := lv_entry (av.map (rv G)) (n := n) (by rw [zent1_len av hp]; exact hn)
  refine ⟨h.1, h.2.1, fun k v hk hv => ?_⟩
  unfold zent0 at hk
  by_cases hl : k < (zent1 av).length
  · rw [List.getElem?_append_left hl] at hk
    have := zent1_args (G := G) av hp 0 k v hk hv
    rw [Nat.zero_add] at this
    exact h.2.2 _ this
  · rw [List.getElem?_append_right (by omega)] at hk
    have := List.eq_of_mem_replicate (List.mem_of_getElem? hk)
    exact absurd this hv
def zPc (G : zG) (av : List Value) (M : zM) : Array Value → State → Prop := fun v U => v = (av.map (rv G)).toArray ∧ zWd G M U.heap ∧ zKS G U U.heap ∧ U.heap.size = G.1 + M.1
def zQc (G : zG) (res : Option Value × zM) : Array Value → State → Outcome → State → Prop := fun _ st oc t => oc = .returned (res.1.map (rv G)) ∧ zWd G res.2 t.heap ∧ st.heap.size ≤ t.heap.size ∧ ∀ q : Nat, q < st.heap.size → ¬ zA G q → t.heap[q]? = st.heap[q]?
def zrm (d : Nat) (M : zM) (res : Option Value × zM) : Room := { frames := d + 1, cells := res.2.1 - M.1, slots := res.2.2.1 - M.2.1, locals := 64 * (d + 1) }
theorem zPc_blind {G : zG} {av : List Value} {M : zM} : FrameBlind (zPc G av M) := fun _ U g mk h => ⟨h.1, h.2.1, zKS.calling h.2.2.1, h.2.2.2⟩
theorem zmet {G : zG} {d : Nat} {y : MethodName} {b : ByteArray} {nL : Nat} {ret : Option FieldType} {av : List Value} {M : zM} {res : Option Value × zM} (l : Launch) (hy : plainName y.cls = true) (hp : av.all zpl = true) (hn : (zent1 av).length ≤ nL)
    (hx : Ex G d y b nL ret 0 (zent0 av nL) [] M res) : Met l y (.code y b nL ret :: zW) (zrm d M res) (zPc G av M) (zQc G res) (res.2.1 - M.1) (res.2.2.1 - M.2.1) (zA G) := by
  refine Met.ofW (cc := b) (maxL := nL) (ret := ret) hy rfl ?_
  intro p e s m args below meth c s₁ B hml hv
  obtain ⟨rfl, hw, hk, hsz⟩ := hv
  have hts := atoms_spec (ws := Cond.code y b nL ret :: zW) B.pre
  rw [lg_entry_eq]
  have hC : zCx G d y b nL ret p (headSpec (Cond.code y b nL ret :: zW) (zrm d M res)).room s m (av.map (rv G)).toArray meth c M.1 M.2.1 :=
    ⟨B.exec, B.bytes, hml, findClass_of_methodNamed B.named, fun w h => hts w (List.mem_cons_of_mem _ h), B.returns, B.notSynchronized, (name_of_methodNamed B.named B.method).1, hk, hsz, Nat.le_refl _, Nat.le_refl _⟩
  have hb := hx.1
  refine hx.2 p l e _ s m _ below meth c s.heap [] 0 0 _ _ M.1 M.2.1 hC hw va_S.rf (zent_LR hp hn) rfl rfl (by show _ ≤ M.1 + (res.2.1 - M.1); omega) (by show _ ≤ M.2.1 + (res.2.2.1 - M.2.1); omega) ?_
  intro H' locs' cells' slots' pcr lsr hw' hS' e1 e2 hr
  have c1 : cells' = res.2.1 - M.1 := by omega
  have c2 : slots' = res.2.2.1 - M.2.1 := by omega
  subst c1; subst c2
  have hlk : meth.locks = false := B.notSynchronized
  cases hres : res.1 with
  | none =>
    rw [hres] at hr
    exact W.vret B.exec B.bytes (B.returns.trans hr.1) (fun t ht hW => ⟨by rw [hres]; rfl, by rw [ht]; exact hw', by rw [ht]; exact hS'.1, fun q h1 h2 => by rw [ht]; exact hS'.2.1 q h1 h2⟩) hS'.2.2 hr.2 hlk
  | some w =>
    rw [hres] at hr
    obtain ⟨x, ty, rfl, h2, h3, h4⟩ := hr
    exact W.zret B.exec B.bytes (B.returns.trans h2) h3 (fun t ht hW => ⟨by rw [hres]; rfl, by rw [ht]; exact hw', by rw [ht]; exact hS'.1, fun q h1 h2 => by rw [ht]; exact hS'.2.1 q h1 h2⟩) hS'.2.2 h4 hlk
theorem zgood {ws : List Cond} (h : ∀ w ∈ ws, w ∈ zW) : GoodIn zW ws := fun w hw => ⟨h w hw, good_of_word (zW_good _ (h w hw))⟩
theorem zgoodc {y : MethodName} {b : ByteArray} {nL : Nat} {ret : Option FieldType} (h : Cond.code y b nL ret ∈ zW) : GoodIn zW (.code y b nL ret :: zW) := zgood (fun w hw => by rcases List.mem_cons.mp hw with rfl | q; exact h; exact q)
theorem zcall_W {G : zG} {p : Program} {l : Launch} {e : Env} {R : Room} {s : State} {m : MethodId} {args : Array Value} {below : List Frame} {meth : Method} {c : Code} {H : Heap} {locs : List Loc} {cells slots mc ms : Nat} {Q : State → Prop} {pc : Nat} {ls : Array Slot} {st0 rest : List Value} {a : Array Value} {res2 : Option Value × zM}
    (hr : va_Run p l e R s m args below meth c H locs cells slots mc ms (F0 m pc ls st0) rest (zQc G res2 a) (zA G)) (hS : va_S (zA G) s.heap H locs)
    (kk : ∀ (H1 : Heap) (locs1 : List Loc), zWd G res2.2 H1 → va_S (zA G) s.heap H1 locs1 → W p l e R s m args below meth c H1 locs1 (cells + mc) (slots + ms) Q (F0 m (pc + 3) ls ((res2.1.map (rv G)).toList ++ rest))) : W p l e R s m args below meth c H locs cells slots Q (F0 m pc ls st0) := by
  intro T hT X
  obtain ⟨v, st₀, t, T', L, h0, X', hL, e1, e2, ⟨hv, hw, hz, hk⟩, st⟩ := hr T hT X
  have hv2 : v = res2.1.map (rv G) := by cases hv; rfl
  subst hv2
  rw [h0] at hz hk
  obtain ⟨t2, a1, b1⟩ := kk T'.heap (locs ++ L) (by rw [e1]; exact hw)
    ⟨Nat.le_trans hS.1 (by rw [e1]; exact hz), fun q h1 h2 => by rw [e1, hk q (Nat.lt_of_lt_of_le h1 hS.1) h2]; exact hS.2.1 q h1 h2, fun q hq => by
      rcases List.mem_append.mp hq with h | h
      · exact hS.2.2 q h
      · exact hL q h⟩ T' rfl X'
  exact ⟨t2, st t2 a1, b1⟩
theorem zsize {G : zG} {M : zM} {p : Program} {l : Launch} {e : Env} {R : Room} {s : State} {m : MethodId} {args : Array Value} {below : List Frame} {meth : Method} {c : Code} {T : State} {locs : List Loc} {cells slots T0 : Nat} (hs : s.heap.size = G.1 + T0) (h1 : T0 + cells = M.1) (hw : zWd G M T.heap) (X : Stand p l e R s m args below meth c T locs cells slots) : T.heap.size = G.1 + M.1 := by
  have hu : T.heap.size ≤ s.heap.size + cells := X.same.2.2.1
  have hl : s.heap.size ≤ T.heap.size := X.same.2.1
  by_cases h0 : M.1 = 0
  · omega
  · have := (hw.1 _ _ (zwl_get (G := G) (M := M) (i := M.1) (by omega) (Nat.le_refl _))).lt
    simp only [] at this
    rw [zad_lo (by have := hw.2.2; omega)] at this
    omega
section EX5
variable {G : zG} {d : Nat} {y y2 : MethodName} {b b2 : ByteArray} {nL nL2 : Nat} {ret ret2 : Option FieldType} {pc : Nat} {Ls st st2 stk : List Value} {M : zM} {res res2 : Option Value × zM}
def zCal (y2 : MethodName) (b2 : ByteArray) (nL2 : Nat) (ret2 : Option FieldType) (n : Nat) : Prop := plainName y2.cls = true ∧ Cond.code y2 b2 nL2 ret2 ∈ zW ∧ Cond.initialized y2.cls ∈ zW ∧ (y2.cls ≠ "java/lang/invoke/MethodHandle" ∧ y2.cls ≠ "java/lang/invoke/VarHandle" ∧ (parseMethodDescriptor y2.desc).map (fun d => d.parameters.length) = some n) ∧ nL2 ≤ 45
theorem x_call {q : Nat} {stk : List Value} {As : List Value} (hx : Ex G d y2 b2 nL2 ret2 0 (zent0 As nL2) [] M res2) (hp : As.all zpl = true) (hn : (zent1 As).length ≤ nL2) (hc : zCal y2 b2 nL2 ret2 q)
    (hrun : ∀ {p : Program} {l : Launch} {e : Env} {R : Room} {s : State} {m : MethodId} {args : Array Value} {below : List Frame} {meth : Method} {c : Code} {H : Heap} {locs : List Loc} {cells slots : Nat} {ls : Array Slot} {T0 S0 : Nat}, zCx G (d + 1) y b nL ret p R s m args meth c T0 S0 → zWd G M H → ls.size = nL → H.size = G.1 + M.1 → Met l y2 (.code y2 b2 nL2 ret2 :: zW) (zrm d M res2) (zPc G As M) (zQc G res2) (res2.2.1 - M.1) (res2.2.2.1 - M.2.1) (zA G) → (∀ U : State, U.heap = H → s.WarmedH U.vm → zPc G As M (As.map (rv G)).toArray U) → cells + (res2.2.1 - M.1) ≤ R.cells ∧ slots + (res2.2.2.1 - M.2.1) ≤ R.slots →
      va_Run p l e R s m args below meth c H locs cells slots (res2.2.1 - M.1) (res2.2.2.1 - M.2.1) (F0 m pc ls (stk.map (rv G))) (st.map (rv G)) (zQc G res2 (As.map (rv G)).toArray) (zA G))
    (hst2 : st2 = res2.1.toList ++ st) (kk : Ex G (d + 1) y b nL ret (pc + 3) Ls st2 res2.2 res) : Ex G (d + 1) y b nL ret pc Ls stk M res := by
  have hb := hx.1
  have hb2 := kk.1
  refine ⟨⟨Nat.le_trans hb.1 hb2.1, Nat.le_trans hb.2 hb2.2⟩, ?_⟩
  intro p l e R s m args below meth c H locs cells slots Q ls T0 S0 hC hw hS hl h1 h2 h3 h4 K
  intro T hT X
  have hsz : H.size = G.1 + M.1 := by
    rw [← hT]
    exact zsize hC.2.2.2.2.2.2.2.2.2.1 h1 (by rw [hT]; exact hw) X
  refine zcall_W (hrun hC hw hl.1 hsz (zmet l hc.1 hp hn hx) (fun U hU hW => ⟨rfl, by rw [hU]; exact hw, ?_, by rw [hU]; exact hsz⟩) ⟨by omega, by omega⟩) hS (fun H1 locs1 hw1 hS1 => ?_) T hT X
  · rw [hU]
    exact (zS_of hC).moved hW (fun a h1 h2 => hS.2.1 a h1 h2)
  · have := kk.2 p l e R s m args below meth c H1 locs1 (cells + (res2.2.1 - M.1)) (slots + (res2.2.2.1 - M.2.1)) Q ls T0 S0 hC hw1 hS1 hl (by omega) (by omega) h3 h4 K
    rw [hst2, List.map_append] at this
    have e : (res2.1.map (rv G)).toList = res2.1.toList.map (rv G) := by cases res2.1 <;> rfl
    rw [e]
    exact this
theorem x_callV {idx n ci nn i : Nat} {T : u_T} {av : List Value} (hd : decode b pc = .ok (.invokevirtual idx, 3)) (hx : Ex G d y2 b2 nL2 ret2 0 (zent0 (.ref i :: av) nL2) [] M res2) (hp : av.all zpl = true) (hn : (zent1 (.ref i :: av)).length ≤ nL2) (hc : zCal y2 b2 nL2 ret2 n) (hna : av.length = n)
    (hlink : Cond.methodLink y.cls idx y2 ∈ zW) (hinst : Cond.instanceMethod y2 ∈ zW) (hsel : Cond.selects y2.cls y2 y2 ∈ zW) (hrec : zAc M i ci nn) (hci : ci < 10) (hcl : vwCl[ci]? = some (y2.cls, T, nn)) (hs : stk = av.reverse ++ .ref i :: st) (hst : (st.map fun v => (rv G v).category).sum ≤ 8)
    (hst2 : st2 = res2.1.toList ++ st) (kk : Ex G (d + 1) y b nL ret (pc + 3) Ls st2 res2.2 res) : Ex G (d + 1) y b nL ret pc Ls stk M res := by
  refine x_call hx (by simp [zpl, hp]) hn hc ?_ hst2 kk
  intro p l e R s m args below meth c H locs cells slots ls T0 S0 hC hw hls hsz hM hPc hroom
  have hts := hC.2.2.2.2.1
  have hR := hC.2.2.2.2.2.2.2.2.2.2
  have hi0 : i ≠ 0 := by have := hrec.1; omega
  have he := zwl_get (G := G) hrec.1 hrec.2.1
  rw [zent_o hrec.2.2 hci] at he
  have hsum : ((st.map (rv G)).map fun v => v.category).sum ≤ 8 := by rw [List.map_map]; exact hst
  have hl5 := hc.2.2.2.2
  have hrun := va_runV (g := F0 m pc ls (stk.map (rv G))) (b := zad G i) (As := av.map (rv G)) (rest := st.map (rv G)) (index := idx) (cells := cells) (slots := slots) (locs := locs) (below := below) (e := e) (meth := meth) (H := H)
    ⟨hC.1, hC.2.1, hC.2.2.1, hC.2.2.2.1, hts⟩ hM (cwV n hts (C := y2.cls) (zgood (fun w hw => by
      rcases List.mem_append.mp hw with h | h
      · simp only [List.mem_cons, List.not_mem_nil, or_false] at h
        rcases h with rfl | rfl | rfl | rfl
        · exact hlink
        · exact hinst
        · exact hsel
        · exact hc.2.2.1
      · rcases List.mem_cons.mp h with rfl | h
        · exact hc.2.1
        · exact h)) rfl rfl rfl ⟨rfl, hc.2.2.2.1⟩ ⟨by show d + 1 + 1 ≤ R.frames; omega, by show 8 + (nL2 + 11) + 64 * (d + 1) ≤ R.locals; omega⟩)
    ⟨zPc_blind, va_recv (zS_of hC).1 hw.1 hcl he, fun U hU hW => by have := hPc U hU hW; rw [List.map_cons, rv_ref hi0] at this; exact this⟩ rfl (by simpa using hna) hls (by show stk.map (rv G) = _; rw [hs, List.map_append, List.map_cons, rv_ref hi0, List.map_reverse]) (lv_room hsum) hd hroom
  rw [List.map_cons, rv_ref hi0]
  exact hrun
theorem x_callS {idx n : Nat} {av : List Value} (hd : decode b pc = .ok (.invokestatic idx, 3)) (hx : Ex G d y2 b2 nL2 ret2 0 (zent0 av nL2) [] M res2) (hp : av.all zpl = true) (hn : (zent1 av).length ≤ nL2) (hc : zCal y2 b2 nL2 ret2 n) (hna : av.length = n)
    (hlink : Cond.methodLink y.cls idx y2 ∈ zW) (hstat : Cond.static y2 ∈ zW) (hs : stk = av.reverse ++ st) (hst : (st.map fun v => (rv G v).category).sum ≤ 8)
    (hst2 : st2 = res2.1.toList ++ st) (kk : Ex G (d + 1) y b nL ret (pc + 3) Ls st2 res2.2 res) : Ex G (d + 1) y b nL ret pc Ls stk M res := by
  refine x_call hx hp hn hc ?_ hst2 kk
  intro p l e R s m args below meth c H locs cells slots ls T0 S0 hC hw hls hsz hM hPc hroom
  have hts := hC.2.2.2.2.1
  have hR := hC.2.2.2.2.2.2.2.2.2.2
  have hsum : ((st.map (rv G)).map fun v => v.category).sum ≤ 8 := by rw [List.map_map]; exact hst
  have hl5 := hc.2.2.2.2
  exact va_runS (g := F0 m pc ls (stk.map (rv G))) (As := av.map (rv G)) (rest := st.map (rv G)) (index := idx) (cells := cells) (slots := slots) (locs := locs) (below := below) (e := e) (meth := meth) (H := H)
    ⟨hC.1, hC.2.1, hC.2.2.1, hC.2.2.2.1, hts⟩ hM (va_cwS n hts (zgood (fun w hw => by
      rcases List.mem_append.mp hw with h | h
      · simp only [List.mem_cons, List.not_mem_nil, or_false] at h
        rcases h with rfl | rfl | rfl
        · exact hlink
        · exact hstat
        · exact hc.2.2.1
      · rcases List.mem_cons.mp h with rfl | h
        · exact hc.2.1
        · exact h)) rfl rfl rfl hc.2.2.2.1 ⟨by show d + 1 + 1 ≤ R.frames; omega, by show 8 + (nL2 + 11) + 64 * (d + 1) ≤ R.locals; omega⟩)
    ⟨zPc_blind, fun U hU hW => hPc U hU hW⟩ rfl (by simpa using hna) hls (by show stk.map (rv G) = _; rw [hs, List.map_append, List.map_reverse]) (lv_room hsum) hd hroom
theorem x_callI {idx n i : Nat} {av : List Value} (hd : decode b pc = .ok (.invokespecial idx, 3)) (hx : Ex G d y2 b2 nL2 none 0 (zent0 (.ref i :: av) nL2) [] M res2) (hp : av.all zpl = true) (hn : (zent1 (.ref i :: av)).length ≤ nL2) (hc : zCal y2 b2 nL2 none n) (hna : av.length = n)
    (hlink : Cond.methodLink y.cls idx y2 ∈ zW) (hinst : Cond.instanceMethod y2 ∈ zW) (hy : y2.name = "<init>") (hi0 : i ≠ 0) (hs : stk = av.reverse ++ .ref i :: st) (hst : (st.map fun v => (rv G v).category).sum ≤ 8)
    (hst2 : st2 = res2.1.toList ++ st) (kk : Ex G (d + 1) y b nL ret (pc + 3) Ls st2 res2.2 res) : Ex G (d + 1) y b nL ret pc Ls stk M res := by
  refine x_call hx (by simp [zpl, hp]) hn hc ?_ hst2 kk
  intro p l e R s m args below meth c H locs cells slots ls T0 S0 hC hw hls hsz hM hPc hroom
  have hts := hC.2.2.2.2.1
  have hR := hC.2.2.2.2.2.2.2.2.2.2
  have hsum : ((st.map (rv G)).map fun v => v.category).sum ≤ 8 := by rw [List.map_map]; exact hst
  have hl5 := hc.2.2.2.2
  have hrun := va_runI (g := F0 m pc ls (stk.map (rv G))) (b := zad G i) (As := av.map (rv G)) (rest := st.map (rv G)) (index := idx) (cells := cells) (slots := slots) (locs := locs) (below := below) (e := e) (meth := meth) (H := H)
    ⟨hC.1, hC.2.1, hC.2.2.1, hC.2.2.2.1, hts⟩ hM (cwI n hts (zgoodc hc.2.1) rfl rfl rfl (hts _ hc.2.2.1) (hts _ hlink) (hts _ hinst) hy hc.2.2.2.1 ⟨by show d + 1 + 1 ≤ R.frames; omega, by show 8 + (nL2 + 11) + 64 * (d + 1) ≤ R.locals; omega⟩)
    ⟨zPc_blind, fun U hU hW => by have := hPc U hU hW; rw [List.map_cons, rv_ref hi0] at this; exact this⟩ rfl (by simpa using hna) hls (by show stk.map (rv G) = _; rw [hs, List.map_append, List.map_cons, rv_ref hi0, List.map_reverse]) (lv_room hsum) hd hroom
  rw [List.map_cons, rv_ref hi0]
  exact hrun
theorem x_callN {idx n i : Nat} {av : List Value} {host : String} (hd : decode b pc = .ok (.invokespecial idx, 3)) (hx : Ex G d y2 b2 nL2 none 0 (zent0 (.ref i :: av) nL2) [] M res2) (hp : av.all zpl = true) (hn : (zent1 (.ref i :: av)).length ≤ nL2) (hc : zCal y2 b2 nL2 none n) (hna : av.length = n)
    (hlink : (y.cls, idx, y2, host) ∈ zNM) (hinst : Cond.instanceMethod y2 ∈ zW) (hy : y2.name = "<init>") (hi0 : i ≠ 0) (hs : stk = av.reverse ++ .ref i :: st) (hst : (st.map fun v => (rv G v).category).sum ≤ 8)
    (hst2 : st2 = res2.1.toList ++ st) (kk : Ex G (d + 1) y b nL ret (pc + 3) Ls st2 res2.2 res) : Ex G (d + 1) y b nL ret pc Ls stk M res := by
  refine x_call hx (by simp [zpl, hp]) hn hc ?_ hst2 kk
  intro p l e R s m args below meth c H locs cells slots ls T0 S0 hC hw hls hsz hM hPc hroom
  have hts := hC.2.2.2.2.1
  have hR := hC.2.2.2.2.2.2.2.2.2.2
  have hsum : ((st.map (rv G)).map fun v => v.category).sum ≤ 8 := by rw [List.map_map]; exact hst
  have hl5 := hc.2.2.2.2
  have hrun := va_runIN (g := F0 m pc ls (stk.map (rv G))) (b := zad G i) (As := av.map (rv G)) (rest := st.map (rv G)) (index := idx) (cells := cells) (slots := slots) (locs := locs) (below := below) (e := e) (meth := meth) (H := H)
    ⟨hC.1, hC.2.1, hC.2.2.1, hC.2.2.2.1, hts⟩ hM ⟨va_cnB n hts (zgoodc hc.2.1) rfl rfl rfl ((zS_of hC).2.2.2.2.2.2.1 _ hlink) (hts _ hc.2.2.1) hc.2.2.2.1 ⟨by show d + 1 + 1 ≤ R.frames; omega, by show 8 + (nL2 + 11) + 64 * (d + 1) ≤ R.locals; omega⟩, hy, hts _ hinst⟩
    ⟨zPc_blind, fun U hU hW => by have := hPc U hU hW; rw [List.map_cons, rv_ref hi0] at this; exact this⟩ rfl (by simpa using hna) hls (by show stk.map (rv G) = _; rw [hs, List.map_append, List.map_cons, rv_ref hi0, List.map_reverse]) (lv_room hsum) hd hroom
  rw [List.map_cons, rv_ref hi0]
  exact hrun
/-! new cells -/
theorem zfresh {q : Nat} {e : va_E} (hD : va_D (zA G) (zwl G M ++ [(q, e)])) (hlt : q < G.1 + M.1 + 1) (hm : M.1 + 1 < 1000) : q = zad G (M.1 + 1) := by
  have hlen : (zwl G M).length = M.1 := by simp [zwl]
  have hl : (zwl G M ++ [(q, e)])[M.1]? = some (q, e) := by rw [List.getElem?_append_right (by omega), hlen, Nat.sub_self]; rfl
  have hA : G.1 ≤ q := hD.2 _ _ hl
  rw [zad_lo hm]
  by_cases hq : q < G.1 + M.1
  · have h0 := zwl_get (G := G) (M := M) (i := q - G.1 + 1) (by omega) (by omega)
    rw [Nat.add_sub_cancel] at h0
    have h1 : (zwl G M ++ [(q, e)])[q - G.1]? = some (zad G (q - G.1 + 1), zent G M (q - G.1 + 1)) := by rw [List.getElem?_append_left (by omega)]; exact h0
    have := hD.1 _ _ _ _ h1 hl (by show zad G _ = q; rw [zad_lo (by omega)]; omega)
    omega
  · omega
end EX5
end
section
section EX6
variable {G : zG} {d : Nat} {y : MethodName} {b : ByteArray} {nL : Nat} {ret : Option FieldType} {pc : Nat} {Ls st : List Value} {M : zM} {res : Option Value × zM}
theorem zent_wN {G : zG} {M : zM} {n j : Nat} (h : j ≤ M.1) : zent G (wN M n) j = zent G M j := zent_cong (by show va_up (mI M) (M.1 + 1) _ j = _; rw [va_up, if_neg (by omega)]) (by show va_up (mR M) (M.1 + 1) _ j = _; rw [va_up, if_neg (by omega)])
theorem mI_wN {M : zM} {n : Nat} : mI (wN M n) (M.1 + 1) = fun _ => 0 := by show va_up (mI M) (M.1 + 1) _ _ = _; rw [va_up, if_pos rfl]
theorem mR_wN {M : zM} {n : Nat} : mR (wN M n) (M.1 + 1) = fun _ => 0 := by show va_up (mR M) (M.1 + 1) _ _ = _; rw [va_up, if_pos rfl]
/-- a step that makes a cell -/
theorem x_mk {pc2 N : Nat} {st0 : List Value} (hm : M.1 + 1 < 1000) (h : ∀ {p : Program} {l : Launch} {e : Env} {R : Room} {s : State} {m : MethodId} {args : Array Value} {below : List Frame} {meth : Method} {c : Code} {H : Heap} {locs : List Loc} {cells slots : Nat} {Q : State → Prop} {ls : Array Slot} {T0 S0 : Nat},
    zCx G d y b nL ret p R s m args meth c T0 S0 → zWd G M H → va_S (zA G) s.heap H locs → cells + 1 ≤ R.cells → slots + N ≤ R.slots →
    (∀ (q : Nat) (e0 : va_E) (H1 : Heap), va_P G.2.1 vwCl (zwl G M ++ [(q, e0)]) H1 → va_D (zA G) (zwl G M ++ [(q, e0)]) → va_S (zA G) s.heap H1 locs → (q = zad G (M.1 + 1) → e0 = zent G (wN M N) (M.1 + 1)) → W p l e R s m args below meth c H1 locs (cells + 1) (slots + N) Q (F0 m pc2 ls (.ref q :: st.map (rv G)))) → W p l e R s m args below meth c H locs cells slots Q (F0 m pc ls (st0.map (rv G))))
    (k : Ex G d y b nL ret pc2 Ls (.ref (M.1 + 1) :: st) (wN M N) res) : Ex G d y b nL ret pc Ls st0 M res := by
  have hb := k.1
  have hb1 : M.1 + 1 ≤ res.2.1 := hb.1
  have hb2 : M.2.1 + N ≤ res.2.2.1 := hb.2
  refine ⟨⟨by omega, by omega⟩, ?_⟩
  intro p l e R s m args below meth c H locs cells slots Q ls T0 S0 hC hw hS hl h1 h2 h3 h4 K
  refine h hC hw hS (by omega) (by omega) (fun q e0 H1 hP hD hS1 he => ?_)
  intro T hT X
  have hu : T.heap.size ≤ s.heap.size + (cells + 1) := X.same.2.2.1
  have hlen : (zwl G M).length = M.1 := by simp [zwl]
  have hq1 : q < H1.size := (hP M.1 (q, e0) (by rw [List.getElem?_append_right (by omega), hlen, Nat.sub_self]; rfl)).lt
  have hs0 := hC.2.2.2.2.2.2.2.2.2.1
  have hq : q = zad G (M.1 + 1) := zfresh hD (by rw [hT] at hu; omega) hm
  have he2 := he hq
  subst hq; subst he2
  rw [zwl_push (fun j hj => zent_wN hj)] at hP
  have := k.2 p l e R s m args below meth c H1 locs (cells + 1) (slots + N) Q ls T0 S0 hC ⟨hP, hw.2.1.wN hm, hm⟩ hS1 hl (by show T0 + (cells + 1) = M.1 + 1; omega) (by show S0 + (slots + N) = M.2.1 + N; omega) h3 h4 K
  rw [List.map_cons, rv_ref (by omega)] at this
  exact this T hT X
def zNk (own : String) (idx ci n : Nat) : Prop := ∃ (C : String) (T : u_T) (ty : Nat → FieldType), vwCl[ci]? = some (C, T, n) ∧ (∀ w ∈ u_ws C T n, w ∈ zW) ∧ (∀ k, k < n → parseFieldDescriptor (T k).2.2.1 = some (ty k)) ∧ ci < 10 ∧ Cond.classLink own idx C ∈ zW ∧ Cond.instantiable C n ∈ zW ∧ Cond.initialized C ∈ zW ∧ ∀ k, k < n → defaultValue (ty k) = if zisr ci k then .null else .int 0
theorem x_new {idx ci N : Nat} (hd : decode b pc = .ok (.new idx, 3)) (hf : zNk y.cls idx ci N) (hs : zsh (M.1 + 1) = (ci, N)) (hm : M.1 + 1 < 1000) (k : Ex G d y b nL ret (pc + 3) Ls (.ref (M.1 + 1) :: st) (wN M N) res) : Ex G d y b nL ret pc Ls st M res := by
  obtain ⟨C, T, ty, f1, f2, f3, f4, f5, f6, f7, f8⟩ := hf
  refine x_mk hm (fun hC hw hS hc hsl w => ?_) k
  have hts := hC.2.2.2.2.1
  refine va_new hC.1 hC.2.1 (fun w h => hts w h) f2 ty f3 hC.2.2.2.1 (hts _ f5) (hts _ f6) (hts _ f7) (zS_of hC).1 hw.1 hw.ad0 hS (fun q hq => by
    have hs0 := hC.2.2.2.2.2.2.2.2.2.1
    show G.1 ≤ q; omega) f1 (fs := (List.range N).map (zfv G (wN M N) (M.1 + 1))) (fun j hj => ?_) hc hsl hd (fun q H1 hP hD hS1 => w q _ H1 hP hD hS1 (fun _ => (zent_o hs f4).symm))
  rw [f8 j hj]
  unfold vp_V
  rw [List.getD_eq_getElem?_getD, List.getElem?_map, List.getElem?_range hj, Option.map_some, Option.getD_some]
  unfold zfv
  rw [hs, mI_wN, mR_wN]
  rfl
theorem zcA {U : State} {cA : ClassId} {ty : FieldType} {G : zG} (hK : va_K G.2.1 vwCl (zty G ++ [(cA, ty)]) U) (i : Nat) {cB : ClassId} (hi : (zty G)[i]? = some (cB, ty)) : cA = cB := by
  have h1 := (hK.2 4 (cA, ty) rfl).2
  have h2 := (hK.2 i (cB, ty) (by rw [List.getElem?_append_left (List.getElem?_eq_some_iff.mp hi).1]; exact hi)).2
  cases ty with
  | object C =>
    obtain ⟨_, _, _, _, _, e1⟩ := h1
    obtain ⟨_, _, _, _, _, e2⟩ := h2
    exact Option.some.inj (e1.symm.trans e2)
  | _ => exact Option.some.inj (Eq.trans (Eq.symm h1) h2)
theorem x_newa {n : Int32} {N : Nat} (hd : decode b pc = .ok (.newarray .int, 2)) (hf : Cond.arrayClass .int ∈ zW) (hs : zsh (M.1 + 1) = (10, N)) (hm : M.1 + 1 < 1000) (hn : ¬ n < 0) (hN : n.toNatClampNeg = N) (hb : N * 4 ≤ 536870912) (k : Ex G d y b nL ret (pc + 2) Ls (.ref (M.1 + 1) :: st) (wN M N) res) : Ex G d y b nL ret pc Ls (.int n :: st) M res := by
  refine x_mk hm (fun hC hw hS hc hsl w => ?_) k
  have hts := hC.2.2.2.2.1
  refine va_newa hC.1 hC.2.1 (atype := .int) (ty := .int) (hts _ hf) rfl (zS_of hC).1 hw.1 hw.ad0 hS (fun q hq => by
    have hs0 := hC.2.2.2.2.2.2.2.2.2.1
    show G.1 ≤ q; omega) (a0 := (N, .inl (mI (wN M N) (M.1 + 1)))) (fun cA => by rw [mI_wN]; rfl) hn hN hb hc hsl hd (fun q cA H1 hK hP hD hS1 => w q _ H1 hP hD hS1 (fun _ => ?_))
  rw [zent_i hs, zcA hK 0 rfl]
theorem x_newz {n : Int32} {N : Nat} (hd : decode b pc = .ok (.newarray .boolean, 2)) (hf : Cond.arrayClass .boolean ∈ zW) (hs : zsh (M.1 + 1) = (11, N)) (hm : M.1 + 1 < 1000) (hn : ¬ n < 0) (hN : n.toNatClampNeg = N) (hb : N * 1 ≤ 536870912) (k : Ex G d y b nL ret (pc + 2) Ls (.ref (M.1 + 1) :: st) (wN M N) res) : Ex G d y b nL ret pc Ls (.int n :: st) M res := by
  refine x_mk hm (fun hC hw hS hc hsl w => ?_) k
  have hts := hC.2.2.2.2.1
  refine va_newa hC.1 hC.2.1 (atype := .boolean) (ty := .boolean) (hts _ hf) rfl (zS_of hC).1 hw.1 hw.ad0 hS (fun q hq => by
    have hs0 := hC.2.2.2.2.2.2.2.2.2.1
    show G.1 ≤ q; omega) (a0 := (N, .inl (mI (wN M N) (M.1 + 1)))) (fun cA => by rw [mI_wN]; rfl) hn hN hb hc hsl hd (fun q cA H1 hK hP hD hS1 => w q _ H1 hP hD hS1 (fun _ => ?_))
  rw [zent_z hs, zcA hK 1 rfl]
theorem x_newqM {idx N : Nat} {n : Int32} (hd : decode b pc = .ok (.anewarray idx, 3)) (hf : Cond.classLink y.cls idx "WordRation$Image" ∈ zW) (hs : zsh (M.1 + 1) = (12, N)) (hm : M.1 + 1 < 1000) (hn : ¬ n < 0) (hN : n.toNatClampNeg = N) (hb : N * 4 ≤ 536870912) (k : Ex G d y b nL ret (pc + 3) Ls (.ref (M.1 + 1) :: st) (wN M N) res) : Ex G d y b nL ret pc Ls (.int n :: st) M res := by
  refine x_mk hm (fun hC hw hS hc hsl w => ?_) k
  have hts := hC.2.2.2.2.1
  refine va_newq hC.1 hC.2.1 (C := "WordRation$Image") hC.2.2.2.1 (hts _ hf) (zS_of hC).2.2.2.2.2.2.2.2.2.1 (zS_of hC).1 hw.1 hw.ad0 hS (fun q hq => by
    have hs0 := hC.2.2.2.2.2.2.2.2.2.1
    show G.1 ≤ q; omega) hn hN hb hc hsl hd (fun q cA H1 hK hP hD hS1 => w q _ H1 hP hD hS1 (fun _ => ?_))
  rw [zent_m hs, zcA hK 2 rfl, mR_wN]
  rfl
theorem x_newqS {idx N : Nat} {n : Int32} (hd : decode b pc = .ok (.anewarray idx, 3)) (hf : Cond.classLink y.cls idx "WordRation$State" ∈ zW) (hs : zsh (M.1 + 1) = (13, N)) (hm : M.1 + 1 < 1000) (hn : ¬ n < 0) (hN : n.toNatClampNeg = N) (hb : N * 4 ≤ 536870912) (k : Ex G d y b nL ret (pc + 3) Ls (.ref (M.1 + 1) :: st) (wN M N) res) : Ex G d y b nL ret pc Ls (.int n :: st) M res := by
  refine x_mk hm (fun hC hw hS hc hsl w => ?_) k
  have hts := hC.2.2.2.2.1
  refine va_newq hC.1 hC.2.1 (C := "WordRation$State") hC.2.2.2.1 (hts _ hf) (zS_of hC).2.2.2.2.2.2.2.2.2.2 (zS_of hC).1 hw.1 hw.ad0 hS (fun q hq => by
    have hs0 := hC.2.2.2.2.2.2.2.2.2.1
    show G.1 ≤ q; omega) hn hN hb hc hsl hd (fun q cA H1 hK hP hD hS1 => w q _ H1 hP hD hS1 (fun _ => ?_))
  rw [zent_s hs, zcA hK 3 rfl, mR_wN]
  rfl
end EX6
end
