section
-- ===== PART A: goes FIRST, ahead of the names: the tables' words, and 'selects' of the private methods out of them =====
/-- a private method of a class that the tables say can be made, by its rows of tables_1 -/
def lw_okq (q : MethodName × Nat) : Prop := (q.1.cls ≠ "java/lang/invoke/MethodHandle" ∧ q.1.cls ≠ "java/lang/invoke/VarHandle") ∧ Cond.instantiable q.1.cls q.2 ∈ tables_1 ∧ Cond.privateMethod q.1 ∈ tables_1 ∧ Cond.instanceMethod q.1 ∈ tables_1
theorem lw_p0 : lw_okq (⟨"WordRation$Text", "skipBlanks", "()V"⟩, 6) := ⟨⟨by decide +kernel, by decide +kernel⟩, List.mem_of_getElem? (i := 23) (by decide +kernel), List.mem_of_getElem? (i := 359) (by decide +kernel), List.mem_of_getElem? (i := 360) (by decide +kernel)⟩
theorem lw_p1 : lw_okq (⟨"WordRation$Text", "readClause", "(LWordRation$Town;)V"⟩, 6) := ⟨⟨by decide +kernel, by decide +kernel⟩, List.mem_of_getElem? (i := 23) (by decide +kernel), List.mem_of_getElem? (i := 363) (by decide +kernel), List.mem_of_getElem? (i := 364) (by decide +kernel)⟩
theorem lw_p2 : lw_okq (⟨"WordRation$Text", "letterHere", "()I"⟩, 6) := ⟨⟨by decide +kernel, by decide +kernel⟩, List.mem_of_getElem? (i := 23) (by decide +kernel), List.mem_of_getElem? (i := 367) (by decide +kernel), List.mem_of_getElem? (i := 368) (by decide +kernel)⟩
theorem lw_p3 : lw_okq (⟨"WordRation$Text", "faultOfName", "(LWordRation$Town;I)I"⟩, 6) := ⟨⟨by decide +kernel, by decide +kernel⟩, List.mem_of_getElem? (i := 23) (by decide +kernel), List.mem_of_getElem? (i := 371) (by decide +kernel), List.mem_of_getElem? (i := 372) (by decide +kernel)⟩
theorem lw_p4 : lw_okq (⟨"WordRation$Text", "blame", "(II)V"⟩, 6) := ⟨⟨by decide +kernel, by decide +kernel⟩, List.mem_of_getElem? (i := 23) (by decide +kernel), List.mem_of_getElem? (i := 375) (by decide +kernel), List.mem_of_getElem? (i := 376) (by decide +kernel)⟩
theorem lw_p5 : lw_okq (⟨"WordRation$Text", "readNumber", "(II)I"⟩, 6) := ⟨⟨by decide +kernel, by decide +kernel⟩, List.mem_of_getElem? (i := 23) (by decide +kernel), List.mem_of_getElem? (i := 379) (by decide +kernel), List.mem_of_getElem? (i := 380) (by decide +kernel)⟩
theorem lw_p6 : lw_okq (⟨"WordRation$Text", "readWord", "(LWordRation$Town;)V"⟩, 6) := ⟨⟨by decide +kernel, by decide +kernel⟩, List.mem_of_getElem? (i := 23) (by decide +kernel), List.mem_of_getElem? (i := 386) (by decide +kernel), List.mem_of_getElem? (i := 387) (by decide +kernel)⟩
theorem lw_p7 : lw_okq (⟨"WordRation$Text", "readWay", "(LWordRation$Town;)V"⟩, 6) := ⟨⟨by decide +kernel, by decide +kernel⟩, List.mem_of_getElem? (i := 23) (by decide +kernel), List.mem_of_getElem? (i := 394) (by decide +kernel), List.mem_of_getElem? (i := 395) (by decide +kernel)⟩
theorem lw_p8 : lw_okq (⟨"WordRation$Text", "readPointing", "(LWordRation$Town;)V"⟩, 6) := ⟨⟨by decide +kernel, by decide +kernel⟩, List.mem_of_getElem? (i := 23) (by decide +kernel), List.mem_of_getElem? (i := 406) (by decide +kernel), List.mem_of_getElem? (i := 407) (by decide +kernel)⟩
theorem lw_p9 : lw_okq (⟨"WordRation$Text", "readNeed", "(LWordRation$Town;)V"⟩, 6) := ⟨⟨by decide +kernel, by decide +kernel⟩, List.mem_of_getElem? (i := 23) (by decide +kernel), List.mem_of_getElem? (i := 418) (by decide +kernel), List.mem_of_getElem? (i := 419) (by decide +kernel)⟩
theorem lw_p10 : lw_okq (⟨"WordRation$State", "beginYear", "()V"⟩, 9) := ⟨⟨by decide +kernel, by decide +kernel⟩, List.mem_of_getElem? (i := 132) (by decide +kernel), List.mem_of_getElem? (i := 434) (by decide +kernel), List.mem_of_getElem? (i := 435) (by decide +kernel)⟩
theorem lw_p11 : lw_okq (⟨"WordRation", "today", "()I"⟩, 13) := ⟨⟨by decide +kernel, by decide +kernel⟩, List.mem_of_getElem? (i := 15) (by decide +kernel), List.mem_of_getElem? (i := 458) (by decide +kernel), List.mem_of_getElem? (i := 459) (by decide +kernel)⟩
theorem lw_p12 : lw_okq (⟨"WordRation", "neverSaid", "()I"⟩, 13) := ⟨⟨by decide +kernel, by decide +kernel⟩, List.mem_of_getElem? (i := 15) (by decide +kernel), List.mem_of_getElem? (i := 466) (by decide +kernel), List.mem_of_getElem? (i := 467) (by decide +kernel)⟩
theorem lw_p13 : lw_okq (⟨"WordRation", "isWord", "(I)Z"⟩, 13) := ⟨⟨by decide +kernel, by decide +kernel⟩, List.mem_of_getElem? (i := 15) (by decide +kernel), List.mem_of_getElem? (i := 474) (by decide +kernel), List.mem_of_getElem? (i := 475) (by decide +kernel)⟩
theorem lw_p14 : lw_okq (⟨"WordRation", "isPerson", "(I)Z"⟩, 13) := ⟨⟨by decide +kernel, by decide +kernel⟩, List.mem_of_getElem? (i := 15) (by decide +kernel), List.mem_of_getElem? (i := 493) (by decide +kernel), List.mem_of_getElem? (i := 494) (by decide +kernel)⟩
theorem lw_p15 : lw_okq (⟨"WordRation", "isNeed", "(I)Z"⟩, 13) := ⟨⟨by decide +kernel, by decide +kernel⟩, List.mem_of_getElem? (i := 15) (by decide +kernel), List.mem_of_getElem? (i := 502) (by decide +kernel), List.mem_of_getElem? (i := 503) (by decide +kernel)⟩
def lw_privs_1 : List (MethodName × Nat) := [(⟨"WordRation$Text", "skipBlanks", "()V"⟩, 6), (⟨"WordRation$Text", "readClause", "(LWordRation$Town;)V"⟩, 6), (⟨"WordRation$Text", "letterHere", "()I"⟩, 6), (⟨"WordRation$Text", "faultOfName", "(LWordRation$Town;I)I"⟩, 6), (⟨"WordRation$Text", "blame", "(II)V"⟩, 6), (⟨"WordRation$Text", "readNumber", "(II)I"⟩, 6), (⟨"WordRation$Text", "readWord", "(LWordRation$Town;)V"⟩, 6), (⟨"WordRation$Text", "readWay", "(LWordRation$Town;)V"⟩, 6), (⟨"WordRation$Text", "readPointing", "(LWordRation$Town;)V"⟩, 6), (⟨"WordRation$Text", "readNeed", "(LWordRation$Town;)V"⟩, 6), (⟨"WordRation$State", "beginYear", "()V"⟩, 9), (⟨"WordRation", "today", "()I"⟩, 13), (⟨"WordRation", "neverSaid", "()I"⟩, 13), (⟨"WordRation", "isWord", "(I)Z"⟩, 13), (⟨"WordRation", "isPerson", "(I)Z"⟩, 13), (⟨"WordRation", "isNeed", "(I)Z"⟩, 13)]
theorem lw_r1 : ∀ q ∈ lw_privs_1, lw_okq q := List.forall_mem_cons.mpr ⟨lw_p0, List.forall_mem_cons.mpr ⟨lw_p1, List.forall_mem_cons.mpr ⟨lw_p2, List.forall_mem_cons.mpr ⟨lw_p3, List.forall_mem_cons.mpr ⟨lw_p4, List.forall_mem_cons.mpr ⟨lw_p5, List.forall_mem_cons.mpr ⟨lw_p6, List.forall_mem_cons.mpr ⟨lw_p7, List.forall_mem_cons.mpr ⟨lw_p8, List.forall_mem_cons.mpr ⟨lw_p9, List.forall_mem_cons.mpr ⟨lw_p10, List.forall_mem_cons.mpr ⟨lw_p11, List.forall_mem_cons.mpr ⟨lw_p12, List.forall_mem_cons.mpr ⟨lw_p13, List.forall_mem_cons.mpr ⟨lw_p14, List.forall_mem_cons.mpr ⟨lw_p15, fun _ h => absurd h List.not_mem_nil⟩⟩⟩⟩⟩⟩⟩⟩⟩⟩⟩⟩⟩⟩⟩⟩
theorem lw_p16 : lw_okq (⟨"WordRation", "refusalOfDays", "(I)I"⟩, 13) := ⟨⟨by decide +kernel, by decide +kernel⟩, List.mem_of_getElem? (i := 15) (by decide +kernel), List.mem_of_getElem? (i := 514) (by decide +kernel), List.mem_of_getElem? (i := 515) (by decide +kernel)⟩
theorem lw_p17 : lw_okq (⟨"WordRation$State", "meetOrLose", "(LWordRation$Town;I)V"⟩, 9) := ⟨⟨by decide +kernel, by decide +kernel⟩, List.mem_of_getElem? (i := 132) (by decide +kernel), List.mem_of_getElem? (i := 536) (by decide +kernel), List.mem_of_getElem? (i := 537) (by decide +kernel)⟩
theorem lw_p18 : lw_okq (⟨"WordRation$State", "meets", "(LWordRation$Town;II)Z"⟩, 9) := ⟨⟨by decide +kernel, by decide +kernel⟩, List.mem_of_getElem? (i := 132) (by decide +kernel), List.mem_of_getElem? (i := 540) (by decide +kernel), List.mem_of_getElem? (i := 541) (by decide +kernel)⟩
theorem lw_p19 : lw_okq (⟨"WordRation", "doByDraws", "()V"⟩, 13) := ⟨⟨by decide +kernel, by decide +kernel⟩, List.mem_of_getElem? (i := 15) (by decide +kernel), List.mem_of_getElem? (i := 618) (by decide +kernel), List.mem_of_getElem? (i := 619) (by decide +kernel)⟩
theorem lw_p20 : lw_okq (⟨"WordRation", "drawOf", "(I)I"⟩, 13) := ⟨⟨by decide +kernel, by decide +kernel⟩, List.mem_of_getElem? (i := 15) (by decide +kernel), List.mem_of_getElem? (i := 622) (by decide +kernel), List.mem_of_getElem? (i := 623) (by decide +kernel)⟩
theorem lw_p21 : lw_okq (⟨"WordRation", "workOutCheap", "(I)V"⟩, 13) := ⟨⟨by decide +kernel, by decide +kernel⟩, List.mem_of_getElem? (i := 15) (by decide +kernel), List.mem_of_getElem? (i := 642) (by decide +kernel), List.mem_of_getElem? (i := 643) (by decide +kernel)⟩
theorem lw_p22 : lw_okq (⟨"WordRation", "costBy", "(III)I"⟩, 13) := ⟨⟨by decide +kernel, by decide +kernel⟩, List.mem_of_getElem? (i := 15) (by decide +kernel), List.mem_of_getElem? (i := 646) (by decide +kernel), List.mem_of_getElem? (i := 647) (by decide +kernel)⟩
theorem lw_p23 : lw_okq (⟨"WordRation", "cheapTogether", "(I)I"⟩, 13) := ⟨⟨by decide +kernel, by decide +kernel⟩, List.mem_of_getElem? (i := 15) (by decide +kernel), List.mem_of_getElem? (i := 650) (by decide +kernel), List.mem_of_getElem? (i := 651) (by decide +kernel)⟩
theorem lw_p24 : lw_okq (⟨"WordRation", "cheapestKind", "(II)I"⟩, 13) := ⟨⟨by decide +kernel, by decide +kernel⟩, List.mem_of_getElem? (i := 15) (by decide +kernel), List.mem_of_getElem? (i := 654) (by decide +kernel), List.mem_of_getElem? (i := 655) (by decide +kernel)⟩
theorem lw_p25 : lw_okq (⟨"WordRation$Plan", "gather", "(LWordRation$Town;LWordRation$State;)V"⟩, 10) := ⟨⟨by decide +kernel, by decide +kernel⟩, List.mem_of_getElem? (i := 198) (by decide +kernel), List.mem_of_getElem? (i := 675) (by decide +kernel), List.mem_of_getElem? (i := 676) (by decide +kernel)⟩
theorem lw_p26 : lw_okq (⟨"WordRation$Plan", "gatherUses", "(LWordRation$Town;I)V"⟩, 10) := ⟨⟨by decide +kernel, by decide +kernel⟩, List.mem_of_getElem? (i := 198) (by decide +kernel), List.mem_of_getElem? (i := 686) (by decide +kernel), List.mem_of_getElem? (i := 687) (by decide +kernel)⟩
theorem lw_p27 : lw_okq (⟨"WordRation$Plan", "mayBeBetter", "(II)Z"⟩, 10) := ⟨⟨by decide +kernel, by decide +kernel⟩, List.mem_of_getElem? (i := 198) (by decide +kernel), List.mem_of_getElem? (i := 697) (by decide +kernel), List.mem_of_getElem? (i := 698) (by decide +kernel)⟩
theorem lw_p28 : lw_okq (⟨"WordRation$Plan", "take", "(II)V"⟩, 10) := ⟨⟨by decide +kernel, by decide +kernel⟩, List.mem_of_getElem? (i := 198) (by decide +kernel), List.mem_of_getElem? (i := 701) (by decide +kernel), List.mem_of_getElem? (i := 702) (by decide +kernel)⟩
theorem lw_p29 : lw_okq (⟨"WordRation$Plan", "affords", "(I)Z"⟩, 10) := ⟨⟨by decide +kernel, by decide +kernel⟩, List.mem_of_getElem? (i := 198) (by decide +kernel), List.mem_of_getElem? (i := 706) (by decide +kernel), List.mem_of_getElem? (i := 707) (by decide +kernel)⟩
theorem lw_p30 : lw_okq (⟨"WordRation$Plan", "change", "(II)V"⟩, 10) := ⟨⟨by decide +kernel, by decide +kernel⟩, List.mem_of_getElem? (i := 198) (by decide +kernel), List.mem_of_getElem? (i := 710) (by decide +kernel), List.mem_of_getElem? (i := 711) (by decide +kernel)⟩
theorem lw_p31 : lw_okq (⟨"WordRation", "isToComeOf", "(II)Z"⟩, 13) := ⟨⟨by decide +kernel, by decide +kernel⟩, List.mem_of_getElem? (i := 15) (by decide +kernel), List.mem_of_getElem? (i := 731) (by decide +kernel), List.mem_of_getElem? (i := 732) (by decide +kernel)⟩
def lw_privs_2 : List (MethodName × Nat) := [(⟨"WordRation", "refusalOfDays", "(I)I"⟩, 13), (⟨"WordRation$State", "meetOrLose", "(LWordRation$Town;I)V"⟩, 9), (⟨"WordRation$State", "meets", "(LWordRation$Town;II)Z"⟩, 9), (⟨"WordRation", "doByDraws", "()V"⟩, 13), (⟨"WordRation", "drawOf", "(I)I"⟩, 13), (⟨"WordRation", "workOutCheap", "(I)V"⟩, 13), (⟨"WordRation", "costBy", "(III)I"⟩, 13), (⟨"WordRation", "cheapTogether", "(I)I"⟩, 13), (⟨"WordRation", "cheapestKind", "(II)I"⟩, 13), (⟨"WordRation$Plan", "gather", "(LWordRation$Town;LWordRation$State;)V"⟩, 10), (⟨"WordRation$Plan", "gatherUses", "(LWordRation$Town;I)V"⟩, 10), (⟨"WordRation$Plan", "mayBeBetter", "(II)Z"⟩, 10), (⟨"WordRation$Plan", "take", "(II)V"⟩, 10), (⟨"WordRation$Plan", "affords", "(I)Z"⟩, 10), (⟨"WordRation$Plan", "change", "(II)V"⟩, 10), (⟨"WordRation", "isToComeOf", "(II)Z"⟩, 13)]
theorem lw_r2 : ∀ q ∈ lw_privs_2, lw_okq q := List.forall_mem_cons.mpr ⟨lw_p16, List.forall_mem_cons.mpr ⟨lw_p17, List.forall_mem_cons.mpr ⟨lw_p18, List.forall_mem_cons.mpr ⟨lw_p19, List.forall_mem_cons.mpr ⟨lw_p20, List.forall_mem_cons.mpr ⟨lw_p21, List.forall_mem_cons.mpr ⟨lw_p22, List.forall_mem_cons.mpr ⟨lw_p23, List.forall_mem_cons.mpr ⟨lw_p24, List.forall_mem_cons.mpr ⟨lw_p25, List.forall_mem_cons.mpr ⟨lw_p26, List.forall_mem_cons.mpr ⟨lw_p27, List.forall_mem_cons.mpr ⟨lw_p28, List.forall_mem_cons.mpr ⟨lw_p29, List.forall_mem_cons.mpr ⟨lw_p30, List.forall_mem_cons.mpr ⟨lw_p31, fun _ h => absurd h List.not_mem_nil⟩⟩⟩⟩⟩⟩⟩⟩⟩⟩⟩⟩⟩⟩⟩⟩
theorem lw_p32 : lw_okq (⟨"WordRation", "rankByWorth", "(II)I"⟩, 13) := ⟨⟨by decide +kernel, by decide +kernel⟩, List.mem_of_getElem? (i := 15) (by decide +kernel), List.mem_of_getElem? (i := 735) (by decide +kernel), List.mem_of_getElem? (i := 736) (by decide +kernel)⟩
theorem lw_p33 : lw_okq (⟨"WordRation", "wouldSell", "(III)Z"⟩, 13) := ⟨⟨by decide +kernel, by decide +kernel⟩, List.mem_of_getElem? (i := 15) (by decide +kernel), List.mem_of_getElem? (i := 743) (by decide +kernel), List.mem_of_getElem? (i := 744) (by decide +kernel)⟩
theorem lw_p34 : lw_okq (⟨"WordRation", "needsToCome", "(II)I"⟩, 13) := ⟨⟨by decide +kernel, by decide +kernel⟩, List.mem_of_getElem? (i := 15) (by decide +kernel), List.mem_of_getElem? (i := 747) (by decide +kernel), List.mem_of_getElem? (i := 748) (by decide +kernel)⟩
theorem lw_p35 : lw_okq (⟨"WordRation$Knots", "fits", "(LWordRation$Town;I)Z"⟩, 4) := ⟨⟨by decide +kernel, by decide +kernel⟩, List.mem_of_getElem? (i := 237) (by decide +kernel), List.mem_of_getElem? (i := 795) (by decide +kernel), List.mem_of_getElem? (i := 796) (by decide +kernel)⟩
theorem lw_p36 : lw_okq (⟨"WordRation", "greatestPart", "(III)I"⟩, 13) := ⟨⟨by decide +kernel, by decide +kernel⟩, List.mem_of_getElem? (i := 15) (by decide +kernel), List.mem_of_getElem? (i := 808) (by decide +kernel), List.mem_of_getElem? (i := 809) (by decide +kernel)⟩
theorem lw_p37 : lw_okq (⟨"WordRationModel", "readAll", "()V"⟩, 58) := ⟨⟨by decide +kernel, by decide +kernel⟩, List.mem_of_getElem? (i := 845) (by decide +kernel), List.mem_of_getElem? (i := 1040) (by decide +kernel), List.mem_of_getElem? (i := 1041) (by decide +kernel)⟩
theorem lw_p38 : lw_okq (⟨"WordRationModel", "letterNow", "()I"⟩, 58) := ⟨⟨by decide +kernel, by decide +kernel⟩, List.mem_of_getElem? (i := 845) (by decide +kernel), List.mem_of_getElem? (i := 1044) (by decide +kernel), List.mem_of_getElem? (i := 1045) (by decide +kernel)⟩
theorem lw_p39 : lw_okq (⟨"WordRationModel", "readClause", "(I)V"⟩, 58) := ⟨⟨by decide +kernel, by decide +kernel⟩, List.mem_of_getElem? (i := 845) (by decide +kernel), List.mem_of_getElem? (i := 1048) (by decide +kernel), List.mem_of_getElem? (i := 1049) (by decide +kernel)⟩
theorem lw_p40 : lw_okq (⟨"WordRationModel", "bad", "(II)V"⟩, 58) := ⟨⟨by decide +kernel, by decide +kernel⟩, List.mem_of_getElem? (i := 845) (by decide +kernel), List.mem_of_getElem? (i := 1052) (by decide +kernel), List.mem_of_getElem? (i := 1053) (by decide +kernel)⟩
theorem lw_p41 : lw_okq (⟨"WordRationModel", "readYear", "()V"⟩, 58) := ⟨⟨by decide +kernel, by decide +kernel⟩, List.mem_of_getElem? (i := 845) (by decide +kernel), List.mem_of_getElem? (i := 1056) (by decide +kernel), List.mem_of_getElem? (i := 1057) (by decide +kernel)⟩
theorem lw_p42 : lw_okq (⟨"WordRationModel", "number", "(II)I"⟩, 58) := ⟨⟨by decide +kernel, by decide +kernel⟩, List.mem_of_getElem? (i := 845) (by decide +kernel), List.mem_of_getElem? (i := 1060) (by decide +kernel), List.mem_of_getElem? (i := 1061) (by decide +kernel)⟩
theorem lw_p43 : lw_okq (⟨"WordRationModel", "end", "()V"⟩, 58) := ⟨⟨by decide +kernel, by decide +kernel⟩, List.mem_of_getElem? (i := 845) (by decide +kernel), List.mem_of_getElem? (i := 1067) (by decide +kernel), List.mem_of_getElem? (i := 1068) (by decide +kernel)⟩
theorem lw_p44 : lw_okq (⟨"WordRationModel", "readWord", "()V"⟩, 58) := ⟨⟨by decide +kernel, by decide +kernel⟩, List.mem_of_getElem? (i := 845) (by decide +kernel), List.mem_of_getElem? (i := 1071) (by decide +kernel), List.mem_of_getElem? (i := 1072) (by decide +kernel)⟩
theorem lw_p45 : lw_okq (⟨"WordRationModel", "readWay", "()V"⟩, 58) := ⟨⟨by decide +kernel, by decide +kernel⟩, List.mem_of_getElem? (i := 845) (by decide +kernel), List.mem_of_getElem? (i := 1075) (by decide +kernel), List.mem_of_getElem? (i := 1076) (by decide +kernel)⟩
theorem lw_p46 : lw_okq (⟨"WordRationModel", "wordTold", "()I"⟩, 58) := ⟨⟨by decide +kernel, by decide +kernel⟩, List.mem_of_getElem? (i := 845) (by decide +kernel), List.mem_of_getElem? (i := 1079) (by decide +kernel), List.mem_of_getElem? (i := 1080) (by decide +kernel)⟩
theorem lw_p47 : lw_okq (⟨"WordRationModel", "readPointing", "()V"⟩, 58) := ⟨⟨by decide +kernel, by decide +kernel⟩, List.mem_of_getElem? (i := 845) (by decide +kernel), List.mem_of_getElem? (i := 1086) (by decide +kernel), List.mem_of_getElem? (i := 1087) (by decide +kernel)⟩
def lw_privs_3 : List (MethodName × Nat) := [(⟨"WordRation", "rankByWorth", "(II)I"⟩, 13), (⟨"WordRation", "wouldSell", "(III)Z"⟩, 13), (⟨"WordRation", "needsToCome", "(II)I"⟩, 13), (⟨"WordRation$Knots", "fits", "(LWordRation$Town;I)Z"⟩, 4), (⟨"WordRation", "greatestPart", "(III)I"⟩, 13), (⟨"WordRationModel", "readAll", "()V"⟩, 58), (⟨"WordRationModel", "letterNow", "()I"⟩, 58), (⟨"WordRationModel", "readClause", "(I)V"⟩, 58), (⟨"WordRationModel", "bad", "(II)V"⟩, 58), (⟨"WordRationModel", "readYear", "()V"⟩, 58), (⟨"WordRationModel", "number", "(II)I"⟩, 58), (⟨"WordRationModel", "end", "()V"⟩, 58), (⟨"WordRationModel", "readWord", "()V"⟩, 58), (⟨"WordRationModel", "readWay", "()V"⟩, 58), (⟨"WordRationModel", "wordTold", "()I"⟩, 58), (⟨"WordRationModel", "readPointing", "()V"⟩, 58)]
theorem lw_r3 : ∀ q ∈ lw_privs_3, lw_okq q := List.forall_mem_cons.mpr ⟨lw_p32, List.forall_mem_cons.mpr ⟨lw_p33, List.forall_mem_cons.mpr ⟨lw_p34, List.forall_mem_cons.mpr ⟨lw_p35, List.forall_mem_cons.mpr ⟨lw_p36, List.forall_mem_cons.mpr ⟨lw_p37, List.forall_mem_cons.mpr ⟨lw_p38, List.forall_mem_cons.mpr ⟨lw_p39, List.forall_mem_cons.mpr ⟨lw_p40, List.forall_mem_cons.mpr ⟨lw_p41, List.forall_mem_cons.mpr ⟨lw_p42, List.forall_mem_cons.mpr ⟨lw_p43, List.forall_mem_cons.mpr ⟨lw_p44, List.forall_mem_cons.mpr ⟨lw_p45, List.forall_mem_cons.mpr ⟨lw_p46, List.forall_mem_cons.mpr ⟨lw_p47, fun _ h => absurd h List.not_mem_nil⟩⟩⟩⟩⟩⟩⟩⟩⟩⟩⟩⟩⟩⟩⟩⟩
theorem lw_p48 : lw_okq (⟨"WordRationModel", "readPerson", "()V"⟩, 58) := ⟨⟨by decide +kernel, by decide +kernel⟩, List.mem_of_getElem? (i := 845) (by decide +kernel), List.mem_of_getElem? (i := 1090) (by decide +kernel), List.mem_of_getElem? (i := 1091) (by decide +kernel)⟩
theorem lw_p49 : lw_okq (⟨"WordRationModel", "readNeed", "()V"⟩, 58) := ⟨⟨by decide +kernel, by decide +kernel⟩, List.mem_of_getElem? (i := 845) (by decide +kernel), List.mem_of_getElem? (i := 1094) (by decide +kernel), List.mem_of_getElem? (i := 1095) (by decide +kernel)⟩
theorem lw_p50 : lw_okq (⟨"WordRationModel", "dayNow", "()I"⟩, 58) := ⟨⟨by decide +kernel, by decide +kernel⟩, List.mem_of_getElem? (i := 845) (by decide +kernel), List.mem_of_getElem? (i := 1106) (by decide +kernel), List.mem_of_getElem? (i := 1107) (by decide +kernel)⟩
theorem lw_p51 : lw_okq (⟨"WordRationModel", "isWord", "(I)Z"⟩, 58) := ⟨⟨by decide +kernel, by decide +kernel⟩, List.mem_of_getElem? (i := 845) (by decide +kernel), List.mem_of_getElem? (i := 1114) (by decide +kernel), List.mem_of_getElem? (i := 1115) (by decide +kernel)⟩
theorem lw_p52 : lw_okq (⟨"WordRationModel", "hoardedOf", "([II)I"⟩, 58) := ⟨⟨by decide +kernel, by decide +kernel⟩, List.mem_of_getElem? (i := 845) (by decide +kernel), List.mem_of_getElem? (i := 1119) (by decide +kernel), List.mem_of_getElem? (i := 1120) (by decide +kernel)⟩
theorem lw_p53 : lw_okq (⟨"WordRationModel", "isPerson", "(I)Z"⟩, 58) := ⟨⟨by decide +kernel, by decide +kernel⟩, List.mem_of_getElem? (i := 845) (by decide +kernel), List.mem_of_getElem? (i := 1127) (by decide +kernel), List.mem_of_getElem? (i := 1128) (by decide +kernel)⟩
theorem lw_p54 : lw_okq (⟨"WordRationModel", "isNeed", "(I)Z"⟩, 58) := ⟨⟨by decide +kernel, by decide +kernel⟩, List.mem_of_getElem? (i := 845) (by decide +kernel), List.mem_of_getElem? (i := 1135) (by decide +kernel), List.mem_of_getElem? (i := 1136) (by decide +kernel)⟩
theorem lw_p55 : lw_okq (⟨"WordRationModel", "isToCome", "(I)Z"⟩, 58) := ⟨⟨by decide +kernel, by decide +kernel⟩, List.mem_of_getElem? (i := 845) (by decide +kernel), List.mem_of_getElem? (i := 1140) (by decide +kernel), List.mem_of_getElem? (i := 1141) (by decide +kernel)⟩
theorem lw_p56 : lw_okq (⟨"WordRationModel", "dayOf", "(I)I"⟩, 58) := ⟨⟨by decide +kernel, by decide +kernel⟩, List.mem_of_getElem? (i := 845) (by decide +kernel), List.mem_of_getElem? (i := 1144) (by decide +kernel), List.mem_of_getElem? (i := 1145) (by decide +kernel)⟩
theorem lw_p57 : lw_okq (⟨"WordRationModel", "keepAct", "()V"⟩, 58) := ⟨⟨by decide +kernel, by decide +kernel⟩, List.mem_of_getElem? (i := 845) (by decide +kernel), List.mem_of_getElem? (i := 1154) (by decide +kernel), List.mem_of_getElem? (i := 1155) (by decide +kernel)⟩
theorem lw_p58 : lw_okq (⟨"WordRationModel", "goOn", "([I)I"⟩, 58) := ⟨⟨by decide +kernel, by decide +kernel⟩, List.mem_of_getElem? (i := 845) (by decide +kernel), List.mem_of_getElem? (i := 1158) (by decide +kernel), List.mem_of_getElem? (i := 1159) (by decide +kernel)⟩
theorem lw_p59 : lw_okq (⟨"WordRationModel", "meets", "([II)Z"⟩, 58) := ⟨⟨by decide +kernel, by decide +kernel⟩, List.mem_of_getElem? (i := 845) (by decide +kernel), List.mem_of_getElem? (i := 1162) (by decide +kernel), List.mem_of_getElem? (i := 1163) (by decide +kernel)⟩
theorem lw_p60 : lw_okq (⟨"WordRationModel", "person", "(I)I"⟩, 58) := ⟨⟨by decide +kernel, by decide +kernel⟩, List.mem_of_getElem? (i := 845) (by decide +kernel), List.mem_of_getElem? (i := 1166) (by decide +kernel), List.mem_of_getElem? (i := 1167) (by decide +kernel)⟩
theorem lw_p61 : lw_okq (⟨"WordRationModel", "wordOf", "(I)I"⟩, 58) := ⟨⟨by decide +kernel, by decide +kernel⟩, List.mem_of_getElem? (i := 845) (by decide +kernel), List.mem_of_getElem? (i := 1170) (by decide +kernel), List.mem_of_getElem? (i := 1171) (by decide +kernel)⟩
theorem lw_p62 : lw_okq (⟨"WordRationModel", "worthOf", "(I)I"⟩, 58) := ⟨⟨by decide +kernel, by decide +kernel⟩, List.mem_of_getElem? (i := 845) (by decide +kernel), List.mem_of_getElem? (i := 1190) (by decide +kernel), List.mem_of_getElem? (i := 1191) (by decide +kernel)⟩
theorem lw_p63 : lw_okq (⟨"WordRationModel", "drawn", "()V"⟩, 58) := ⟨⟨by decide +kernel, by decide +kernel⟩, List.mem_of_getElem? (i := 845) (by decide +kernel), List.mem_of_getElem? (i := 1223) (by decide +kernel), List.mem_of_getElem? (i := 1224) (by decide +kernel)⟩
def lw_privs_4 : List (MethodName × Nat) := [(⟨"WordRationModel", "readPerson", "()V"⟩, 58), (⟨"WordRationModel", "readNeed", "()V"⟩, 58), (⟨"WordRationModel", "dayNow", "()I"⟩, 58), (⟨"WordRationModel", "isWord", "(I)Z"⟩, 58), (⟨"WordRationModel", "hoardedOf", "([II)I"⟩, 58), (⟨"WordRationModel", "isPerson", "(I)Z"⟩, 58), (⟨"WordRationModel", "isNeed", "(I)Z"⟩, 58), (⟨"WordRationModel", "isToCome", "(I)Z"⟩, 58), (⟨"WordRationModel", "dayOf", "(I)I"⟩, 58), (⟨"WordRationModel", "keepAct", "()V"⟩, 58), (⟨"WordRationModel", "goOn", "([I)I"⟩, 58), (⟨"WordRationModel", "meets", "([II)Z"⟩, 58), (⟨"WordRationModel", "person", "(I)I"⟩, 58), (⟨"WordRationModel", "wordOf", "(I)I"⟩, 58), (⟨"WordRationModel", "worthOf", "(I)I"⟩, 58), (⟨"WordRationModel", "drawn", "()V"⟩, 58)]
theorem lw_r4 : ∀ q ∈ lw_privs_4, lw_okq q := List.forall_mem_cons.mpr ⟨lw_p48, List.forall_mem_cons.mpr ⟨lw_p49, List.forall_mem_cons.mpr ⟨lw_p50, List.forall_mem_cons.mpr ⟨lw_p51, List.forall_mem_cons.mpr ⟨lw_p52, List.forall_mem_cons.mpr ⟨lw_p53, List.forall_mem_cons.mpr ⟨lw_p54, List.forall_mem_cons.mpr ⟨lw_p55, List.forall_mem_cons.mpr ⟨lw_p56, List.forall_mem_cons.mpr ⟨lw_p57, List.forall_mem_cons.mpr ⟨lw_p58, List.forall_mem_cons.mpr ⟨lw_p59, List.forall_mem_cons.mpr ⟨lw_p60, List.forall_mem_cons.mpr ⟨lw_p61, List.forall_mem_cons.mpr ⟨lw_p62, List.forall_mem_cons.mpr ⟨lw_p63, fun _ h => absurd h List.not_mem_nil⟩⟩⟩⟩⟩⟩⟩⟩⟩⟩⟩⟩⟩⟩⟩⟩
theorem lw_p64 : lw_okq (⟨"WordRationModel", "draw", "(I)I"⟩, 58) := ⟨⟨by decide +kernel, by decide +kernel⟩, List.mem_of_getElem? (i := 845) (by decide +kernel), List.mem_of_getElem? (i := 1227) (by decide +kernel), List.mem_of_getElem? (i := 1228) (by decide +kernel)⟩
theorem lw_p65 : lw_okq (⟨"WordRationModel", "costBy", "(III)I"⟩, 58) := ⟨⟨by decide +kernel, by decide +kernel⟩, List.mem_of_getElem? (i := 845) (by decide +kernel), List.mem_of_getElem? (i := 1243) (by decide +kernel), List.mem_of_getElem? (i := 1244) (by decide +kernel)⟩
theorem lw_p66 : lw_okq (⟨"WordRationModel", "costOfWay", "(I)I"⟩, 58) := ⟨⟨by decide +kernel, by decide +kernel⟩, List.mem_of_getElem? (i := 845) (by decide +kernel), List.mem_of_getElem? (i := 1247) (by decide +kernel), List.mem_of_getElem? (i := 1248) (by decide +kernel)⟩
theorem lw_p67 : lw_okq (⟨"WordRationModel", "layTried", "()V"⟩, 58) := ⟨⟨by decide +kernel, by decide +kernel⟩, List.mem_of_getElem? (i := 845) (by decide +kernel), List.mem_of_getElem? (i := 1255) (by decide +kernel), List.mem_of_getElem? (i := 1256) (by decide +kernel)⟩
theorem lw_p68 : lw_okq (⟨"WordRationModel", "findPlan", "()V"⟩, 58) := ⟨⟨by decide +kernel, by decide +kernel⟩, List.mem_of_getElem? (i := 845) (by decide +kernel), List.mem_of_getElem? (i := 1267) (by decide +kernel), List.mem_of_getElem? (i := 1268) (by decide +kernel)⟩
theorem lw_p69 : lw_okq (⟨"WordRationModel", "comparePlan", "()V"⟩, 58) := ⟨⟨by decide +kernel, by decide +kernel⟩, List.mem_of_getElem? (i := 845) (by decide +kernel), List.mem_of_getElem? (i := 1271) (by decide +kernel), List.mem_of_getElem? (i := 1272) (by decide +kernel)⟩
theorem lw_p70 : lw_okq (⟨"WordRationModel", "use", "(III)V"⟩, 58) := ⟨⟨by decide +kernel, by decide +kernel⟩, List.mem_of_getElem? (i := 845) (by decide +kernel), List.mem_of_getElem? (i := 1275) (by decide +kernel), List.mem_of_getElem? (i := 1276) (by decide +kernel)⟩
theorem lw_p71 : lw_okq (⟨"WordRationModel", "wordsBy", "(II)I"⟩, 58) := ⟨⟨by decide +kernel, by decide +kernel⟩, List.mem_of_getElem? (i := 845) (by decide +kernel), List.mem_of_getElem? (i := 1279) (by decide +kernel), List.mem_of_getElem? (i := 1280) (by decide +kernel)⟩
theorem lw_p72 : lw_okq (⟨"WordRationModel", "nextPick", "(I)I"⟩, 58) := ⟨⟨by decide +kernel, by decide +kernel⟩, List.mem_of_getElem? (i := 845) (by decide +kernel), List.mem_of_getElem? (i := 1286) (by decide +kernel), List.mem_of_getElem? (i := 1287) (by decide +kernel)⟩
theorem lw_p73 : lw_okq (⟨"WordRationModel", "fits", "(II)Z"⟩, 58) := ⟨⟨by decide +kernel, by decide +kernel⟩, List.mem_of_getElem? (i := 845) (by decide +kernel), List.mem_of_getElem? (i := 1290) (by decide +kernel), List.mem_of_getElem? (i := 1291) (by decide +kernel)⟩
theorem lw_p74 : lw_okq (⟨"WordRationModel", "isOf", "(II)Z"⟩, 58) := ⟨⟨by decide +kernel, by decide +kernel⟩, List.mem_of_getElem? (i := 845) (by decide +kernel), List.mem_of_getElem? (i := 1298) (by decide +kernel), List.mem_of_getElem? (i := 1299) (by decide +kernel)⟩
theorem lw_p75 : lw_okq (⟨"WordRationModel", "doSell", "(III)Z"⟩, 58) := ⟨⟨by decide +kernel, by decide +kernel⟩, List.mem_of_getElem? (i := 845) (by decide +kernel), List.mem_of_getElem? (i := 1306) (by decide +kernel), List.mem_of_getElem? (i := 1307) (by decide +kernel)⟩
theorem lw_p76 : lw_okq (⟨"WordRationModel", "needsOf", "(II)I"⟩, 58) := ⟨⟨by decide +kernel, by decide +kernel⟩, List.mem_of_getElem? (i := 845) (by decide +kernel), List.mem_of_getElem? (i := 1310) (by decide +kernel), List.mem_of_getElem? (i := 1311) (by decide +kernel)⟩
theorem lw_p77 : lw_okq (⟨"WordRationModel", "whoSaid", "()I"⟩, 58) := ⟨⟨by decide +kernel, by decide +kernel⟩, List.mem_of_getElem? (i := 845) (by decide +kernel), List.mem_of_getElem? (i := 1347) (by decide +kernel), List.mem_of_getElem? (i := 1348) (by decide +kernel)⟩
theorem lw_p78 : lw_okq (⟨"WordRationModel", "wouldSay", "(III)Z"⟩, 58) := ⟨⟨by decide +kernel, by decide +kernel⟩, List.mem_of_getElem? (i := 845) (by decide +kernel), List.mem_of_getElem? (i := 1351) (by decide +kernel), List.mem_of_getElem? (i := 1352) (by decide +kernel)⟩
def lw_privs_5 : List (MethodName × Nat) := [(⟨"WordRationModel", "draw", "(I)I"⟩, 58), (⟨"WordRationModel", "costBy", "(III)I"⟩, 58), (⟨"WordRationModel", "costOfWay", "(I)I"⟩, 58), (⟨"WordRationModel", "layTried", "()V"⟩, 58), (⟨"WordRationModel", "findPlan", "()V"⟩, 58), (⟨"WordRationModel", "comparePlan", "()V"⟩, 58), (⟨"WordRationModel", "use", "(III)V"⟩, 58), (⟨"WordRationModel", "wordsBy", "(II)I"⟩, 58), (⟨"WordRationModel", "nextPick", "(I)I"⟩, 58), (⟨"WordRationModel", "fits", "(II)Z"⟩, 58), (⟨"WordRationModel", "isOf", "(II)Z"⟩, 58), (⟨"WordRationModel", "doSell", "(III)Z"⟩, 58), (⟨"WordRationModel", "needsOf", "(II)I"⟩, 58), (⟨"WordRationModel", "whoSaid", "()I"⟩, 58), (⟨"WordRationModel", "wouldSay", "(III)Z"⟩, 58)]
theorem lw_r5 : ∀ q ∈ lw_privs_5, lw_okq q := List.forall_mem_cons.mpr ⟨lw_p64, List.forall_mem_cons.mpr ⟨lw_p65, List.forall_mem_cons.mpr ⟨lw_p66, List.forall_mem_cons.mpr ⟨lw_p67, List.forall_mem_cons.mpr ⟨lw_p68, List.forall_mem_cons.mpr ⟨lw_p69, List.forall_mem_cons.mpr ⟨lw_p70, List.forall_mem_cons.mpr ⟨lw_p71, List.forall_mem_cons.mpr ⟨lw_p72, List.forall_mem_cons.mpr ⟨lw_p73, List.forall_mem_cons.mpr ⟨lw_p74, List.forall_mem_cons.mpr ⟨lw_p75, List.forall_mem_cons.mpr ⟨lw_p76, List.forall_mem_cons.mpr ⟨lw_p77, List.forall_mem_cons.mpr ⟨lw_p78, fun _ h => absurd h List.not_mem_nil⟩⟩⟩⟩⟩⟩⟩⟩⟩⟩⟩⟩⟩⟩⟩
def lw_privs : List (MethodName × Nat) := lw_privs_1 ++ (lw_privs_2 ++ (lw_privs_3 ++ (lw_privs_4 ++ (lw_privs_5))))
def lw_tbl : List Cond := k2_sels lw_privs ++ tables_1
theorem lw_privs_ok : ∀ q ∈ lw_privs, lw_okq q := by
  show ∀ q ∈ lw_privs_1 ++ (lw_privs_2 ++ (lw_privs_3 ++ (lw_privs_4 ++ (lw_privs_5)))), lw_okq q
  exact List.forall_mem_append.mpr ⟨lw_r1, List.forall_mem_append.mpr ⟨lw_r2, List.forall_mem_append.mpr ⟨lw_r3, List.forall_mem_append.mpr ⟨lw_r4, lw_r5⟩⟩⟩⟩
-- ===== end of PART A; then your names; then what follows =====
end
section
def RX0 : String := "WordRation$Book"
def TX0 : u_T := fun k => match k with
  | 0 => ("WordRation$Book", "words", "[I", true)
  | 1 => ("WordRation$Book", "lefts", "[I", true)
  | _ => ("WordRation$Book", "count", "I", false)
def tyX0 : Nat → FieldType := fun k => match k with
  | 0 => .array .int
  | 1 => .array .int
  | _ => .int
abbrev wsX00 : List Cond := u_ws RX0 TX0 3
theorem nmX0 : ∀ a, a < 3 → ∀ b, b < 3 → a ≠ b → (TX0 a).2.1 ≠ (TX0 b).2.1 := by decide +kernel
theorem tyX0_ok : ∀ k, k < 3 → parseFieldDescriptor (TX0 k).2.2.1 = some (tyX0 k) := by decide +kernel
abbrev cX0_init : ByteArray := prog_2_method_1_code
def yX0_init : MethodName := ⟨RX0, "<init>", "()V"⟩
abbrev cX0_clear : ByteArray := prog_2_method_2_code
def yX0_clear : MethodName := ⟨RX0, "clear", "()V"⟩
abbrev cX0_enter : ByteArray := prog_2_method_3_code
def yX0_enter : MethodName := ⟨RX0, "enter", "(II)V"⟩
abbrev cX0_firstWrong : ByteArray := prog_2_method_4_code
def yX0_firstWrong : MethodName := ⟨RX0, "firstWrong", "(LWordRation$State;)I"⟩
def RX1 : String := "WordRation$Image"
def TX1 : u_T := fun k => match k with
  | 0 => ("WordRation$Image", "state", "LWordRation$State;", true)
  | 1 => ("WordRation$Image", "seed", "I", false)
  | _ => ("WordRation$Image", "kept", "Z", false)
def tyX1 : Nat → FieldType := fun k => match k with
  | 0 => .object "WordRation$State"
  | 1 => .int
  | _ => .boolean
abbrev wsX10 : List Cond := u_ws RX1 TX1 3
theorem nmX1 : ∀ a, a < 3 → ∀ b, b < 3 → a ≠ b → (TX1 a).2.1 ≠ (TX1 b).2.1 := by decide +kernel
theorem tyX1_ok : ∀ k, k < 3 → parseFieldDescriptor (TX1 k).2.2.1 = some (tyX1 k) := by decide +kernel
abbrev cX1_init : ByteArray := prog_3_method_1_code
def yX1_init : MethodName := ⟨RX1, "<init>", "()V"⟩
def RX2 : String := "WordRation$Knots"
def TX2 : u_T := fun k => match k with
  | 0 => ("WordRation$Knots", "words", "[I", true)
  | 1 => ("WordRation$Knots", "days", "[I", true)
  | 2 => ("WordRation$Knots", "said", "[Z", true)
  | _ => ("WordRation$Knots", "count", "I", false)
def tyX2 : Nat → FieldType := fun k => match k with
  | 0 => .array .int
  | 1 => .array .int
  | 2 => .array .boolean
  | _ => .int
abbrev wsX20 : List Cond := u_ws RX2 TX2 4
theorem nmX2 : ∀ a, a < 4 → ∀ b, b < 4 → a ≠ b → (TX2 a).2.1 ≠ (TX2 b).2.1 := by decide +kernel
theorem tyX2_ok : ∀ k, k < 4 → parseFieldDescriptor (TX2 k).2.2.1 = some (tyX2 k) := by decide +kernel
abbrev cX2_init : ByteArray := prog_4_method_1_code
def yX2_init : MethodName := ⟨RX2, "<init>", "()V"⟩
abbrev cX2_clear : ByteArray := prog_4_method_2_code
def yX2_clear : MethodName := ⟨RX2, "clear", "()V"⟩
abbrev cX2_tie : ByteArray := prog_4_method_3_code
def yX2_tie : MethodName := ⟨RX2, "tie", "(IIZ)V"⟩
abbrev cX2_fitting : ByteArray := prog_4_method_4_code
def yX2_fitting : MethodName := ⟨RX2, "fitting", "(LWordRation$Town;)I"⟩
abbrev cX2_fits : ByteArray := prog_4_method_5_code
def yX2_fits : MethodName := ⟨RX2, "fits", "(LWordRation$Town;I)Z"⟩
def RX3 : String := "WordRation$Past"
def TX3 : u_T := fun k => match k with
  | 0 => ("WordRation$Past", "ring", "[LWordRation$State;", true)
  | 1 => ("WordRation$Past", "next", "I", false)
  | _ => ("WordRation$Past", "count", "I", false)
def tyX3 : Nat → FieldType := fun k => match k with
  | 0 => .array (.object "WordRation$State")
  | 1 => .int
  | _ => .int
abbrev wsX30 : List Cond := u_ws RX3 TX3 3
theorem nmX3 : ∀ a, a < 3 → ∀ b, b < 3 → a ≠ b → (TX3 a).2.1 ≠ (TX3 b).2.1 := by decide +kernel
theorem tyX3_ok : ∀ k, k < 3 → parseFieldDescriptor (TX3 k).2.2.1 = some (tyX3 k) := by decide +kernel
abbrev cX3_init : ByteArray := prog_5_method_1_code
def yX3_init : MethodName := ⟨RX3, "<init>", "()V"⟩
abbrev cX3_forget : ByteArray := prog_5_method_2_code
def yX3_forget : MethodName := ⟨RX3, "forget", "()V"⟩
abbrev cX3_remember : ByteArray := prog_5_method_3_code
def yX3_remember : MethodName := ⟨RX3, "remember", "(LWordRation$State;)V"⟩
abbrev cX3_returnTo : ByteArray := prog_5_method_4_code
def yX3_returnTo : MethodName := ⟨RX3, "returnTo", "(LWordRation$State;)V"⟩
def RX4 : String := "WordRation$Plan"
def TX4 : u_T := fun k => match k with
  | 0 => ("WordRation$Plan", "supply", "[I", true)
  | 1 => ("WordRation$Plan", "place", "[I", true)
  | 2 => ("WordRation$Plan", "worths", "[I", true)
  | 3 => ("WordRation$Plan", "uses", "[I", true)
  | 4 => ("WordRation$Plan", "worthBehind", "[I", true)
  | 5 => ("WordRation$Plan", "tried", "[I", true)
  | 6 => ("WordRation$Plan", "best", "[I", true)
  | 7 => ("WordRation$Plan", "count", "I", false)
  | 8 => ("WordRation$Plan", "bestWorth", "I", false)
  | _ => ("WordRation$Plan", "bestWords", "I", false)
def tyX4 : Nat → FieldType := fun k => match k with
  | 0 => .array .int
  | 1 => .array .int
  | 2 => .array .int
  | 3 => .array .int
  | 4 => .array .int
  | 5 => .array .int
  | 6 => .array .int
  | 7 => .int
  | 8 => .int
  | _ => .int
abbrev wsX40 : List Cond := u_ws RX4 TX4 10
theorem nmX4 : ∀ a, a < 10 → ∀ b, b < 10 → a ≠ b → (TX4 a).2.1 ≠ (TX4 b).2.1 := by decide +kernel
theorem tyX4_ok : ∀ k, k < 10 → parseFieldDescriptor (TX4 k).2.2.1 = some (tyX4 k) := by decide +kernel
abbrev cX4_init : ByteArray := prog_6_method_1_code
def yX4_init : MethodName := ⟨RX4, "<init>", "()V"⟩
abbrev cX4_workOut : ByteArray := prog_6_method_2_code
def yX4_workOut : MethodName := ⟨RX4, "workOut", "(LWordRation$Town;LWordRation$State;)V"⟩
abbrev cX4_howMet : ByteArray := prog_6_method_3_code
def yX4_howMet : MethodName := ⟨RX4, "howMet", "(I)I"⟩
abbrev cX4_gather : ByteArray := prog_6_method_4_code
def yX4_gather : MethodName := ⟨RX4, "gather", "(LWordRation$Town;LWordRation$State;)V"⟩
abbrev cX4_gatherUses : ByteArray := prog_6_method_5_code
def yX4_gatherUses : MethodName := ⟨RX4, "gatherUses", "(LWordRation$Town;I)V"⟩
abbrev cX4_search : ByteArray := prog_6_method_6_code
def yX4_search : MethodName := ⟨RX4, "search", "(LWordRation$Plan;[IIII)V"⟩
abbrev cX4_mayBeBetter : ByteArray := prog_6_method_7_code
def yX4_mayBeBetter : MethodName := ⟨RX4, "mayBeBetter", "(II)Z"⟩
abbrev cX4_take : ByteArray := prog_6_method_8_code
def yX4_take : MethodName := ⟨RX4, "take", "(II)V"⟩
abbrev cX4_affords : ByteArray := prog_6_method_9_code
def yX4_affords : MethodName := ⟨RX4, "affords", "(I)Z"⟩
abbrev cX4_change : ByteArray := prog_6_method_10_code
def yX4_change : MethodName := ⟨RX4, "change", "(II)V"⟩
def RX5 : String := "WordRation$State"
def TX5 : u_T := fun k => match k with
  | 0 => ("WordRation$State", "limit", "[I", true)
  | 1 => ("WordRation$State", "left", "[I", true)
  | 2 => ("WordRation$State", "said", "[I", true)
  | 3 => ("WordRation$State", "hoards", "[I", true)
  | 4 => ("WordRation$State", "days", "I", false)
  | 5 => ("WordRation$State", "met", "I", false)
  | 6 => ("WordRation$State", "lost", "I", false)
  | 7 => ("WordRation$State", "lostWorth", "I", false)
  | _ => ("WordRation$State", "pointed", "I", false)
def tyX5 : Nat → FieldType := fun k => match k with
  | 0 => .array .int
  | 1 => .array .int
  | 2 => .array .int
  | 3 => .array .int
  | 4 => .int
  | 5 => .int
  | 6 => .int
  | 7 => .int
  | _ => .int
abbrev wsX50 : List Cond := u_ws RX5 TX5 9
theorem nmX5 : ∀ a, a < 9 → ∀ b, b < 9 → a ≠ b → (TX5 a).2.1 ≠ (TX5 b).2.1 := by decide +kernel
theorem tyX5_ok : ∀ k, k < 9 → parseFieldDescriptor (TX5 k).2.2.1 = some (tyX5 k) := by decide +kernel
abbrev cX5_init : ByteArray := prog_7_method_1_code
def yX5_init : MethodName := ⟨RX5, "<init>", "()V"⟩
abbrev cX5_begin : ByteArray := prog_7_method_2_code
def yX5_begin : MethodName := ⟨RX5, "begin", "(LWordRation$Town;)V"⟩
abbrev cX5_copy : ByteArray := prog_7_method_3_code
def yX5_copy : MethodName := ⟨RX5, "copy", "(LWordRation$State;)V"⟩
abbrev cX5_hoardedBy : ByteArray := prog_7_method_4_code
def yX5_hoardedBy : MethodName := ⟨RX5, "hoardedBy", "(II)I"⟩
abbrev cX5_addHoarded : ByteArray := prog_7_method_5_code
def yX5_addHoarded : MethodName := ⟨RX5, "addHoarded", "(III)V"⟩
abbrev cX5_hoardedByAll : ByteArray := prog_7_method_6_code
def yX5_hoardedByAll : MethodName := ⟨RX5, "hoardedByAll", "(I)I"⟩
abbrev cX5_supply : ByteArray := prog_7_method_7_code
def yX5_supply : MethodName := ⟨RX5, "supply", "(I)I"⟩
abbrev cX5_sayable : ByteArray := prog_7_method_8_code
def yX5_sayable : MethodName := ⟨RX5, "sayable", "(II)I"⟩
abbrev cX5_canSay : ByteArray := prog_7_method_9_code
def yX5_canSay : MethodName := ⟨RX5, "canSay", "(II)Z"⟩
abbrev cX5_speak : ByteArray := prog_7_method_10_code
def yX5_speak : MethodName := ⟨RX5, "speak", "(II)V"⟩
abbrev cX5_canGo : ByteArray := prog_7_method_11_code
def yX5_canGo : MethodName := ⟨RX5, "canGo", "(II)Z"⟩
abbrev cX5_go : ByteArray := prog_7_method_12_code
def yX5_go : MethodName := ⟨RX5, "go", "(II)V"⟩
abbrev cX5_gesture : ByteArray := prog_7_method_13_code
def yX5_gesture : MethodName := ⟨RX5, "gesture", "()V"⟩
abbrev cX5_store : ByteArray := prog_7_method_14_code
def yX5_store : MethodName := ⟨RX5, "store", "(III)V"⟩
abbrev cX5_passDay : ByteArray := prog_7_method_15_code
def yX5_passDay : MethodName := ⟨RX5, "passDay", "(LWordRation$Town;)V"⟩
abbrev cX5_meetOrLose : ByteArray := prog_7_method_16_code
def yX5_meetOrLose : MethodName := ⟨RX5, "meetOrLose", "(LWordRation$Town;I)V"⟩
abbrev cX5_meets : ByteArray := prog_7_method_17_code
def yX5_meets : MethodName := ⟨RX5, "meets", "(LWordRation$Town;II)Z"⟩
abbrev cX5_beginYear : ByteArray := prog_7_method_18_code
def yX5_beginYear : MethodName := ⟨RX5, "beginYear", "()V"⟩
abbrev cX5_counted : ByteArray := prog_7_method_19_code
def yX5_counted : MethodName := ⟨RX5, "counted", "(II)I"⟩
def RX6 : String := "WordRation$Text"
def TX6 : u_T := fun k => match k with
  | 0 => ("WordRation$Text", "letters", "[I", true)
  | 1 => ("WordRation$Text", "length", "I", false)
  | 2 => ("WordRation$Text", "fault", "I", false)
  | 3 => ("WordRation$Text", "place", "I", false)
  | 4 => ("WordRation$Text", "at", "I", false)
  | _ => ("WordRation$Text", "numberAt", "I", false)
def tyX6 : Nat → FieldType := fun k => match k with
  | 0 => .array .int
  | 1 => .int
  | 2 => .int
  | 3 => .int
  | 4 => .int
  | _ => .int
abbrev wsX60 : List Cond := u_ws RX6 TX6 6
theorem nmX6 : ∀ a, a < 6 → ∀ b, b < 6 → a ≠ b → (TX6 a).2.1 ≠ (TX6 b).2.1 := by decide +kernel
theorem tyX6_ok : ∀ k, k < 6 → parseFieldDescriptor (TX6 k).2.2.1 = some (tyX6 k) := by decide +kernel
abbrev cX6_init : ByteArray := prog_8_method_1_code
def yX6_init : MethodName := ⟨RX6, "<init>", "()V"⟩
abbrev cX6_isFull : ByteArray := prog_8_method_2_code
def yX6_isFull : MethodName := ⟨RX6, "isFull", "()Z"⟩
abbrev cX6_add : ByteArray := prog_8_method_3_code
def yX6_add : MethodName := ⟨RX6, "add", "(I)V"⟩
abbrev cX6_empty : ByteArray := prog_8_method_4_code
def yX6_empty : MethodName := ⟨RX6, "empty", "()V"⟩
abbrev cX6_readInto : ByteArray := prog_8_method_5_code
def yX6_readInto : MethodName := ⟨RX6, "readInto", "(LWordRation$Town;)V"⟩
abbrev cX6_readClause : ByteArray := prog_8_method_6_code
def yX6_readClause : MethodName := ⟨RX6, "readClause", "(LWordRation$Town;)V"⟩
abbrev cX6_faultOfName : ByteArray := prog_8_method_7_code
def yX6_faultOfName : MethodName := ⟨RX6, "faultOfName", "(LWordRation$Town;I)I"⟩
abbrev cX6_readWord : ByteArray := prog_8_method_8_code
def yX6_readWord : MethodName := ⟨RX6, "readWord", "(LWordRation$Town;)V"⟩
abbrev cX6_readWay : ByteArray := prog_8_method_9_code
def yX6_readWay : MethodName := ⟨RX6, "readWay", "(LWordRation$Town;)V"⟩
abbrev cX6_readPointing : ByteArray := prog_8_method_10_code
def yX6_readPointing : MethodName := ⟨RX6, "readPointing", "(LWordRation$Town;)V"⟩
abbrev cX6_readNeed : ByteArray := prog_8_method_11_code
def yX6_readNeed : MethodName := ⟨RX6, "readNeed", "(LWordRation$Town;)V"⟩
abbrev cX6_readNumber : ByteArray := prog_8_method_12_code
def yX6_readNumber : MethodName := ⟨RX6, "readNumber", "(II)I"⟩
abbrev cX6_skipBlanks : ByteArray := prog_8_method_13_code
def yX6_skipBlanks : MethodName := ⟨RX6, "skipBlanks", "()V"⟩
abbrev cX6_letterHere : ByteArray := prog_8_method_14_code
def yX6_letterHere : MethodName := ⟨RX6, "letterHere", "()I"⟩
abbrev cX6_blame : ByteArray := prog_8_method_15_code
def yX6_blame : MethodName := ⟨RX6, "blame", "(II)V"⟩
def RX7 : String := "WordRation$Town"
def TX7 : u_T := fun k => match k with
  | 0 => ("WordRation$Town", "days", "I", false)
  | 1 => ("WordRation$Town", "words", "I", false)
  | 2 => ("WordRation$Town", "ways", "I", false)
  | 3 => ("WordRation$Town", "persons", "I", false)
  | 4 => ("WordRation$Town", "needs", "I", false)
  | 5 => ("WordRation$Town", "pointable", "I", false)
  | 6 => ("WordRation$Town", "honest", "I", false)
  | 7 => ("WordRation$Town", "limit", "[I", true)
  | 8 => ("WordRation$Town", "cost", "[I", true)
  | 9 => ("WordRation$Town", "rhyme", "[I", true)
  | 10 => ("WordRation$Town", "round", "[I", true)
  | 11 => ("WordRation$Town", "needPerson", "[I", true)
  | 12 => ("WordRation$Town", "needWord", "[I", true)
  | 13 => ("WordRation$Town", "needDay", "[I", true)
  | _ => ("WordRation$Town", "needWorth", "[I", true)
def tyX7 : Nat → FieldType := fun k => match k with
  | 0 => .int
  | 1 => .int
  | 2 => .int
  | 3 => .int
  | 4 => .int
  | 5 => .int
  | 6 => .int
  | 7 => .array .int
  | 8 => .array .int
  | 9 => .array .int
  | 10 => .array .int
  | 11 => .array .int
  | 12 => .array .int
  | 13 => .array .int
  | _ => .array .int
abbrev wsX70 : List Cond := u_ws RX7 TX7 15
theorem nmX7 : ∀ a, a < 15 → ∀ b, b < 15 → a ≠ b → (TX7 a).2.1 ≠ (TX7 b).2.1 := by decide +kernel
theorem tyX7_ok : ∀ k, k < 15 → parseFieldDescriptor (TX7 k).2.2.1 = some (tyX7 k) := by decide +kernel
abbrev cX7_init : ByteArray := prog_9_method_1_code
def yX7_init : MethodName := ⟨RX7, "<init>", "()V"⟩
abbrev cX7_clear : ByteArray := prog_9_method_2_code
def yX7_clear : MethodName := ⟨RX7, "clear", "()V"⟩
abbrev cX7_addWord : ByteArray := prog_9_method_3_code
def yX7_addWord : MethodName := ⟨RX7, "addWord", "(III)V"⟩
abbrev cX7_addWay : ByteArray := prog_9_method_4_code
def yX7_addWay : MethodName := ⟨RX7, "addWay", "(II)V"⟩
abbrev cX7_addPerson : ByteArray := prog_9_method_5_code
def yX7_addPerson : MethodName := ⟨RX7, "addPerson", "(Z)V"⟩
abbrev cX7_addNeed : ByteArray := prog_9_method_6_code
def yX7_addNeed : MethodName := ⟨RX7, "addNeed", "(IIII)V"⟩
abbrev cX7_wayRound : ByteArray := prog_9_method_7_code
def yX7_wayRound : MethodName := ⟨RX7, "wayRound", "(II)I"⟩
abbrev cX7_canPoint : ByteArray := prog_9_method_8_code
def yX7_canPoint : MethodName := ⟨RX7, "canPoint", "(I)Z"⟩
abbrev cX7_dayOfYear : ByteArray := prog_9_method_9_code
def yX7_dayOfYear : MethodName := ⟨RX7, "dayOfYear", "(I)I"⟩
abbrev cX7_isToCome : ByteArray := prog_9_method_10_code
def yX7_isToCome : MethodName := ⟨RX7, "isToCome", "(II)Z"⟩
abbrev cX7_wouldHaveSaid : ByteArray := prog_9_method_11_code
def yX7_wouldHaveSaid : MethodName := ⟨RX7, "wouldHaveSaid", "(III)Z"⟩
def RX8 : String := "WordRation"
def TX8 : u_T := fun k => match k with
  | 0 => ("WordRation", "text", "LWordRation$Text;", true)
  | 1 => ("WordRation", "town", "LWordRation$Town;", false)
  | 2 => ("WordRation", "draft", "LWordRation$Town;", false)
  | 3 => ("WordRation", "now", "LWordRation$State;", true)
  | 4 => ("WordRation", "trial", "LWordRation$State;", true)
  | 5 => ("WordRation", "past", "LWordRation$Past;", true)
  | 6 => ("WordRation", "images", "[LWordRation$Image;", true)
  | 7 => ("WordRation", "plan", "LWordRation$Plan;", true)
  | 8 => ("WordRation", "knots", "LWordRation$Knots;", true)
  | 9 => ("WordRation", "book", "LWordRation$Book;", true)
  | 10 => ("WordRation", "cheap", "[I", true)
  | 11 => ("WordRation", "byWords", "[I", true)
  | _ => ("WordRation", "seed", "I", false)
def tyX8 : Nat → FieldType := fun k => match k with
  | 0 => .object "WordRation$Text"
  | 1 => .object "WordRation$Town"
  | 2 => .object "WordRation$Town"
  | 3 => .object "WordRation$State"
  | 4 => .object "WordRation$State"
  | 5 => .object "WordRation$Past"
  | 6 => .array (.object "WordRation$Image")
  | 7 => .object "WordRation$Plan"
  | 8 => .object "WordRation$Knots"
  | 9 => .object "WordRation$Book"
  | 10 => .array .int
  | 11 => .array .int
  | _ => .int
abbrev wsX80 : List Cond := u_ws RX8 TX8 13
theorem nmX8 : ∀ a, a < 13 → ∀ b, b < 13 → a ≠ b → (TX8 a).2.1 ≠ (TX8 b).2.1 := by decide +kernel
theorem tyX8_ok : ∀ k, k < 13 → parseFieldDescriptor (TX8 k).2.2.1 = some (tyX8 k) := by decide +kernel
abbrev cX8_init : ByteArray := prog_1_method_1_code
def yX8_init : MethodName := ⟨RX8, "<init>", "()V"⟩
abbrev cX8_feed : ByteArray := prog_1_method_2_code
def yX8_feed : MethodName := ⟨RX8, "feed", "(I)I"⟩
abbrev cX8_town : ByteArray := prog_1_method_3_code
def yX8_town : MethodName := ⟨RX8, "town", "()I"⟩
abbrev cX8_fault : ByteArray := prog_1_method_4_code
def yX8_fault : MethodName := ⟨RX8, "fault", "()I"⟩
abbrev cX8_told : ByteArray := prog_1_method_5_code
def yX8_told : MethodName := ⟨RX8, "told", "(I)I"⟩
abbrev cX8_word : ByteArray := prog_1_method_6_code
def yX8_word : MethodName := ⟨RX8, "word", "(II)I"⟩
abbrev cX8_hoarded : ByteArray := prog_1_method_7_code
def yX8_hoarded : MethodName := ⟨RX8, "hoarded", "(II)I"⟩
abbrev cX8_need : ByteArray := prog_1_method_8_code
def yX8_need : MethodName := ⟨RX8, "need", "(II)I"⟩
abbrev cX8_day : ByteArray := prog_1_method_9_code
def yX8_day : MethodName := ⟨RX8, "day", "(I)I"⟩
abbrev cX8_say : ByteArray := prog_1_method_10_code
def yX8_say : MethodName := ⟨RX8, "say", "(II)I"⟩
abbrev cX8_around : ByteArray := prog_1_method_11_code
def yX8_around : MethodName := ⟨RX8, "around", "(III)I"⟩
abbrev cX8_point : ByteArray := prog_1_method_12_code
def yX8_point : MethodName := ⟨RX8, "point", "(I)I"⟩
abbrev cX8_hoard : ByteArray := prog_1_method_13_code
def yX8_hoard : MethodName := ⟨RX8, "hoard", "(III)I"⟩
abbrev cX8_sell : ByteArray := prog_1_method_14_code
def yX8_sell : MethodName := ⟨RX8, "sell", "(IIII)I"⟩
abbrev cX8_raise : ByteArray := prog_1_method_15_code
def yX8_raise : MethodName := ⟨RX8, "raise", "(II)I"⟩
abbrev cX8_drift : ByteArray := prog_1_method_16_code
def yX8_drift : MethodName := ⟨RX8, "drift", "(I)I"⟩
abbrev cX8_undo : ByteArray := prog_1_method_17_code
def yX8_undo : MethodName := ⟨RX8, "undo", "()I"⟩
abbrev cX8_cheapest : ByteArray := prog_1_method_18_code
def yX8_cheapest : MethodName := ⟨RX8, "cheapest", "(III)I"⟩
abbrev cX8_runsOut : ByteArray := prog_1_method_19_code
def yX8_runsOut : MethodName := ⟨RX8, "runsOut", "(I)I"⟩
abbrev cX8_willBe : ByteArray := prog_1_method_20_code
def yX8_willBe : MethodName := ⟨RX8, "willBe", "(I)I"⟩
abbrev cX8_plan : ByteArray := prog_1_method_21_code
def yX8_plan : MethodName := ⟨RX8, "plan", "(I)I"⟩
abbrev cX8_price : ByteArray := prog_1_method_22_code
def yX8_price : MethodName := ⟨RX8, "price", "(I)I"⟩
abbrev cX8_sells : ByteArray := prog_1_method_23_code
def yX8_sells : MethodName := ⟨RX8, "sells", "(II)I"⟩
abbrev cX8_share : ByteArray := prog_1_method_24_code
def yX8_share : MethodName := ⟨RX8, "share", "(II)I"⟩
abbrev cX8_more : ByteArray := prog_1_method_25_code
def yX8_more : MethodName := ⟨RX8, "more", "(I)I"⟩
abbrev cX8_fire : ByteArray := prog_1_method_26_code
def yX8_fire : MethodName := ⟨RX8, "fire", "(II)I"⟩
abbrev cX8_rhymes : ByteArray := prog_1_method_27_code
def yX8_rhymes : MethodName := ⟨RX8, "rhymes", "(I)I"⟩
abbrev cX8_silent : ByteArray := prog_1_method_28_code
def yX8_silent : MethodName := ⟨RX8, "silent", "(II)I"⟩
abbrev cX8_knot : ByteArray := prog_1_method_29_code
def yX8_knot : MethodName := ⟨RX8, "knot", "(IIZ)I"⟩
abbrev cX8_who : ByteArray := prog_1_method_30_code
def yX8_who : MethodName := ⟨RX8, "who", "()I"⟩
abbrev cX8_ask : ByteArray := prog_1_method_31_code
def yX8_ask : MethodName := ⟨RX8, "ask", "()I"⟩
abbrev cX8_write : ByteArray := prog_1_method_32_code
def yX8_write : MethodName := ⟨RX8, "write", "(II)I"⟩
abbrev cX8_tear : ByteArray := prog_1_method_33_code
def yX8_tear : MethodName := ⟨RX8, "tear", "()I"⟩
abbrev cX8_judge : ByteArray := prog_1_method_34_code
def yX8_judge : MethodName := ⟨RX8, "judge", "()I"⟩
abbrev cX8_seed : ByteArray := prog_1_method_35_code
def yX8_seed : MethodName := ⟨RX8, "seed", "(I)I"⟩
abbrev cX8_keep : ByteArray := prog_1_method_36_code
def yX8_keep : MethodName := ⟨RX8, "keep", "(I)I"⟩
abbrev cX8_goBack : ByteArray := prog_1_method_37_code
def yX8_goBack : MethodName := ⟨RX8, "goBack", "(I)I"⟩
abbrev cX8_isWord : ByteArray := prog_1_method_38_code
def yX8_isWord : MethodName := ⟨RX8, "isWord", "(I)Z"⟩
abbrev cX8_isPerson : ByteArray := prog_1_method_39_code
def yX8_isPerson : MethodName := ⟨RX8, "isPerson", "(I)Z"⟩
abbrev cX8_isNeed : ByteArray := prog_1_method_40_code
def yX8_isNeed : MethodName := ⟨RX8, "isNeed", "(I)Z"⟩
abbrev cX8_today : ByteArray := prog_1_method_41_code
def yX8_today : MethodName := ⟨RX8, "today", "()I"⟩
abbrev cX8_neverSaid : ByteArray := prog_1_method_42_code
def yX8_neverSaid : MethodName := ⟨RX8, "neverSaid", "()I"⟩
abbrev cX8_refusalOfDays : ByteArray := prog_1_method_43_code
def yX8_refusalOfDays : MethodName := ⟨RX8, "refusalOfDays", "(I)I"⟩
abbrev cX8_drawOf : ByteArray := prog_1_method_44_code
def yX8_drawOf : MethodName := ⟨RX8, "drawOf", "(I)I"⟩
abbrev cX8_doByDraws : ByteArray := prog_1_method_45_code
def yX8_doByDraws : MethodName := ⟨RX8, "doByDraws", "()V"⟩
abbrev cX8_workOutCheap : ByteArray := prog_1_method_46_code
def yX8_workOutCheap : MethodName := ⟨RX8, "workOutCheap", "(I)V"⟩
abbrev cX8_cheapestKind : ByteArray := prog_1_method_47_code
def yX8_cheapestKind : MethodName := ⟨RX8, "cheapestKind", "(II)I"⟩
abbrev cX8_costBy : ByteArray := prog_1_method_48_code
def yX8_costBy : MethodName := ⟨RX8, "costBy", "(III)I"⟩
abbrev cX8_cheapTogether : ByteArray := prog_1_method_49_code
def yX8_cheapTogether : MethodName := ⟨RX8, "cheapTogether", "(I)I"⟩
abbrev cX8_isToComeOf : ByteArray := prog_1_method_50_code
def yX8_isToComeOf : MethodName := ⟨RX8, "isToComeOf", "(II)Z"⟩
abbrev cX8_rankByWorth : ByteArray := prog_1_method_51_code
def yX8_rankByWorth : MethodName := ⟨RX8, "rankByWorth", "(II)I"⟩
abbrev cX8_needsToCome : ByteArray := prog_1_method_52_code
def yX8_needsToCome : MethodName := ⟨RX8, "needsToCome", "(II)I"⟩
abbrev cX8_wouldSell : ByteArray := prog_1_method_53_code
def yX8_wouldSell : MethodName := ⟨RX8, "wouldSell", "(III)Z"⟩
abbrev cX8_oneNightMore : ByteArray := prog_1_method_54_code
def yX8_oneNightMore : MethodName := ⟨RX8, "oneNightMore", "(II)I"⟩
abbrev cX8_greatestPart : ByteArray := prog_1_method_55_code
def yX8_greatestPart : MethodName := ⟨RX8, "greatestPart", "(III)I"⟩
def RX9 : String := "WordRationModel"
def TX9 : u_T := fun k => match k with
  | 0 => ("WordRationModel", "now", "[I", true)
  | 1 => ("WordRationModel", "tried", "[I", true)
  | 2 => ("WordRationModel", "was", "[I", true)
  | 3 => ("WordRationModel", "acts", "I", false)
  | 4 => ("WordRationModel", "seed", "I", false)
  | 5 => ("WordRationModel", "days", "I", false)
  | 6 => ("WordRationModel", "words", "I", false)
  | 7 => ("WordRationModel", "persons", "I", false)
  | 8 => ("WordRationModel", "needs", "I", false)
  | 9 => ("WordRationModel", "cost", "[I", true)
  | 10 => ("WordRationModel", "rhyme", "[I", true)
  | 11 => ("WordRationModel", "ways", "[I", true)
  | 12 => ("WordRationModel", "pointing", "[Z", true)
  | 13 => ("WordRationModel", "honest", "[Z", true)
  | 14 => ("WordRationModel", "needed", "[I", true)
  | 15 => ("WordRationModel", "text", "[I", true)
  | 16 => ("WordRationModel", "letters", "I", false)
  | 17 => ("WordRationModel", "at", "I", false)
  | 18 => ("WordRationModel", "wrong", "I", false)
  | 19 => ("WordRationModel", "wrongAt", "I", false)
  | 20 => ("WordRationModel", "faultAt", "I", false)
  | 21 => ("WordRationModel", "newDays", "I", false)
  | 22 => ("WordRationModel", "newWords", "I", false)
  | 23 => ("WordRationModel", "newPersons", "I", false)
  | 24 => ("WordRationModel", "newNeeds", "I", false)
  | 25 => ("WordRationModel", "newWays", "I", false)
  | 26 => ("WordRationModel", "newLimit", "[I", true)
  | 27 => ("WordRationModel", "newCost", "[I", true)
  | 28 => ("WordRationModel", "newRhyme", "[I", true)
  | 29 => ("WordRationModel", "newRound", "[I", true)
  | 30 => ("WordRationModel", "newPointing", "[Z", true)
  | 31 => ("WordRationModel", "newHonest", "[Z", true)
  | 32 => ("WordRationModel", "newNeeded", "[I", true)
  | 33 => ("WordRationModel", "toldPlace", "I", false)
  | 34 => ("WordRationModel", "least", "[I", true)
  | 35 => ("WordRationModel", "coming", "I", false)
  | 36 => ("WordRationModel", "list", "[I", true)
  | 37 => ("WordRationModel", "rest", "[I", true)
  | 38 => ("WordRationModel", "pick", "[I", true)
  | 39 => ("WordRationModel", "used", "[I", true)
  | 40 => ("WordRationModel", "supply", "[I", true)
  | 41 => ("WordRationModel", "worth", "I", false)
  | 42 => ("WordRationModel", "count", "I", false)
  | 43 => ("WordRationModel", "best", "[I", true)
  | 44 => ("WordRationModel", "bestWorth", "I", false)
  | 45 => ("WordRationModel", "bestCount", "I", false)
  | 46 => ("WordRationModel", "fires", "[I", true)
  | 47 => ("WordRationModel", "later", "[I", true)
  | 48 => ("WordRationModel", "knots", "I", false)
  | 49 => ("WordRationModel", "knotWord", "[I", true)
  | 50 => ("WordRationModel", "knotDay", "[I", true)
  | 51 => ("WordRationModel", "knotSaid", "[Z", true)
  | 52 => ("WordRationModel", "entries", "I", false)
  | 53 => ("WordRationModel", "entryWord", "[I", true)
  | 54 => ("WordRationModel", "entryLeft", "[I", true)
  | 55 => ("WordRationModel", "isKept", "[Z", true)
  | 56 => ("WordRationModel", "kept", "[I", true)
  | _ => ("WordRationModel", "keptSeed", "[I", true)
def tyX9 : Nat → FieldType := fun k => match k with
  | 0 => .array .int
  | 1 => .array .int
  | 2 => .array .int
  | 3 => .int
  | 4 => .int
  | 5 => .int
  | 6 => .int
  | 7 => .int
  | 8 => .int
  | 9 => .array .int
  | 10 => .array .int
  | 11 => .array .int
  | 12 => .array .boolean
  | 13 => .array .boolean
  | 14 => .array .int
  | 15 => .array .int
  | 16 => .int
  | 17 => .int
  | 18 => .int
  | 19 => .int
  | 20 => .int
  | 21 => .int
  | 22 => .int
  | 23 => .int
  | 24 => .int
  | 25 => .int
  | 26 => .array .int
  | 27 => .array .int
  | 28 => .array .int
  | 29 => .array .int
  | 30 => .array .boolean
  | 31 => .array .boolean
  | 32 => .array .int
  | 33 => .int
  | 34 => .array .int
  | 35 => .int
  | 36 => .array .int
  | 37 => .array .int
  | 38 => .array .int
  | 39 => .array .int
  | 40 => .array .int
  | 41 => .int
  | 42 => .int
  | 43 => .array .int
  | 44 => .int
  | 45 => .int
  | 46 => .array .int
  | 47 => .array .int
  | 48 => .int
  | 49 => .array .int
  | 50 => .array .int
  | 51 => .array .boolean
  | 52 => .int
  | 53 => .array .int
  | 54 => .array .int
  | 55 => .array .boolean
  | 56 => .array .int
  | _ => .array .int
abbrev wsX90 : List Cond := u_ws RX9 TX9 58
theorem nmX9 : ∀ a, a < 58 → ∀ b, b < 58 → a ≠ b → (TX9 a).2.1 ≠ (TX9 b).2.1 := by decide +kernel
theorem tyX9_ok : ∀ k, k < 58 → parseFieldDescriptor (TX9 k).2.2.1 = some (tyX9 k) := by decide +kernel
abbrev cX9_init : ByteArray := prog_11_method_1_code
def yX9_init : MethodName := ⟨RX9, "<init>", "()V"⟩
abbrev cX9_in : ByteArray := prog_11_method_3_code
def yX9_in : MethodName := ⟨RX9, "in", "(JJJ)Z"⟩
abbrev cX9_isWord : ByteArray := prog_11_method_4_code
def yX9_isWord : MethodName := ⟨RX9, "isWord", "(I)Z"⟩
abbrev cX9_isPerson : ByteArray := prog_11_method_5_code
def yX9_isPerson : MethodName := ⟨RX9, "isPerson", "(I)Z"⟩
abbrev cX9_isNeed : ByteArray := prog_11_method_6_code
def yX9_isNeed : MethodName := ⟨RX9, "isNeed", "(I)Z"⟩
abbrev cX9_has : ByteArray := prog_11_method_7_code
def yX9_has : MethodName := ⟨RX9, "has", "(II)Z"⟩
abbrev cX9_bits : ByteArray := prog_11_method_8_code
def yX9_bits : MethodName := ⟨RX9, "bits", "(I)I"⟩
abbrev cX9_up : ByteArray := prog_11_method_9_code
def yX9_up : MethodName := ⟨RX9, "up", "(II)I"⟩
abbrev cX9_person : ByteArray := prog_11_method_10_code
def yX9_person : MethodName := ⟨RX9, "person", "(I)I"⟩
abbrev cX9_wordOf : ByteArray := prog_11_method_11_code
def yX9_wordOf : MethodName := ⟨RX9, "wordOf", "(I)I"⟩
abbrev cX9_dayOf : ByteArray := prog_11_method_12_code
def yX9_dayOf : MethodName := ⟨RX9, "dayOf", "(I)I"⟩
abbrev cX9_worthOf : ByteArray := prog_11_method_13_code
def yX9_worthOf : MethodName := ⟨RX9, "worthOf", "(I)I"⟩
abbrev cX9_feed : ByteArray := prog_11_method_14_code
def yX9_feed : MethodName := ⟨RX9, "feed", "(I)I"⟩
abbrev cX9_bad : ByteArray := prog_11_method_15_code
def yX9_bad : MethodName := ⟨RX9, "bad", "(II)V"⟩
abbrev cX9_letterNow : ByteArray := prog_11_method_16_code
def yX9_letterNow : MethodName := ⟨RX9, "letterNow", "()I"⟩
abbrev cX9_isFigure : ByteArray := prog_11_method_17_code
def yX9_isFigure : MethodName := ⟨RX9, "isFigure", "(I)Z"⟩
abbrev cX9_number : ByteArray := prog_11_method_18_code
def yX9_number : MethodName := ⟨RX9, "number", "(II)I"⟩
abbrev cX9_wordTold : ByteArray := prog_11_method_19_code
def yX9_wordTold : MethodName := ⟨RX9, "wordTold", "()I"⟩
abbrev cX9_end : ByteArray := prog_11_method_20_code
def yX9_end : MethodName := ⟨RX9, "end", "()V"⟩
abbrev cX9_readWord : ByteArray := prog_11_method_21_code
def yX9_readWord : MethodName := ⟨RX9, "readWord", "()V"⟩
abbrev cX9_readWay : ByteArray := prog_11_method_22_code
def yX9_readWay : MethodName := ⟨RX9, "readWay", "()V"⟩
abbrev cX9_readPointing : ByteArray := prog_11_method_23_code
def yX9_readPointing : MethodName := ⟨RX9, "readPointing", "()V"⟩
abbrev cX9_readPerson : ByteArray := prog_11_method_24_code
def yX9_readPerson : MethodName := ⟨RX9, "readPerson", "()V"⟩
abbrev cX9_readNeed : ByteArray := prog_11_method_25_code
def yX9_readNeed : MethodName := ⟨RX9, "readNeed", "()V"⟩
abbrev cX9_readYear : ByteArray := prog_11_method_26_code
def yX9_readYear : MethodName := ⟨RX9, "readYear", "()V"⟩
abbrev cX9_readClause : ByteArray := prog_11_method_27_code
def yX9_readClause : MethodName := ⟨RX9, "readClause", "(I)V"⟩
abbrev cX9_readAll : ByteArray := prog_11_method_28_code
def yX9_readAll : MethodName := ⟨RX9, "readAll", "()V"⟩
abbrev cX9_town : ByteArray := prog_11_method_29_code
def yX9_town : MethodName := ⟨RX9, "town", "()I"⟩
abbrev cX9_fault : ByteArray := prog_11_method_30_code
def yX9_fault : MethodName := ⟨RX9, "fault", "()I"⟩
abbrev cX9_dayNow : ByteArray := prog_11_method_31_code
def yX9_dayNow : MethodName := ⟨RX9, "dayNow", "()I"⟩
abbrev cX9_isToCome : ByteArray := prog_11_method_32_code
def yX9_isToCome : MethodName := ⟨RX9, "isToCome", "(I)Z"⟩
abbrev cX9_hoardedOf : ByteArray := prog_11_method_33_code
def yX9_hoardedOf : MethodName := ⟨RX9, "hoardedOf", "([II)I"⟩
abbrev cX9_told : ByteArray := prog_11_method_34_code
def yX9_told : MethodName := ⟨RX9, "told", "(I)I"⟩
abbrev cX9_word : ByteArray := prog_11_method_35_code
def yX9_word : MethodName := ⟨RX9, "word", "(II)I"⟩
abbrev cX9_hoarded : ByteArray := prog_11_method_36_code
def yX9_hoarded : MethodName := ⟨RX9, "hoarded", "(II)I"⟩
abbrev cX9_need : ByteArray := prog_11_method_37_code
def yX9_need : MethodName := ⟨RX9, "need", "(II)I"⟩
abbrev cX9_keepAct : ByteArray := prog_11_method_38_code
def yX9_keepAct : MethodName := ⟨RX9, "keepAct", "()V"⟩
abbrev cX9_canSay : ByteArray := prog_11_method_39_code
def yX9_canSay : MethodName := ⟨RX9, "canSay", "([III)Z"⟩
abbrev cX9_says : ByteArray := prog_11_method_40_code
def yX9_says : MethodName := ⟨RX9, "says", "([III)V"⟩
abbrev cX9_canGo : ByteArray := prog_11_method_41_code
def yX9_canGo : MethodName := ⟨RX9, "canGo", "([III)Z"⟩
abbrev cX9_goes : ByteArray := prog_11_method_42_code
def yX9_goes : MethodName := ⟨RX9, "goes", "([III)V"⟩
abbrev cX9_meets : ByteArray := prog_11_method_43_code
def yX9_meets : MethodName := ⟨RX9, "meets", "([II)Z"⟩
abbrev cX9_goOn : ByteArray := prog_11_method_44_code
def yX9_goOn : MethodName := ⟨RX9, "goOn", "([I)I"⟩
abbrev cX9_day : ByteArray := prog_11_method_45_code
def yX9_day : MethodName := ⟨RX9, "day", "(I)I"⟩
abbrev cX9_say : ByteArray := prog_11_method_46_code
def yX9_say : MethodName := ⟨RX9, "say", "(II)I"⟩
abbrev cX9_around : ByteArray := prog_11_method_47_code
def yX9_around : MethodName := ⟨RX9, "around", "(III)I"⟩
abbrev cX9_point : ByteArray := prog_11_method_48_code
def yX9_point : MethodName := ⟨RX9, "point", "(I)I"⟩
abbrev cX9_hoard : ByteArray := prog_11_method_49_code
def yX9_hoard : MethodName := ⟨RX9, "hoard", "(III)I"⟩
abbrev cX9_sell : ByteArray := prog_11_method_50_code
def yX9_sell : MethodName := ⟨RX9, "sell", "(IIII)I"⟩
abbrev cX9_raise : ByteArray := prog_11_method_51_code
def yX9_raise : MethodName := ⟨RX9, "raise", "(II)I"⟩
abbrev cX9_draw : ByteArray := prog_11_method_52_code
def yX9_draw : MethodName := ⟨RX9, "draw", "(I)I"⟩
abbrev cX9_drawn : ByteArray := prog_11_method_53_code
def yX9_drawn : MethodName := ⟨RX9, "drawn", "()V"⟩
abbrev cX9_drift : ByteArray := prog_11_method_54_code
def yX9_drift : MethodName := ⟨RX9, "drift", "(I)I"⟩
abbrev cX9_undo : ByteArray := prog_11_method_55_code
def yX9_undo : MethodName := ⟨RX9, "undo", "()I"⟩
abbrev cX9_layTried : ByteArray := prog_11_method_56_code
def yX9_layTried : MethodName := ⟨RX9, "layTried", "()V"⟩
abbrev cX9_costOfWay : ByteArray := prog_11_method_57_code
def yX9_costOfWay : MethodName := ⟨RX9, "costOfWay", "(I)I"⟩
abbrev cX9_costBy : ByteArray := prog_11_method_58_code
def yX9_costBy : MethodName := ⟨RX9, "costBy", "(III)I"⟩
abbrev cX9_cheapest : ByteArray := prog_11_method_59_code
def yX9_cheapest : MethodName := ⟨RX9, "cheapest", "(III)I"⟩
abbrev cX9_runsOut : ByteArray := prog_11_method_60_code
def yX9_runsOut : MethodName := ⟨RX9, "runsOut", "(I)I"⟩
abbrev cX9_willBe : ByteArray := prog_11_method_61_code
def yX9_willBe : MethodName := ⟨RX9, "willBe", "(I)I"⟩
abbrev cX9_wordsBy : ByteArray := prog_11_method_62_code
def yX9_wordsBy : MethodName := ⟨RX9, "wordsBy", "(II)I"⟩
abbrev cX9_use : ByteArray := prog_11_method_63_code
def yX9_use : MethodName := ⟨RX9, "use", "(III)V"⟩
abbrev cX9_fits : ByteArray := prog_11_method_64_code
def yX9_fits : MethodName := ⟨RX9, "fits", "(II)Z"⟩
abbrev cX9_nextPick : ByteArray := prog_11_method_65_code
def yX9_nextPick : MethodName := ⟨RX9, "nextPick", "(I)I"⟩
abbrev cX9_comparePlan : ByteArray := prog_11_method_66_code
def yX9_comparePlan : MethodName := ⟨RX9, "comparePlan", "()V"⟩
abbrev cX9_findPlan : ByteArray := prog_11_method_67_code
def yX9_findPlan : MethodName := ⟨RX9, "findPlan", "()V"⟩
abbrev cX9_plan : ByteArray := prog_11_method_68_code
def yX9_plan : MethodName := ⟨RX9, "plan", "(I)I"⟩
abbrev cX9_isOf : ByteArray := prog_11_method_69_code
def yX9_isOf : MethodName := ⟨RX9, "isOf", "(II)Z"⟩
abbrev cX9_needsOf : ByteArray := prog_11_method_70_code
def yX9_needsOf : MethodName := ⟨RX9, "needsOf", "(II)I"⟩
abbrev cX9_price : ByteArray := prog_11_method_71_code
def yX9_price : MethodName := ⟨RX9, "price", "(I)I"⟩
abbrev cX9_doSell : ByteArray := prog_11_method_72_code
def yX9_doSell : MethodName := ⟨RX9, "doSell", "(III)Z"⟩
abbrev cX9_sells : ByteArray := prog_11_method_73_code
def yX9_sells : MethodName := ⟨RX9, "sells", "(II)I"⟩
abbrev cX9_share : ByteArray := prog_11_method_74_code
def yX9_share : MethodName := ⟨RX9, "share", "(II)I"⟩
abbrev cX9_more : ByteArray := prog_11_method_75_code
def yX9_more : MethodName := ⟨RX9, "more", "(I)I"⟩
abbrev cX9_fire : ByteArray := prog_11_method_76_code
def yX9_fire : MethodName := ⟨RX9, "fire", "(II)I"⟩
abbrev cX9_rhymes : ByteArray := prog_11_method_77_code
def yX9_rhymes : MethodName := ⟨RX9, "rhymes", "(I)I"⟩
abbrev cX9_silent : ByteArray := prog_11_method_78_code
def yX9_silent : MethodName := ⟨RX9, "silent", "(II)I"⟩
abbrev cX9_knot : ByteArray := prog_11_method_79_code
def yX9_knot : MethodName := ⟨RX9, "knot", "(IIZ)I"⟩
abbrev cX9_wouldSay : ByteArray := prog_11_method_80_code
def yX9_wouldSay : MethodName := ⟨RX9, "wouldSay", "(III)Z"⟩
abbrev cX9_whoSaid : ByteArray := prog_11_method_81_code
def yX9_whoSaid : MethodName := ⟨RX9, "whoSaid", "()I"⟩
abbrev cX9_who : ByteArray := prog_11_method_82_code
def yX9_who : MethodName := ⟨RX9, "who", "()I"⟩
abbrev cX9_ask : ByteArray := prog_11_method_83_code
def yX9_ask : MethodName := ⟨RX9, "ask", "()I"⟩
abbrev cX9_write : ByteArray := prog_11_method_84_code
def yX9_write : MethodName := ⟨RX9, "write", "(II)I"⟩
abbrev cX9_tear : ByteArray := prog_11_method_85_code
def yX9_tear : MethodName := ⟨RX9, "tear", "()I"⟩
abbrev cX9_judge : ByteArray := prog_11_method_86_code
def yX9_judge : MethodName := ⟨RX9, "judge", "()I"⟩
abbrev cX9_seed : ByteArray := prog_11_method_87_code
def yX9_seed : MethodName := ⟨RX9, "seed", "(I)I"⟩
abbrev cX9_keep : ByteArray := prog_11_method_88_code
def yX9_keep : MethodName := ⟨RX9, "keep", "(I)I"⟩
abbrev cX9_goBack : ByteArray := prog_11_method_89_code
def yX9_goBack : MethodName := ⟨RX9, "goBack", "(I)I"⟩
def RJ6 : String := "java/lang/Integer"
def TJ6 : u_T := fun k => match k with
  | _ => ("", "", "", false)
def tyJ6 : Nat → FieldType := fun k => match k with
  | _ => .int
abbrev wsJ60 : List Cond := u_ws RJ6 TJ6 0
theorem nmJ6 : ∀ a, a < 0 → ∀ b, b < 0 → a ≠ b → (TJ6 a).2.1 ≠ (TJ6 b).2.1 := by decide +kernel
theorem tyJ6_ok : ∀ k, k < 0 → parseFieldDescriptor (TJ6 k).2.2.1 = some (tyJ6 k) := by decide +kernel
abbrev cJ6_bitCount_0f7a4 : ByteArray := prog_12_method_49_code
def yJ6_bitCount_0f7a4 : MethodName := ⟨RJ6, "bitCount", "(I)I"⟩
def RJ9 : String := "java/lang/Math"
def TJ9 : u_T := fun k => match k with
  | _ => ("", "", "", false)
def tyJ9 : Nat → FieldType := fun k => match k with
  | _ => .int
abbrev wsJ90 : List Cond := u_ws RJ9 TJ9 0
theorem nmJ9 : ∀ a, a < 0 → ∀ b, b < 0 → a ≠ b → (TJ9 a).2.1 ≠ (TJ9 b).2.1 := by decide +kernel
theorem tyJ9_ok : ∀ k, k < 0 → parseFieldDescriptor (TJ9 k).2.2.1 = some (tyJ9 k) := by decide +kernel
abbrev cJ9_max_7cf53 : ByteArray := prog_13_method_65_code
def yJ9_max_7cf53 : MethodName := ⟨RJ9, "max", "(II)I"⟩
abbrev cJ9_min_7cf53 : ByteArray := prog_13_method_69_code
def yJ9_min_7cf53 : MethodName := ⟨RJ9, "min", "(II)I"⟩
def RJ10 : String := "java/lang/System"
def TJ10 : u_T := fun k => match k with
  | _ => ("", "", "", false)
def tyJ10 : Nat → FieldType := fun k => match k with
  | _ => .int
abbrev wsJ100 : List Cond := u_ws RJ10 TJ10 0
theorem nmJ10 : ∀ a, a < 0 → ∀ b, b < 0 → a ≠ b → (TJ10 a).2.1 ≠ (TJ10 b).2.1 := by decide +kernel
theorem tyJ10_ok : ∀ k, k < 0 → parseFieldDescriptor (TJ10 k).2.2.1 = some (tyJ10 k) := by decide +kernel
def RL : String := "WordRationLaw"
abbrev cL_law : ByteArray := code
def yL_law : MethodName := ⟨RL, "law", "([I)Z"⟩
abbrev vwCl : List vw_C := [(RX0, TX0, 3), (RX1, TX1, 3), (RX2, TX2, 4), (RX3, TX3, 3), (RX4, TX4, 10), (RX5, TX5, 9), (RX6, TX6, 6), (RX7, TX7, 15), (RX8, TX8, 13), (RX9, TX9, 58)]
end
section
/-! THE WORLD AS NUMBERED CELLS: memory, shapes, what the heap holds of it -/
def zSH : List (Nat × Nat) := [(99, 0), (8, 13), (6, 6), (10, 240), (7, 15), (10, 8), (10, 8), (10, 8), (10, 16), (10, 8), (10, 8), (10, 8), (10, 8), (7, 15), (10, 8), (10, 8), (10, 8), (10, 16), (10, 8), (10, 8), (10, 8), (10, 8), (5, 9), (10, 8), (10, 8), (10, 8), (10, 40), (5, 9), (10, 8), (10, 8), (10, 8), (10, 40), (3, 3), (13, 16), (5, 9), (10, 8), (10, 8), (10, 8), (10, 40), (5, 9), (10, 8), (10, 8), (10, 8), (10, 40), (5, 9), (10, 8), (10, 8), (10, 8), (10, 40), (5, 9), (10, 8), (10, 8), (10, 8), (10, 40), (5, 9), (10, 8), (10, 8), (10, 8), (10, 40), (5, 9), (10, 8), (10, 8), (10, 8), (10, 40), (5, 9), (10, 8), (10, 8), (10, 8), (10, 40), (5, 9), (10, 8), (10, 8), (10, 8), (10, 40), (5, 9), (10, 8), (10, 8), (10, 8), (10, 40), (5, 9), (10, 8), (10, 8), (10, 8), (10, 40), (5, 9), (10, 8), (10, 8), (10, 8), (10, 40), (5, 9), (10, 8), (10, 8), (10, 8), (10, 40), (5, 9), (10, 8), (10, 8), (10, 8), (10, 40), (5, 9), (10, 8), (10, 8), (10, 8), (10, 40), (5, 9), (10, 8), (10, 8), (10, 8), (10, 40), (5, 9), (10, 8), (10, 8), (10, 8), (10, 40), (12, 2), (4, 10), (10, 8), (10, 8), (10, 8), (10, 40), (10, 9), (10, 8), (10, 8), (2, 4), (10, 6), (10, 6), (11, 6), (0, 3), (10, 15), (10, 15), (10, 8), (10, 10), (1, 3), (5, 9), (10, 8), (10, 8), (10, 8), (10, 40), (1, 3), (5, 9), (10, 8), (10, 8), (10, 8), (10, 40), (9, 58), (10, 69), (10, 69), (10, 1104), (10, 8), (10, 8), (10, 16), (11, 8), (11, 5), (10, 32), (10, 240), (10, 8), (10, 8), (10, 8), (10, 16), (11, 8), (11, 5), (10, 32), (10, 8), (10, 8), (10, 9), (10, 9), (10, 8), (10, 8), (10, 8), (10, 10), (10, 10), (10, 6), (10, 6), (11, 6), (10, 15), (10, 15), (11, 2), (10, 138), (10, 2)]
def zRF : List (List Bool) := [[true, true, false], [true, false, false], [true, true, true, false], [true, false, false], [true, true, true, true, true, true, true, false, false, false], [true, true, true, true, false, false, false, false, false], [true, false, false, false, false, false], [false, false, false, false, false, false, false, true, true, true, true, true, true, true, true], [true, true, true, true, true, true, true, true, true, true, true, true, false], [true, true, true, false, false, false, false, false, false, true, true, true, true, true, true, true, false, false, false, false, false, false, false, false, false, false, true, true, true, true, true, true, true, false, true, false, true, true, true, true, true, false, false, true, false, false, true, true, false, true, true, true, false, true, true, true, true, true]]
def zsh (i : Nat) : Nat × Nat := zSH.getD i (99, 0)
def zisr (ci k : Nat) : Bool := (zRF.getD ci []).getD k false
/-- memory: how many cells, their slots, the numbers in them, the references (0: null) -/
abbrev zM : Type := Nat × Nat × (Nat → Nat → Int32) × (Nat → Nat → Nat)
def mI (M : zM) : Nat → Nat → Int32 := M.2.2.1
def mR (M : zM) : Nat → Nat → Nat := M.2.2.2
def wI (M : zM) (a : Nat) (f : Nat → Int32) : zM := (M.1, M.2.1, va_up (mI M) a f, mR M)
def wR (M : zM) (a : Nat) (f : Nat → Nat) : zM := (M.1, M.2.1, mI M, va_up (mR M) a f)
def wN (M : zM) (n : Nat) : zM := (M.1 + 1, M.2.1 + n, va_up (mI M) (M.1 + 1) (fun _ => 0), va_up (mR M) (M.1 + 1) (fun _ => 0))
/-- what is fixed: the floor, the classes, the array classes, the static tables' cells, the script -/
abbrev zG : Type := Nat × va_G × (ClassId × ClassId × ClassId × ClassId) × (Nat × Nat × Nat) × Nat × (Nat → Int32)
def zA (G : zG) : Nat → Prop := fun q => G.1 ≤ q
def zad (G : zG) (i : Nat) : Nat := if i < 1000 then G.1 + (i - 1) else if i = 1000 then G.2.2.2.1.1 else if i = 1001 then G.2.2.2.1.2.1 else G.2.2.2.1.2.2
def zo (G : zG) (r : Nat) : Option Nat := if r = 0 then none else some (zad G r)
def rv (G : zG) : Value → Value
  | .ref r => va_rf (zo G r)
  | v => v
def zfv (G : zG) (M : zM) (i k : Nat) : Value := if zisr (zsh i).1 k then va_rf (zo G (mR M i k)) else .int (mI M i k)
def zent (G : zG) (M : zM) (i : Nat) : va_E :=
  if (zsh i).1 = 10 then .inl (G.2.2.1.1, (zsh i).2, .inl (mI M i))
  else if (zsh i).1 = 11 then .inl (G.2.2.1.2.1, (zsh i).2, .inl (mI M i))
  else if (zsh i).1 = 12 then .inl (G.2.2.1.2.2.1, (zsh i).2, .inr (.inr (.inr (.inr (fun j => zo G (mR M i j))))))
  else if (zsh i).1 = 13 then .inl (G.2.2.1.2.2.2, (zsh i).2, .inr (.inr (.inr (.inr (fun j => zo G (mR M i j))))))
  else .inr ((zsh i).1, (List.range (zsh i).2).map (zfv G M i))
def zwl (G : zG) (M : zM) : va_W := (List.range M.1).map (fun j => (zad G (j + 1), zent G M (j + 1)))
def zty (G : zG) : List (ClassId × FieldType) := [(G.2.2.1.1, .int), (G.2.2.1.2.1, .boolean), (G.2.2.1.2.2.1, .object "WordRation$Image"), (G.2.2.1.2.2.2, .object "WordRation$State")]
def zEag (j : Nat) : Int32 := [4, 1, 2, 3, 0].getD j 0
def zRis (j : Nat) : Int32 := [0, 1, 2, 3, 4].getD j 0
def zNM : List (String × Nat × MethodName × String) := [(RX8, 18, yX7_init, RX8), (RX8, 28, yX5_init, RX8), (RX8, 51, yX4_init, RX8), (RX8, 58, yX2_init, RX8), (RX8, 65, yX0_init, RX8), (RX8, 77, yX1_init, RX8), (RX8, 9, yX6_init, RX8), (RX1, 9, yX5_init, RX8), (RX3, 17, yX5_init, RX8)]
def zKS (G : zG) (U : State) (H : Heap) : Prop :=
  va_K G.2.1 vwCl (zty G) U ∧ va_Z RX8 "EAGER" "[I" (.ref (zad G 1000)) (zA G) U H ∧ va_Z RX8 "RISING" "[I" (.ref (zad G 1001)) (zA G) U H ∧
  va_T .int (zad G 1000) 5 (fun j => .int (zEag j)) (zA G) U H ∧ va_T .int (zad G 1001) 5 (fun j => .int (zRis j)) (zA G) U H ∧ va_T .int (zad G 1002) G.2.2.2.2.1 (fun j => .int (G.2.2.2.2.2 j)) (zA G) U H ∧
  (∀ q ∈ zNM, va_Nw (.methodLinkNest q.1 q.2.1 q.2.2.1 q.2.2.2) U) ∧ va_Nw (.fieldLinkNest RX4 44 RX8 "EAGER" "[I" RX8) U ∧ va_Nw (.fieldLinkNest RX4 51 RX8 "RISING" "[I" RX8) U ∧
  va_AO "WordRation$Image" U ∧ va_AO "WordRation$State" U
theorem zKS.moved {G : zG} {s U : State} {H1 : Heap} (hW : s.WarmedH U.vm) (hk : ∀ a : Nat, a < s.heap.size → ¬ zA G a → H1[a]? = s.heap[a]?) (h : zKS G s s.heap) : zKS G U H1 := by
  obtain ⟨h1, h2, h3, h4, h5, h6, h7, h8, h9, h10, h11⟩ := h
  exact ⟨va_K.moved hW.alike h1, (va_Z.moved hW.alike h2).kept hk, (va_Z.moved hW.alike h3).kept hk, (va_T.moved hW.alike h4).kept hk, (va_T.moved hW.alike h5).kept hk, (va_T.moved hW.alike h6).kept hk,
    fun q hq => va_Nw.warmM hW (h7 q hq), va_Nw.warmF hW h8, va_Nw.warmF hW h9, va_AO.moved hW.alike h10, va_AO.moved hW.alike h11⟩
theorem zKS.calling {G : zG} {U : State} {g : JFrame} {mk : MethodId} {a : Array Value} (h : zKS G U U.heap) : zKS G (U.calling g mk a) (U.calling g mk a).heap := by
  obtain ⟨h1, h2, h3, h4, h5, h6, h7, h8, h9, h10, h11⟩ := h
  exact ⟨va_K.moved (u := U) (U := U.calling g mk a) (Vm.Alike.refl U.vm) h1, va_Z.moved (u := U) (U := U.calling g mk a) (Vm.Alike.refl U.vm) h2, va_Z.moved (u := U) (U := U.calling g mk a) (Vm.Alike.refl U.vm) h3,
    va_T.moved (u := U) (U := U.calling g mk a) (Vm.Alike.refl U.vm) h4, va_T.moved (u := U) (U := U.calling g mk a) (Vm.Alike.refl U.vm) h5, va_T.moved (u := U) (U := U.calling g mk a) (Vm.Alike.refl U.vm) h6,
    fun q hq => va_Nw.same rfl (u := U) (U := U.calling g mk a) rfl (h7 q hq), va_Nw.same rfl (u := U) (U := U.calling g mk a) rfl h8, va_Nw.same rfl (u := U) (U := U.calling g mk a) rfl h9, va_AO.moved (u := U) (U := U.calling g mk a) (Vm.Alike.refl U.vm) h10, va_AO.moved (u := U) (U := U.calling g mk a) (Vm.Alike.refl U.vm) h11⟩
def zSt (G : zG) (M : zM) : Prop := (∀ j, j < 5 → mI M 1000 j = zEag j) ∧ (∀ j, j < 5 → mI M 1001 j = zRis j) ∧ (∀ j, j < G.2.2.2.2.1 → mI M 1002 j = G.2.2.2.2.2 j) ∧ mR M 1002 0 = G.2.2.2.2.1 ∧ G.2.2.2.2.1 < 1000
def zWd (G : zG) (M : zM) (H : Heap) : Prop := va_P G.2.1 vwCl (zwl G M) H ∧ zSt G M ∧ M.1 < 1000
theorem zad_lo {G : zG} {i : Nat} (h : i < 1000) : zad G i = G.1 + (i - 1) := by simp [zad, h]
theorem zwl_get {G : zG} {M : zM} {i : Nat} (h1 : 1 ≤ i) (h2 : i ≤ M.1) : (zwl G M)[i - 1]? = some (zad G i, zent G M i) := by
  unfold zwl
  rw [List.getElem?_map, List.getElem?_range (by omega)]
  simp only [Option.map_some]
  rw [show i - 1 + 1 = i by omega]
theorem zwl_inv {G : zG} {M : zM} {k : Nat} {q : Nat × va_E} (h : (zwl G M)[k]? = some q) : k < M.1 ∧ q = (zad G (k + 1), zent G M (k + 1)) := by
  unfold zwl at h
  rw [List.getElem?_map] at h
  by_cases hk : k < M.1
  · rw [List.getElem?_range hk] at h
    simp only [Option.map_some] at h
    exact ⟨hk, (Option.some.inj h).symm⟩
  · have hn : (List.range M.1)[k]? = none := by
      rw [List.getElem?_eq_none]
      simp; omega
    rw [hn] at h
    cases h
theorem zwl_D {G : zG} {M : zM} (h : M.1 < 1000) : va_D (zA G) (zwl G M) := by
  refine ⟨fun i j p q hp hq e => ?_, fun k q hq => ?_⟩
  · obtain ⟨h1, rfl⟩ := zwl_inv hp
    obtain ⟨h2, rfl⟩ := zwl_inv hq
    simp only [] at e
    rw [zad_lo (by omega), zad_lo (by omega)] at e
    omega
  · obtain ⟨h1, rfl⟩ := zwl_inv hq
    simp only []
    rw [zad_lo (by omega)]
    exact Nat.le_add_right _ _
theorem zwl_set {G : zG} {M M' : zM} {i : Nat} (h0 : M'.1 = M.1) (h1 : 1 ≤ i) (h2 : i ≤ M.1) (ho : ∀ j, j ≠ i → zent G M' j = zent G M j) : (zwl G M).set (i - 1) (zad G i, zent G M' i) = zwl G M' := by
  apply List.ext_getElem?
  intro k
  by_cases hk : k = i - 1
  · subst hk
    have hl : i - 1 < (zwl G M).length := by simp [zwl]; omega
    rw [List.getElem?_set_self hl, zwl_get h1 (by omega)]
  · rw [List.getElem?_set_ne (Ne.symm hk)]
    unfold zwl
    rw [List.getElem?_map, List.getElem?_map, h0]
    by_cases hk2 : k < M.1
    · rw [List.getElem?_range hk2]
      simp only [Option.map_some]
      rw [ho (k + 1) (by omega)]
    · have hn : (List.range M.1)[k]? = none := by
        rw [List.getElem?_eq_none]; simp; omega
      rw [hn]
      rfl
theorem zwl_push {G : zG} {M : zM} {n : Nat} (ho : ∀ j, j ≤ M.1 → zent G (wN M n) j = zent G M j) : zwl G M ++ [(zad G (M.1 + 1), zent G (wN M n) (M.1 + 1))] = zwl G (wN M n) := by
  unfold zwl
  show _ = (List.range (M.1 + 1)).map _
  rw [List.range_succ, List.map_append]
  congr 1
  apply List.map_congr_left
  intro j hj
  have := List.mem_range.mp hj
  rw [ho (j + 1) (by omega)]
theorem zent_cong {G : zG} {M M' : zM} {j : Nat} (h1 : mI M' j = mI M j) (h2 : mR M' j = mR M j) : zent G M' j = zent G M j := by
  unfold zent
  rw [h1, h2]
  have : zfv G M' j = zfv G M j := by funext k; unfold zfv; rw [h1, h2]
  rw [this]
theorem mI_wI (M : zM) (a : Nat) (f : Nat → Int32) : mI (wI M a f) = va_up (mI M) a f := rfl
theorem mR_wI (M : zM) (a : Nat) (f : Nat → Int32) : mR (wI M a f) = mR M := rfl
end
section
/-! THE JUDGEMENT Ex: from every state that holds this memory, these locals and this stack, the method comes to its return with that answer and that memory; and its rules, one an instruction -/
def zW : List Cond := lw_tbl.filter goodWord
theorem zin {w : Cond} (h : w ∈ lw_tbl) (hg : goodWord w = true) : w ∈ zW := List.mem_filter.mpr ⟨h, hg⟩
theorem zin_t {w : Cond} (i : Nat) (h : tables_1[i]? = some w) (hg : goodWord w = true) : w ∈ zW := zin (List.mem_append_right _ (List.mem_of_getElem? h)) hg
theorem zin_p {q : MethodName × Nat} (h : q ∈ lw_privs) (hg : goodWord (Cond.selects q.1.cls q.1 q.1) = true) : Cond.selects q.1.cls q.1 q.1 ∈ zW := zin (List.mem_append_left _ (List.mem_map.mpr ⟨q, h, rfl⟩)) hg
theorem zW_good : ∀ w ∈ zW, goodWord w = true := fun _ h => (List.mem_filter.mp h).2
theorem zW_tbl : ∀ w ∈ zW, w ∈ lw_tbl := fun _ h => (List.mem_filter.mp h).1
def zLR (G : zG) (ls : Array Slot) (nL : Nat) (Ls : List Value) : Prop := ls.size = nL ∧ lv_wf ls ∧ ∀ (k : Nat) (v : Value), Ls[k]? = some v → v ≠ .null → ls[k]? = some (.val (rv G v))
def zRet (b : ByteArray) (ret : Option FieldType) (pc : Nat) : Option Value → Prop
  | none => ret = none ∧ decode b pc = .ok (.return_, 1)
  | some w => ∃ (x : Int32) (ty : FieldType), w = .int x ∧ ret = some ty ∧ narrow ty (.int x) = .int x ∧ decode b pc = .ok (.ireturn, 1)
def zCx (G : zG) (d : Nat) (y : MethodName) (b : ByteArray) (nL : Nat) (ret : Option FieldType) (p : Program) (R : Room) (s : State) (m : MethodId) (args : Array Value) (meth : Method) (c : Code) (T0 S0 : Nat) : Prop :=
  p.tables.exec = Jvm.exec ∧ c.code = b ∧ c.maxLocals = nL ∧ s.vm.findClass y.cls = some m.cls ∧ (∀ w ∈ zW, w.before args s = true) ∧ meth.sig.returnType = ret ∧ meth.locks = false ∧ meth.name = y.name ∧ zKS G s s.heap ∧ s.heap.size = G.1 + T0 ∧ d + 1 ≤ R.frames ∧ 64 * (d + 1) ≤ R.locals
def Ex (G : zG) (d : Nat) (y : MethodName) (b : ByteArray) (nL : Nat) (ret : Option FieldType) (pc : Nat) (Ls st : List Value) (M : zM) (res : Option Value × zM) : Prop :=
  (M.1 ≤ res.2.1 ∧ M.2.1 ≤ res.2.2.1) ∧ ∀ (p : Program) (l : Launch) (e : Env) (R : Room) (s : State) (m : MethodId) (args : Array Value) (below : List Frame) (meth : Method) (c : Code) (H : Heap) (locs : List Loc) (cells slots : Nat) (Q : State → Prop) (ls : Array Slot) (T0 S0 : Nat),
    zCx G d y b nL ret p R s m args meth c T0 S0 → zWd G M H → va_S (zA G) s.heap H locs → zLR G ls nL Ls → T0 + cells = M.1 → S0 + slots = M.2.1 → res.2.1 ≤ T0 + R.cells → res.2.2.1 ≤ S0 + R.slots →
    (∀ (H' : Heap) (locs' : List Loc) (cells' slots' : Nat) (pcr : Nat) (lsr : Array Slot), zWd G res.2 H' → va_S (zA G) s.heap H' locs' → T0 + cells' = res.2.1 → S0 + slots' = res.2.2.1 → zRet b ret pcr res.1 →
      W p l e R s m args below meth c H' locs' cells' slots' Q (F0 m pcr lsr (res.1.toList.map (rv G)))) →
    W p l e R s m args below meth c H locs cells slots Q (F0 m pc ls (st.map (rv G)))
section EX
variable {G : zG} {d : Nat} {y : MethodName} {b : ByteArray} {nL : Nat} {ret : Option FieldType} {pc : Nat} {Ls st : List Value} {M : zM} {res : Option Value × zM}
theorem x_ret {x : Int32} {ty : FieldType} (hd : decode b pc = .ok (.ireturn, 1)) (hr : ret = some ty) (hn : narrow ty (.int x) = .int x) : Ex G d y b nL ret pc Ls [.int x] M (some (.int x), M) := by
  refine ⟨⟨Nat.le_refl _, Nat.le_refl _⟩, ?_⟩
  intro p l e R s m args below meth c H locs cells slots Q ls T0 S0 hC hw hS hl h1 h2 h3 h4 K
  exact K H locs cells slots pc ls hw hS h1 h2 ⟨x, ty, rfl, hr, hn, hd⟩
theorem x_vret (hd : decode b pc = .ok (.return_, 1)) (hr : ret = none) : Ex G d y b nL ret pc Ls [] M (none, M) := by
  refine ⟨⟨Nat.le_refl _, Nat.le_refl _⟩, ?_⟩
  intro p l e R s m args below meth c H locs cells slots Q ls T0 S0 hC hw hS hl h1 h2 h3 h4 K
  exact K H locs cells slots pc ls hw hS h1 h2 ⟨hr, hd⟩
/-- a step that changes neither heap nor locals -/
theorem x_pure {pc2 : Nat} {st2 : List Value} (h : ∀ {p : Program} {l : Launch} {e : Env} {R : Room} {s : State} {m : MethodId} {args : Array Value} {below : List Frame} {meth : Method} {c : Code} {H : Heap} {locs : List Loc} {cells slots : Nat} {Q : State → Prop} {ls : Array Slot} {T0 S0 : Nat},
    zCx G d y b nL ret p R s m args meth c T0 S0 → zLR G ls nL Ls → W p l e R s m args below meth c H locs cells slots Q (F0 m pc2 ls (st2.map (rv G))) → W p l e R s m args below meth c H locs cells slots Q (F0 m pc ls (st.map (rv G))))
    (k : Ex G d y b nL ret pc2 Ls st2 M res) : Ex G d y b nL ret pc Ls st M res := by
  refine ⟨k.1, ?_⟩
  intro p l e R s m args below meth c H locs cells slots Q ls T0 S0 hC hw hS hl h1 h2 h3 h4 K
  exact h hC hl (k.2 p l e R s m args below meth c H locs cells slots Q ls T0 S0 hC hw hS hl h1 h2 h3 h4 K)
theorem zLR.at {ls : Array Slot} {k : Nat} {v : Value} (h : zLR G ls nL Ls) (hk : Ls[k]? = some v) (hv : v ≠ .null) : ls[k]? = some (.val (rv G v)) := h.2.2 k v hk hv
theorem x_iconst {n : Int} {v : Int32} (hd : decode b pc = .ok (.iconst n, 1)) (hv : Int32.ofInt n = v) (k : Ex G d y b nL ret (pc + 1) Ls (.int v :: st) M res) : Ex G d y b nL ret pc Ls st M res := x_pure (fun C _ w => lv_iconst C.1 C.2.1 hd hv w) k
theorem x_bipush {n : Int} {v : Int32} (hd : decode b pc = .ok (.bipush n, 2)) (hv : (Int8.ofInt n).toInt32 = v) (k : Ex G d y b nL ret (pc + 2) Ls (.int v :: st) M res) : Ex G d y b nL ret pc Ls st M res := x_pure (fun C _ w => lv_bipush C.1 C.2.1 hd hv w) k
theorem x_sipush {n : Int} {v : Int32} (hd : decode b pc = .ok (.sipush n, 3)) (hv : (Int16.ofInt n).toInt32 = v) (k : Ex G d y b nL ret (pc + 3) Ls (.int v :: st) M res) : Ex G d y b nL ret pc Ls st M res := x_pure (fun C _ w => lv_sipush C.1 C.2.1 hd hv w) k
theorem x_lconst {n : Fin 2} {v : Int64} (hd : decode b pc = .ok (.lconst n, 1)) (hv : Int64.ofNat (n : Nat) = v) (k : Ex G d y b nL ret (pc + 1) Ls (.long v :: st) M res) : Ex G d y b nL ret pc Ls st M res := x_pure (fun C _ w => lv_lconst C.1 C.2.1 hd hv w) k
theorem x_ldc {i : Nat} {v : Int32} (hd : decode b pc = .ok (.ldc i, 2)) (hc : Cond.constant y.cls i v ∈ zW) (k : Ex G d y b nL ret (pc + 2) Ls (.int v :: st) M res) : Ex G d y b nL ret pc Ls st M res := x_pure (fun C _ w => lv_ldc C.1 C.2.1 C.2.2.2.1 (C.2.2.2.2.1 _ hc) hd w) k
theorem x_ldcw {i : Nat} {v : Int32} (hd : decode b pc = .ok (.ldc_w i, 3)) (hc : Cond.constant y.cls i v ∈ zW) (k : Ex G d y b nL ret (pc + 3) Ls (.int v :: st) M res) : Ex G d y b nL ret pc Ls st M res := x_pure (fun C _ w => lv_ldcw C.1 C.2.1 C.2.2.2.1 (C.2.2.2.2.1 _ hc) hd w) k
theorem x_ldc2 {i : Nat} {v : Int64} (hd : decode b pc = .ok (.ldc2_w i, 3)) (hc : Cond.constantLong y.cls i v ∈ zW) (k : Ex G d y b nL ret (pc + 3) Ls (.long v :: st) M res) : Ex G d y b nL ret pc Ls st M res := x_pure (fun C _ w => lv_ldc2 C.1 C.2.1 C.2.2.2.1 (C.2.2.2.2.1 _ hc) hd w) k
theorem x_iload_n {n : Fin 4} {i : Nat} {x : Int32} (hd : decode b pc = .ok (.iload_n n, 1)) (hi : (n : Nat) = i) (hl : Ls[i]? = some (.int x)) (k : Ex G d y b nL ret (pc + 1) Ls (.int x :: st) M res) : Ex G d y b nL ret pc Ls st M res := x_pure (fun C h w => lv_iload_n C.1 C.2.1 hd hi (h.at hl (fun q => by cases q)) w) k
theorem x_iload {i : Nat} {x : Int32} (hd : decode b pc = .ok (.iload i, 2)) (hl : Ls[i]? = some (.int x)) (k : Ex G d y b nL ret (pc + 2) Ls (.int x :: st) M res) : Ex G d y b nL ret pc Ls st M res := x_pure (fun C h w => lv_iload C.1 C.2.1 hd (h.at hl (fun q => by cases q)) w) k
theorem x_lload_n {n : Fin 4} {i : Nat} {x : Int64} (hd : decode b pc = .ok (.lload_n n, 1)) (hi : (n : Nat) = i) (hl : Ls[i]? = some (.long x)) (k : Ex G d y b nL ret (pc + 1) Ls (.long x :: st) M res) : Ex G d y b nL ret pc Ls st M res := x_pure (fun C h w => lv_lload_n C.1 C.2.1 hd hi (h.at hl (fun q => by cases q)) w) k
theorem x_lload {i : Nat} {x : Int64} (hd : decode b pc = .ok (.lload i, 2)) (hl : Ls[i]? = some (.long x)) (k : Ex G d y b nL ret (pc + 2) Ls (.long x :: st) M res) : Ex G d y b nL ret pc Ls st M res := x_pure (fun C h w => lv_lload C.1 C.2.1 hd (h.at hl (fun q => by cases q)) w) k
theorem rv_ref {r : Nat} (h : r ≠ 0) : rv G (.ref r) = .ref (zad G r) := by simp [rv, zo, h, va_rf]
theorem x_aload_n {n : Fin 4} {i r : Nat} (hd : decode b pc = .ok (.aload_n n, 1)) (hi : (n : Nat) = i) (hl : Ls[i]? = some (.ref r)) (hr : r ≠ 0) (k : Ex G d y b nL ret (pc + 1) Ls (.ref r :: st) M res) : Ex G d y b nL ret pc Ls st M res := by
  refine x_pure (st2 := .ref r :: st) (fun C h w => ?_) k
  have h2 := h.at hl (fun q => by cases q)
  rw [rv_ref hr] at h2
  rw [List.map_cons, rv_ref hr] at w
  exact lv_aload_n C.1 C.2.1 hd hi h2 w
theorem x_aload {i r : Nat} (hd : decode b pc = .ok (.aload i, 2)) (hl : Ls[i]? = some (.ref r)) (hr : r ≠ 0) (k : Ex G d y b nL ret (pc + 2) Ls (.ref r :: st) M res) : Ex G d y b nL ret pc Ls st M res := by
  refine x_pure (st2 := .ref r :: st) (fun C h w => ?_) k
  have h2 := h.at hl (fun q => by cases q)
  rw [rv_ref hr] at h2
  rw [List.map_cons, rv_ref hr] at w
  exact lv_aload C.1 C.2.1 hd h2 w
theorem x_iadd {x z : Int32} (hd : decode b pc = .ok (.iadd, 1)) (k : Ex G d y b nL ret (pc + 1) Ls (.int (x + z) :: st) M res) : Ex G d y b nL ret pc Ls (.int z :: .int x :: st) M res := x_pure (fun C _ w => lv_iadd C.1 C.2.1 hd w) k
theorem x_isub {x z : Int32} (hd : decode b pc = .ok (.isub, 1)) (k : Ex G d y b nL ret (pc + 1) Ls (.int (x - z) :: st) M res) : Ex G d y b nL ret pc Ls (.int z :: .int x :: st) M res := x_pure (fun C _ w => lv_isub C.1 C.2.1 hd w) k
theorem x_imul {x z : Int32} (hd : decode b pc = .ok (.imul, 1)) (k : Ex G d y b nL ret (pc + 1) Ls (.int (x * z) :: st) M res) : Ex G d y b nL ret pc Ls (.int z :: .int x :: st) M res := x_pure (fun C _ w => lv_imul C.1 C.2.1 hd w) k
theorem x_iand {x z : Int32} (hd : decode b pc = .ok (.iand, 1)) (k : Ex G d y b nL ret (pc + 1) Ls (.int (x &&& z) :: st) M res) : Ex G d y b nL ret pc Ls (.int z :: .int x :: st) M res := x_pure (fun C _ w => lv_iand C.1 C.2.1 hd w) k
theorem x_ior {x z : Int32} (hd : decode b pc = .ok (.ior, 1)) (k : Ex G d y b nL ret (pc + 1) Ls (.int (x ||| z) :: st) M res) : Ex G d y b nL ret pc Ls (.int z :: .int x :: st) M res := x_pure (fun C _ w => lv_ior C.1 C.2.1 hd w) k
theorem x_idiv {x z : Int32} (hd : decode b pc = .ok (.idiv, 1)) (hz : ¬ z = 0) (k : Ex G d y b nL ret (pc + 1) Ls (.int (x / z) :: st) M res) : Ex G d y b nL ret pc Ls (.int z :: .int x :: st) M res := x_pure (fun C _ w => lv_idiv C.1 C.2.1 hd hz w) k
theorem x_irem {x z : Int32} (hd : decode b pc = .ok (.irem, 1)) (hz : ¬ z = 0) (k : Ex G d y b nL ret (pc + 1) Ls (.int (x - x / z * z) :: st) M res) : Ex G d y b nL ret pc Ls (.int z :: .int x :: st) M res := x_pure (fun C _ w => lv_irem C.1 C.2.1 hd hz w) k
theorem x_goto {off : Int} {t : Nat} (hd : decode b pc = .ok (.goto off, 3)) (ht : (pc : Int) + off = (t : Int)) (k : Ex G d y b nL ret t Ls st M res) : Ex G d y b nL ret pc Ls st M res := x_pure (fun C _ w => lv_goto C.1 C.2.1 hd ht w) k
theorem x_dup {v : Value} (hd : decode b pc = .ok (.dup, 1)) (hv : (rv G v).category = 1) (k : Ex G d y b nL ret (pc + 1) Ls (v :: v :: st) M res) : Ex G d y b nL ret pc Ls (v :: st) M res := x_pure (fun C _ w => lv_dup C.1 C.2.1 hd hv w) k
end EX
end
