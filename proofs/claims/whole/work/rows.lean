section
-- ===== PART A: goes FIRST, ahead of the names: the tables' words, and 'selects' of the private methods out of them =====
/-- a private method of a class that the tables say can be made, by its rows of tables_1 -/
def lw_okq (q : MethodName × Nat) : Prop := (q.1.cls ≠ "java/lang/invoke/MethodHandle" ∧ q.1.cls ≠ "java/lang/invoke/VarHandle") ∧ Cond.instantiable q.1.cls q.2 ∈ tables_1 ∧ Cond.privateMethod q.1 ∈ tables_1 ∧ Cond.instanceMethod q.1 ∈ tables_1
theorem lw_p0 : lw_okq (⟨"RestingBlocks$Text", "skipBlanks", "()V"⟩, 3) := ⟨⟨by decide +kernel, by decide +kernel⟩, List.mem_of_getElem? (i := 97) (by decide +kernel), List.mem_of_getElem? (i := 194) (by decide +kernel), List.mem_of_getElem? (i := 195) (by decide +kernel)⟩
theorem lw_p1 : lw_okq (⟨"RestingBlocks$Text", "next", "()I"⟩, 3) := ⟨⟨by decide +kernel, by decide +kernel⟩, List.mem_of_getElem? (i := 97) (by decide +kernel), List.mem_of_getElem? (i := 198) (by decide +kernel), List.mem_of_getElem? (i := 199) (by decide +kernel)⟩
theorem lw_p2 : lw_okq (⟨"RestingBlocks$Text", "readItem", "(LRestingBlocks$Pile;)Z"⟩, 3) := ⟨⟨by decide +kernel, by decide +kernel⟩, List.mem_of_getElem? (i := 97) (by decide +kernel), List.mem_of_getElem? (i := 202) (by decide +kernel), List.mem_of_getElem? (i := 203) (by decide +kernel)⟩
theorem lw_p3 : lw_okq (⟨"RestingBlocks$Text", "readBlock", "(LRestingBlocks$Pile;)Z"⟩, 3) := ⟨⟨by decide +kernel, by decide +kernel⟩, List.mem_of_getElem? (i := 97) (by decide +kernel), List.mem_of_getElem? (i := 206) (by decide +kernel), List.mem_of_getElem? (i := 207) (by decide +kernel)⟩
theorem lw_p4 : lw_okq (⟨"RestingBlocks$Text", "readNumber", "(II)I"⟩, 3) := ⟨⟨by decide +kernel, by decide +kernel⟩, List.mem_of_getElem? (i := 97) (by decide +kernel), List.mem_of_getElem? (i := 214) (by decide +kernel), List.mem_of_getElem? (i := 215) (by decide +kernel)⟩
theorem lw_p5 : lw_okq (⟨"RestingBlocks$Text", "readEnd", "()Z"⟩, 3) := ⟨⟨by decide +kernel, by decide +kernel⟩, List.mem_of_getElem? (i := 97) (by decide +kernel), List.mem_of_getElem? (i := 225) (by decide +kernel), List.mem_of_getElem? (i := 226) (by decide +kernel)⟩
theorem lw_p6 : lw_okq (⟨"RestingBlocks$Text", "readLoad", "(LRestingBlocks$Pile;)Z"⟩, 3) := ⟨⟨by decide +kernel, by decide +kernel⟩, List.mem_of_getElem? (i := 97) (by decide +kernel), List.mem_of_getElem? (i := 243) (by decide +kernel), List.mem_of_getElem? (i := 244) (by decide +kernel)⟩
theorem lw_p7 : lw_okq (⟨"RestingBlocks", "remember", "()V"⟩, 9) := ⟨⟨by decide +kernel, by decide +kernel⟩, List.mem_of_getElem? (i := 12) (by decide +kernel), List.mem_of_getElem? (i := 256) (by decide +kernel), List.mem_of_getElem? (i := 257) (by decide +kernel)⟩
theorem lw_p8 : lw_okq (⟨"RestingBlocks$Layout", "findLevel", "(I)V"⟩, 10) := ⟨⟨by decide +kernel, by decide +kernel⟩, List.mem_of_getElem? (i := 32) (by decide +kernel), List.mem_of_getElem? (i := 293) (by decide +kernel), List.mem_of_getElem? (i := 294) (by decide +kernel)⟩
theorem lw_p9 : lw_okq (⟨"RestingBlocks$Layout", "overlap", "(II)Z"⟩, 10) := ⟨⟨by decide +kernel, by decide +kernel⟩, List.mem_of_getElem? (i := 32) (by decide +kernel), List.mem_of_getElem? (i := 297) (by decide +kernel), List.mem_of_getElem? (i := 298) (by decide +kernel)⟩
theorem lw_p10 : lw_okq (⟨"RestingBlocks$Layout", "findUnder", "(I)V"⟩, 10) := ⟨⟨by decide +kernel, by decide +kernel⟩, List.mem_of_getElem? (i := 32) (by decide +kernel), List.mem_of_getElem? (i := 302) (by decide +kernel), List.mem_of_getElem? (i := 303) (by decide +kernel)⟩
theorem lw_p11 : lw_okq (⟨"RestingBlocks$Layout", "findContacts", "(I)V"⟩, 10) := ⟨⟨by decide +kernel, by decide +kernel⟩, List.mem_of_getElem? (i := 32) (by decide +kernel), List.mem_of_getElem? (i := 306) (by decide +kernel), List.mem_of_getElem? (i := 307) (by decide +kernel)⟩
theorem lw_p12 : lw_okq (⟨"RestingBlocks$Layout", "addContact", "(III)V"⟩, 10) := ⟨⟨by decide +kernel, by decide +kernel⟩, List.mem_of_getElem? (i := 32) (by decide +kernel), List.mem_of_getElem? (i := 310) (by decide +kernel), List.mem_of_getElem? (i := 311) (by decide +kernel)⟩
theorem lw_p13 : lw_okq (⟨"RestingBlocks", "isSpot", "(II)Z"⟩, 9) := ⟨⟨by decide +kernel, by decide +kernel⟩, List.mem_of_getElem? (i := 12) (by decide +kernel), List.mem_of_getElem? (i := 342) (by decide +kernel), List.mem_of_getElem? (i := 343) (by decide +kernel)⟩
theorem lw_p14 : lw_okq (⟨"RestingBlocks", "isBalanced", "(LRestingBlocks$Pile;I)Z"⟩, 9) := ⟨⟨by decide +kernel, by decide +kernel⟩, List.mem_of_getElem? (i := 12) (by decide +kernel), List.mem_of_getElem? (i := 386) (by decide +kernel), List.mem_of_getElem? (i := 387) (by decide +kernel)⟩
theorem lw_p15 : lw_okq (⟨"RestingBlocks$Balance", "poseBlock", "(LRestingBlocks$Pile;LRestingBlocks$Layout;I)V"⟩, 6) := ⟨⟨by decide +kernel, by decide +kernel⟩, List.mem_of_getElem? (i := 69) (by decide +kernel), List.mem_of_getElem? (i := 397) (by decide +kernel), List.mem_of_getElem? (i := 398) (by decide +kernel)⟩
def lw_privs_1 : List (MethodName × Nat) := [(⟨"RestingBlocks$Text", "skipBlanks", "()V"⟩, 3), (⟨"RestingBlocks$Text", "next", "()I"⟩, 3), (⟨"RestingBlocks$Text", "readItem", "(LRestingBlocks$Pile;)Z"⟩, 3), (⟨"RestingBlocks$Text", "readBlock", "(LRestingBlocks$Pile;)Z"⟩, 3), (⟨"RestingBlocks$Text", "readNumber", "(II)I"⟩, 3), (⟨"RestingBlocks$Text", "readEnd", "()Z"⟩, 3), (⟨"RestingBlocks$Text", "readLoad", "(LRestingBlocks$Pile;)Z"⟩, 3), (⟨"RestingBlocks", "remember", "()V"⟩, 9), (⟨"RestingBlocks$Layout", "findLevel", "(I)V"⟩, 10), (⟨"RestingBlocks$Layout", "overlap", "(II)Z"⟩, 10), (⟨"RestingBlocks$Layout", "findUnder", "(I)V"⟩, 10), (⟨"RestingBlocks$Layout", "findContacts", "(I)V"⟩, 10), (⟨"RestingBlocks$Layout", "addContact", "(III)V"⟩, 10), (⟨"RestingBlocks", "isSpot", "(II)Z"⟩, 9), (⟨"RestingBlocks", "isBalanced", "(LRestingBlocks$Pile;I)Z"⟩, 9), (⟨"RestingBlocks$Balance", "poseBlock", "(LRestingBlocks$Pile;LRestingBlocks$Layout;I)V"⟩, 6)]
theorem lw_r1 : ∀ q ∈ lw_privs_1, lw_okq q := List.forall_mem_cons.mpr ⟨lw_p0, List.forall_mem_cons.mpr ⟨lw_p1, List.forall_mem_cons.mpr ⟨lw_p2, List.forall_mem_cons.mpr ⟨lw_p3, List.forall_mem_cons.mpr ⟨lw_p4, List.forall_mem_cons.mpr ⟨lw_p5, List.forall_mem_cons.mpr ⟨lw_p6, List.forall_mem_cons.mpr ⟨lw_p7, List.forall_mem_cons.mpr ⟨lw_p8, List.forall_mem_cons.mpr ⟨lw_p9, List.forall_mem_cons.mpr ⟨lw_p10, List.forall_mem_cons.mpr ⟨lw_p11, List.forall_mem_cons.mpr ⟨lw_p12, List.forall_mem_cons.mpr ⟨lw_p13, List.forall_mem_cons.mpr ⟨lw_p14, List.forall_mem_cons.mpr ⟨lw_p15, fun _ h => absurd h List.not_mem_nil⟩⟩⟩⟩⟩⟩⟩⟩⟩⟩⟩⟩⟩⟩⟩⟩
theorem lw_p16 : lw_okq (⟨"RestingBlocks$Balance", "firstThatLessensMakeshift", "()I"⟩, 6) := ⟨⟨by decide +kernel, by decide +kernel⟩, List.mem_of_getElem? (i := 69) (by decide +kernel), List.mem_of_getElem? (i := 410) (by decide +kernel), List.mem_of_getElem? (i := 411) (by decide +kernel)⟩
theorem lw_p17 : lw_okq (⟨"RestingBlocks$Balance", "makeshift", "(I)J"⟩, 6) := ⟨⟨by decide +kernel, by decide +kernel⟩, List.mem_of_getElem? (i := 69) (by decide +kernel), List.mem_of_getElem? (i := 414) (by decide +kernel), List.mem_of_getElem? (i := 415) (by decide +kernel)⟩
theorem lw_p18 : lw_okq (⟨"RestingBlocks$Balance", "leavingRow", "(I)I"⟩, 6) := ⟨⟨by decide +kernel, by decide +kernel⟩, List.mem_of_getElem? (i := 69) (by decide +kernel), List.mem_of_getElem? (i := 418) (by decide +kernel), List.mem_of_getElem? (i := 419) (by decide +kernel)⟩
theorem lw_p19 : lw_okq (⟨"RestingBlocks$Balance", "leavesAhead", "(III)Z"⟩, 6) := ⟨⟨by decide +kernel, by decide +kernel⟩, List.mem_of_getElem? (i := 69) (by decide +kernel), List.mem_of_getElem? (i := 422) (by decide +kernel), List.mem_of_getElem? (i := 423) (by decide +kernel)⟩
theorem lw_p20 : lw_okq (⟨"RestingBlocks$Balance", "pivot", "(II)V"⟩, 6) := ⟨⟨by decide +kernel, by decide +kernel⟩, List.mem_of_getElem? (i := 69) (by decide +kernel), List.mem_of_getElem? (i := 426) (by decide +kernel), List.mem_of_getElem? (i := 427) (by decide +kernel)⟩
theorem lw_p21 : lw_okq (⟨"RestingBlocks$Balance", "turnSigns", "(I)V"⟩, 6) := ⟨⟨by decide +kernel, by decide +kernel⟩, List.mem_of_getElem? (i := 69) (by decide +kernel), List.mem_of_getElem? (i := 430) (by decide +kernel), List.mem_of_getElem? (i := 431) (by decide +kernel)⟩
theorem lw_p22 : lw_okq (⟨"RestingBlocks$Balance", "clearBy", "(III)V"⟩, 6) := ⟨⟨by decide +kernel, by decide +kernel⟩, List.mem_of_getElem? (i := 69) (by decide +kernel), List.mem_of_getElem? (i := 434) (by decide +kernel), List.mem_of_getElem? (i := 435) (by decide +kernel)⟩
theorem lw_p23 : lw_okq (⟨"RestingBlocks$Balance", "driveOutMakeshift", "()V"⟩, 6) := ⟨⟨by decide +kernel, by decide +kernel⟩, List.mem_of_getElem? (i := 69) (by decide +kernel), List.mem_of_getElem? (i := 438) (by decide +kernel), List.mem_of_getElem? (i := 439) (by decide +kernel)⟩
theorem lw_p24 : lw_okq (⟨"RestingBlocks", "extreme", "(II)J"⟩, 9) := ⟨⟨by decide +kernel, by decide +kernel⟩, List.mem_of_getElem? (i := 12) (by decide +kernel), List.mem_of_getElem? (i := 447) (by decide +kernel), List.mem_of_getElem? (i := 448) (by decide +kernel)⟩
theorem lw_p25 : lw_okq (⟨"RestingBlocks$Balance", "rowThatGives", "(I)I"⟩, 6) := ⟨⟨by decide +kernel, by decide +kernel⟩, List.mem_of_getElem? (i := 69) (by decide +kernel), List.mem_of_getElem? (i := 456) (by decide +kernel), List.mem_of_getElem? (i := 457) (by decide +kernel)⟩
theorem lw_p26 : lw_okq (⟨"RestingBlocks$Balance", "firstOfSign", "(III)I"⟩, 6) := ⟨⟨by decide +kernel, by decide +kernel⟩, List.mem_of_getElem? (i := 69) (by decide +kernel), List.mem_of_getElem? (i := 460) (by decide +kernel), List.mem_of_getElem? (i := 461) (by decide +kernel)⟩
theorem lw_p27 : lw_okq (⟨"RestingBlocks", "restsWithout", "(I)Z"⟩, 9) := ⟨⟨by decide +kernel, by decide +kernel⟩, List.mem_of_getElem? (i := 12) (by decide +kernel), List.mem_of_getElem? (i := 505) (by decide +kernel), List.mem_of_getElem? (i := 506) (by decide +kernel)⟩
theorem lw_p28 : lw_okq (⟨"RestingBlocksModel", "lays", "([II)V"⟩, 27) := ⟨⟨by decide +kernel, by decide +kernel⟩, List.mem_of_getElem? (i := 540) (by decide +kernel), List.mem_of_getElem? (i := 643) (by decide +kernel), List.mem_of_getElem? (i := 644) (by decide +kernel)⟩
theorem lw_p29 : lw_okq (⟨"RestingBlocksModel", "reads", "()Z"⟩, 27) := ⟨⟨by decide +kernel, by decide +kernel⟩, List.mem_of_getElem? (i := 540) (by decide +kernel), List.mem_of_getElem? (i := 647) (by decide +kernel), List.mem_of_getElem? (i := 648) (by decide +kernel)⟩
theorem lw_p30 : lw_okq (⟨"RestingBlocksModel", "skips", "()V"⟩, 27) := ⟨⟨by decide +kernel, by decide +kernel⟩, List.mem_of_getElem? (i := 540) (by decide +kernel), List.mem_of_getElem? (i := 651) (by decide +kernel), List.mem_of_getElem? (i := 652) (by decide +kernel)⟩
theorem lw_p31 : lw_okq (⟨"RestingBlocksModel", "passes", "(I)Z"⟩, 27) := ⟨⟨by decide +kernel, by decide +kernel⟩, List.mem_of_getElem? (i := 540) (by decide +kernel), List.mem_of_getElem? (i := 655) (by decide +kernel), List.mem_of_getElem? (i := 656) (by decide +kernel)⟩
def lw_privs_2 : List (MethodName × Nat) := [(⟨"RestingBlocks$Balance", "firstThatLessensMakeshift", "()I"⟩, 6), (⟨"RestingBlocks$Balance", "makeshift", "(I)J"⟩, 6), (⟨"RestingBlocks$Balance", "leavingRow", "(I)I"⟩, 6), (⟨"RestingBlocks$Balance", "leavesAhead", "(III)Z"⟩, 6), (⟨"RestingBlocks$Balance", "pivot", "(II)V"⟩, 6), (⟨"RestingBlocks$Balance", "turnSigns", "(I)V"⟩, 6), (⟨"RestingBlocks$Balance", "clearBy", "(III)V"⟩, 6), (⟨"RestingBlocks$Balance", "driveOutMakeshift", "()V"⟩, 6), (⟨"RestingBlocks", "extreme", "(II)J"⟩, 9), (⟨"RestingBlocks$Balance", "rowThatGives", "(I)I"⟩, 6), (⟨"RestingBlocks$Balance", "firstOfSign", "(III)I"⟩, 6), (⟨"RestingBlocks", "restsWithout", "(I)Z"⟩, 9), (⟨"RestingBlocksModel", "lays", "([II)V"⟩, 27), (⟨"RestingBlocksModel", "reads", "()Z"⟩, 27), (⟨"RestingBlocksModel", "skips", "()V"⟩, 27), (⟨"RestingBlocksModel", "passes", "(I)Z"⟩, 27)]
theorem lw_r2 : ∀ q ∈ lw_privs_2, lw_okq q := List.forall_mem_cons.mpr ⟨lw_p16, List.forall_mem_cons.mpr ⟨lw_p17, List.forall_mem_cons.mpr ⟨lw_p18, List.forall_mem_cons.mpr ⟨lw_p19, List.forall_mem_cons.mpr ⟨lw_p20, List.forall_mem_cons.mpr ⟨lw_p21, List.forall_mem_cons.mpr ⟨lw_p22, List.forall_mem_cons.mpr ⟨lw_p23, List.forall_mem_cons.mpr ⟨lw_p24, List.forall_mem_cons.mpr ⟨lw_p25, List.forall_mem_cons.mpr ⟨lw_p26, List.forall_mem_cons.mpr ⟨lw_p27, List.forall_mem_cons.mpr ⟨lw_p28, List.forall_mem_cons.mpr ⟨lw_p29, List.forall_mem_cons.mpr ⟨lw_p30, List.forall_mem_cons.mpr ⟨lw_p31, fun _ h => absurd h List.not_mem_nil⟩⟩⟩⟩⟩⟩⟩⟩⟩⟩⟩⟩⟩⟩⟩⟩
theorem lw_p32 : lw_okq (⟨"RestingBlocksModel", "readsBlock", "()Z"⟩, 27) := ⟨⟨by decide +kernel, by decide +kernel⟩, List.mem_of_getElem? (i := 540) (by decide +kernel), List.mem_of_getElem? (i := 659) (by decide +kernel), List.mem_of_getElem? (i := 660) (by decide +kernel)⟩
theorem lw_p33 : lw_okq (⟨"RestingBlocksModel", "number", "(II)I"⟩, 27) := ⟨⟨by decide +kernel, by decide +kernel⟩, List.mem_of_getElem? (i := 540) (by decide +kernel), List.mem_of_getElem? (i := 663) (by decide +kernel), List.mem_of_getElem? (i := 664) (by decide +kernel)⟩
theorem lw_p34 : lw_okq (⟨"RestingBlocksModel", "isFigure", "()Z"⟩, 27) := ⟨⟨by decide +kernel, by decide +kernel⟩, List.mem_of_getElem? (i := 540) (by decide +kernel), List.mem_of_getElem? (i := 667) (by decide +kernel), List.mem_of_getElem? (i := 668) (by decide +kernel)⟩
theorem lw_p35 : lw_okq (⟨"RestingBlocksModel", "appends", "(III)V"⟩, 27) := ⟨⟨by decide +kernel, by decide +kernel⟩, List.mem_of_getElem? (i := 540) (by decide +kernel), List.mem_of_getElem? (i := 671) (by decide +kernel), List.mem_of_getElem? (i := 672) (by decide +kernel)⟩
theorem lw_p36 : lw_okq (⟨"RestingBlocksModel", "readsLoad", "()Z"⟩, 27) := ⟨⟨by decide +kernel, by decide +kernel⟩, List.mem_of_getElem? (i := 540) (by decide +kernel), List.mem_of_getElem? (i := 675) (by decide +kernel), List.mem_of_getElem? (i := 676) (by decide +kernel)⟩
theorem lw_p37 : lw_okq (⟨"RestingBlocksModel", "get", "(II)I"⟩, 27) := ⟨⟨by decide +kernel, by decide +kernel⟩, List.mem_of_getElem? (i := 540) (by decide +kernel), List.mem_of_getElem? (i := 679) (by decide +kernel), List.mem_of_getElem? (i := 680) (by decide +kernel)⟩
theorem lw_p38 : lw_okq (⟨"RestingBlocksModel", "takes", "([II)V"⟩, 27) := ⟨⟨by decide +kernel, by decide +kernel⟩, List.mem_of_getElem? (i := 540) (by decide +kernel), List.mem_of_getElem? (i := 683) (by decide +kernel), List.mem_of_getElem? (i := 684) (by decide +kernel)⟩
theorem lw_p39 : lw_okq (⟨"RestingBlocksModel", "keeps", "()V"⟩, 27) := ⟨⟨by decide +kernel, by decide +kernel⟩, List.mem_of_getElem? (i := 540) (by decide +kernel), List.mem_of_getElem? (i := 687) (by decide +kernel), List.mem_of_getElem? (i := 688) (by decide +kernel)⟩
theorem lw_p40 : lw_okq (⟨"RestingBlocksModel", "layAll", "()V"⟩, 27) := ⟨⟨by decide +kernel, by decide +kernel⟩, List.mem_of_getElem? (i := 540) (by decide +kernel), List.mem_of_getElem? (i := 698) (by decide +kernel), List.mem_of_getElem? (i := 699) (by decide +kernel)⟩
theorem lw_p41 : lw_okq (⟨"RestingBlocksModel", "many", "()I"⟩, 27) := ⟨⟨by decide +kernel, by decide +kernel⟩, List.mem_of_getElem? (i := 540) (by decide +kernel), List.mem_of_getElem? (i := 702) (by decide +kernel), List.mem_of_getElem? (i := 703) (by decide +kernel)⟩
theorem lw_p42 : lw_okq (⟨"RestingBlocksModel", "layBlock", "(I)V"⟩, 27) := ⟨⟨by decide +kernel, by decide +kernel⟩, List.mem_of_getElem? (i := 540) (by decide +kernel), List.mem_of_getElem? (i := 706) (by decide +kernel), List.mem_of_getElem? (i := 707) (by decide +kernel)⟩
theorem lw_p43 : lw_okq (⟨"RestingBlocksModel", "doOverlap", "(II)Z"⟩, 27) := ⟨⟨by decide +kernel, by decide +kernel⟩, List.mem_of_getElem? (i := 540) (by decide +kernel), List.mem_of_getElem? (i := 710) (by decide +kernel), List.mem_of_getElem? (i := 711) (by decide +kernel)⟩
theorem lw_p44 : lw_okq (⟨"RestingBlocksModel", "from", "(II)I"⟩, 27) := ⟨⟨by decide +kernel, by decide +kernel⟩, List.mem_of_getElem? (i := 540) (by decide +kernel), List.mem_of_getElem? (i := 714) (by decide +kernel), List.mem_of_getElem? (i := 715) (by decide +kernel)⟩
theorem lw_p45 : lw_okq (⟨"RestingBlocksModel", "to", "(II)I"⟩, 27) := ⟨⟨by decide +kernel, by decide +kernel⟩, List.mem_of_getElem? (i := 540) (by decide +kernel), List.mem_of_getElem? (i := 718) (by decide +kernel), List.mem_of_getElem? (i := 719) (by decide +kernel)⟩
theorem lw_p46 : lw_okq (⟨"RestingBlocksModel", "end", "(I)I"⟩, 27) := ⟨⟨by decide +kernel, by decide +kernel⟩, List.mem_of_getElem? (i := 540) (by decide +kernel), List.mem_of_getElem? (i := 722) (by decide +kernel), List.mem_of_getElem? (i := 723) (by decide +kernel)⟩
theorem lw_p47 : lw_okq (⟨"RestingBlocksModel", "touches", "(III)V"⟩, 27) := ⟨⟨by decide +kernel, by decide +kernel⟩, List.mem_of_getElem? (i := 540) (by decide +kernel), List.mem_of_getElem? (i := 726) (by decide +kernel), List.mem_of_getElem? (i := 727) (by decide +kernel)⟩
def lw_privs_3 : List (MethodName × Nat) := [(⟨"RestingBlocksModel", "readsBlock", "()Z"⟩, 27), (⟨"RestingBlocksModel", "number", "(II)I"⟩, 27), (⟨"RestingBlocksModel", "isFigure", "()Z"⟩, 27), (⟨"RestingBlocksModel", "appends", "(III)V"⟩, 27), (⟨"RestingBlocksModel", "readsLoad", "()Z"⟩, 27), (⟨"RestingBlocksModel", "get", "(II)I"⟩, 27), (⟨"RestingBlocksModel", "takes", "([II)V"⟩, 27), (⟨"RestingBlocksModel", "keeps", "()V"⟩, 27), (⟨"RestingBlocksModel", "layAll", "()V"⟩, 27), (⟨"RestingBlocksModel", "many", "()I"⟩, 27), (⟨"RestingBlocksModel", "layBlock", "(I)V"⟩, 27), (⟨"RestingBlocksModel", "doOverlap", "(II)Z"⟩, 27), (⟨"RestingBlocksModel", "from", "(II)I"⟩, 27), (⟨"RestingBlocksModel", "to", "(II)I"⟩, 27), (⟨"RestingBlocksModel", "end", "(I)I"⟩, 27), (⟨"RestingBlocksModel", "touches", "(III)V"⟩, 27)]
theorem lw_r3 : ∀ q ∈ lw_privs_3, lw_okq q := List.forall_mem_cons.mpr ⟨lw_p32, List.forall_mem_cons.mpr ⟨lw_p33, List.forall_mem_cons.mpr ⟨lw_p34, List.forall_mem_cons.mpr ⟨lw_p35, List.forall_mem_cons.mpr ⟨lw_p36, List.forall_mem_cons.mpr ⟨lw_p37, List.forall_mem_cons.mpr ⟨lw_p38, List.forall_mem_cons.mpr ⟨lw_p39, List.forall_mem_cons.mpr ⟨lw_p40, List.forall_mem_cons.mpr ⟨lw_p41, List.forall_mem_cons.mpr ⟨lw_p42, List.forall_mem_cons.mpr ⟨lw_p43, List.forall_mem_cons.mpr ⟨lw_p44, List.forall_mem_cons.mpr ⟨lw_p45, List.forall_mem_cons.mpr ⟨lw_p46, List.forall_mem_cons.mpr ⟨lw_p47, fun _ h => absurd h List.not_mem_nil⟩⟩⟩⟩⟩⟩⟩⟩⟩⟩⟩⟩⟩⟩⟩⟩
theorem lw_p48 : lw_okq (⟨"RestingBlocksModel", "isBlock", "(I)Z"⟩, 27) := ⟨⟨by decide +kernel, by decide +kernel⟩, List.mem_of_getElem? (i := 540) (by decide +kernel), List.mem_of_getElem? (i := 734) (by decide +kernel), List.mem_of_getElem? (i := 735) (by decide +kernel)⟩
theorem lw_p49 : lw_okq (⟨"RestingBlocksModel", "above", "(I)I"⟩, 27) := ⟨⟨by decide +kernel, by decide +kernel⟩, List.mem_of_getElem? (i := 540) (by decide +kernel), List.mem_of_getElem? (i := 738) (by decide +kernel), List.mem_of_getElem? (i := 739) (by decide +kernel)⟩
theorem lw_p50 : lw_okq (⟨"RestingBlocksModel", "removes", "(I)V"⟩, 27) := ⟨⟨by decide +kernel, by decide +kernel⟩, List.mem_of_getElem? (i := 540) (by decide +kernel), List.mem_of_getElem? (i := 745) (by decide +kernel), List.mem_of_getElem? (i := 746) (by decide +kernel)⟩
theorem lw_p51 : lw_okq (⟨"RestingBlocksModel", "isSpot", "(II)Z"⟩, 27) := ⟨⟨by decide +kernel, by decide +kernel⟩, List.mem_of_getElem? (i := 540) (by decide +kernel), List.mem_of_getElem? (i := 757) (by decide +kernel), List.mem_of_getElem? (i := 758) (by decide +kernel)⟩
theorem lw_p52 : lw_okq (⟨"RestingBlocksModel", "tellBlock", "(II)I"⟩, 27) := ⟨⟨by decide +kernel, by decide +kernel⟩, List.mem_of_getElem? (i := 540) (by decide +kernel), List.mem_of_getElem? (i := 769) (by decide +kernel), List.mem_of_getElem? (i := 770) (by decide +kernel)⟩
theorem lw_p53 : lw_okq (⟨"RestingBlocksModel", "isContact", "(I)Z"⟩, 27) := ⟨⟨by decide +kernel, by decide +kernel⟩, List.mem_of_getElem? (i := 540) (by decide +kernel), List.mem_of_getElem? (i := 777) (by decide +kernel), List.mem_of_getElem? (i := 778) (by decide +kernel)⟩
theorem lw_p54 : lw_okq (⟨"RestingBlocksModel", "isResting", "()Z"⟩, 27) := ⟨⟨by decide +kernel, by decide +kernel⟩, List.mem_of_getElem? (i := 540) (by decide +kernel), List.mem_of_getElem? (i := 785) (by decide +kernel), List.mem_of_getElem? (i := 786) (by decide +kernel)⟩
theorem lw_p55 : lw_okq (⟨"RestingBlocksModel", "all", "()I"⟩, 27) := ⟨⟨by decide +kernel, by decide +kernel⟩, List.mem_of_getElem? (i := 540) (by decide +kernel), List.mem_of_getElem? (i := 789) (by decide +kernel), List.mem_of_getElem? (i := 790) (by decide +kernel)⟩
theorem lw_p56 : lw_okq (⟨"RestingBlocksModel", "canBalance", "(I)Z"⟩, 27) := ⟨⟨by decide +kernel, by decide +kernel⟩, List.mem_of_getElem? (i := 540) (by decide +kernel), List.mem_of_getElem? (i := 793) (by decide +kernel), List.mem_of_getElem? (i := 794) (by decide +kernel)⟩
theorem lw_p57 : lw_okq (⟨"RestingBlocksModel", "layRows", "(IIIZ)V"⟩, 27) := ⟨⟨by decide +kernel, by decide +kernel⟩, List.mem_of_getElem? (i := 540) (by decide +kernel), List.mem_of_getElem? (i := 797) (by decide +kernel), List.mem_of_getElem? (i := 798) (by decide +kernel)⟩
theorem lw_p58 : lw_okq (⟨"RestingBlocksModel", "layRow", "(IIIIZ)V"⟩, 27) := ⟨⟨by decide +kernel, by decide +kernel⟩, List.mem_of_getElem? (i := 540) (by decide +kernel), List.mem_of_getElem? (i := 801) (by decide +kernel), List.mem_of_getElem? (i := 802) (by decide +kernel)⟩
theorem lw_p59 : lw_okq (⟨"RestingBlocksModel", "seeks", "(I)V"⟩, 27) := ⟨⟨by decide +kernel, by decide +kernel⟩, List.mem_of_getElem? (i := 540) (by decide +kernel), List.mem_of_getElem? (i := 806) (by decide +kernel), List.mem_of_getElem? (i := 807) (by decide +kernel)⟩
theorem lw_p60 : lw_okq (⟨"RestingBlocksModel", "solves", "(I)Z"⟩, 27) := ⟨⟨by decide +kernel, by decide +kernel⟩, List.mem_of_getElem? (i := 540) (by decide +kernel), List.mem_of_getElem? (i := 813) (by decide +kernel), List.mem_of_getElem? (i := 814) (by decide +kernel)⟩
theorem lw_p61 : lw_okq (⟨"RestingBlocksModel", "fills", "(I)V"⟩, 27) := ⟨⟨by decide +kernel, by decide +kernel⟩, List.mem_of_getElem? (i := 540) (by decide +kernel), List.mem_of_getElem? (i := 817) (by decide +kernel), List.mem_of_getElem? (i := 818) (by decide +kernel)⟩
theorem lw_p62 : lw_okq (⟨"RestingBlocksModel", "pivot", "(I)I"⟩, 27) := ⟨⟨by decide +kernel, by decide +kernel⟩, List.mem_of_getElem? (i := 540) (by decide +kernel), List.mem_of_getElem? (i := 821) (by decide +kernel), List.mem_of_getElem? (i := 822) (by decide +kernel)⟩
theorem lw_p63 : lw_okq (⟨"RestingBlocksModel", "swaps", "(II)V"⟩, 27) := ⟨⟨by decide +kernel, by decide +kernel⟩, List.mem_of_getElem? (i := 540) (by decide +kernel), List.mem_of_getElem? (i := 825) (by decide +kernel), List.mem_of_getElem? (i := 826) (by decide +kernel)⟩
def lw_privs_4 : List (MethodName × Nat) := [(⟨"RestingBlocksModel", "isBlock", "(I)Z"⟩, 27), (⟨"RestingBlocksModel", "above", "(I)I"⟩, 27), (⟨"RestingBlocksModel", "removes", "(I)V"⟩, 27), (⟨"RestingBlocksModel", "isSpot", "(II)Z"⟩, 27), (⟨"RestingBlocksModel", "tellBlock", "(II)I"⟩, 27), (⟨"RestingBlocksModel", "isContact", "(I)Z"⟩, 27), (⟨"RestingBlocksModel", "isResting", "()Z"⟩, 27), (⟨"RestingBlocksModel", "all", "()I"⟩, 27), (⟨"RestingBlocksModel", "canBalance", "(I)Z"⟩, 27), (⟨"RestingBlocksModel", "layRows", "(IIIZ)V"⟩, 27), (⟨"RestingBlocksModel", "layRow", "(IIIIZ)V"⟩, 27), (⟨"RestingBlocksModel", "seeks", "(I)V"⟩, 27), (⟨"RestingBlocksModel", "solves", "(I)Z"⟩, 27), (⟨"RestingBlocksModel", "fills", "(I)V"⟩, 27), (⟨"RestingBlocksModel", "pivot", "(I)I"⟩, 27), (⟨"RestingBlocksModel", "swaps", "(II)V"⟩, 27)]
theorem lw_r4 : ∀ q ∈ lw_privs_4, lw_okq q := List.forall_mem_cons.mpr ⟨lw_p48, List.forall_mem_cons.mpr ⟨lw_p49, List.forall_mem_cons.mpr ⟨lw_p50, List.forall_mem_cons.mpr ⟨lw_p51, List.forall_mem_cons.mpr ⟨lw_p52, List.forall_mem_cons.mpr ⟨lw_p53, List.forall_mem_cons.mpr ⟨lw_p54, List.forall_mem_cons.mpr ⟨lw_p55, List.forall_mem_cons.mpr ⟨lw_p56, List.forall_mem_cons.mpr ⟨lw_p57, List.forall_mem_cons.mpr ⟨lw_p58, List.forall_mem_cons.mpr ⟨lw_p59, List.forall_mem_cons.mpr ⟨lw_p60, List.forall_mem_cons.mpr ⟨lw_p61, List.forall_mem_cons.mpr ⟨lw_p62, List.forall_mem_cons.mpr ⟨lw_p63, fun _ h => absurd h List.not_mem_nil⟩⟩⟩⟩⟩⟩⟩⟩⟩⟩⟩⟩⟩⟩⟩⟩
theorem lw_p64 : lw_okq (⟨"RestingBlocksModel", "clears", "(IIJ)V"⟩, 27) := ⟨⟨by decide +kernel, by decide +kernel⟩, List.mem_of_getElem? (i := 540) (by decide +kernel), List.mem_of_getElem? (i := 829) (by decide +kernel), List.mem_of_getElem? (i := 830) (by decide +kernel)⟩
theorem lw_p65 : lw_okq (⟨"RestingBlocksModel", "isNoneBelow", "()Z"⟩, 27) := ⟨⟨by decide +kernel, by decide +kernel⟩, List.mem_of_getElem? (i := 540) (by decide +kernel), List.mem_of_getElem? (i := 833) (by decide +kernel), List.mem_of_getElem? (i := 834) (by decide +kernel)⟩
theorem lw_p66 : lw_okq (⟨"RestingBlocksModel", "divisor", "()J"⟩, 27) := ⟨⟨by decide +kernel, by decide +kernel⟩, List.mem_of_getElem? (i := 540) (by decide +kernel), List.mem_of_getElem? (i := 837) (by decide +kernel), List.mem_of_getElem? (i := 838) (by decide +kernel)⟩
theorem lw_p67 : lw_okq (⟨"RestingBlocksModel", "solved", "(II)J"⟩, 27) := ⟨⟨by decide +kernel, by decide +kernel⟩, List.mem_of_getElem? (i := 540) (by decide +kernel), List.mem_of_getElem? (i := 841) (by decide +kernel), List.mem_of_getElem? (i := 842) (by decide +kernel)⟩
theorem lw_p68 : lw_okq (⟨"RestingBlocksModel", "meets", "(JJ)V"⟩, 27) := ⟨⟨by decide +kernel, by decide +kernel⟩, List.mem_of_getElem? (i := 540) (by decide +kernel), List.mem_of_getElem? (i := 845) (by decide +kernel), List.mem_of_getElem? (i := 846) (by decide +kernel)⟩
theorem lw_p69 : lw_okq (⟨"RestingBlocksModel", "told", "(I)J"⟩, 27) := ⟨⟨by decide +kernel, by decide +kernel⟩, List.mem_of_getElem? (i := 540) (by decide +kernel), List.mem_of_getElem? (i := 853) (by decide +kernel), List.mem_of_getElem? (i := 854) (by decide +kernel)⟩
theorem lw_p70 : lw_okq (⟨"RestingBlocksModel", "restsWithout", "(I)Z"⟩, 27) := ⟨⟨by decide +kernel, by decide +kernel⟩, List.mem_of_getElem? (i := 540) (by decide +kernel), List.mem_of_getElem? (i := 878) (by decide +kernel), List.mem_of_getElem? (i := 879) (by decide +kernel)⟩
theorem lw_p71 : lw_okq (⟨"RestingBlocksModel", "contactsNow", "()I"⟩, 27) := ⟨⟨by decide +kernel, by decide +kernel⟩, List.mem_of_getElem? (i := 540) (by decide +kernel), List.mem_of_getElem? (i := 898) (by decide +kernel), List.mem_of_getElem? (i := 899) (by decide +kernel)⟩
theorem lw_p72 : lw_okq (⟨"RestingBlocksModel", "heavy", "()I"⟩, 27) := ⟨⟨by decide +kernel, by decide +kernel⟩, List.mem_of_getElem? (i := 540) (by decide +kernel), List.mem_of_getElem? (i := 902) (by decide +kernel), List.mem_of_getElem? (i := 903) (by decide +kernel)⟩
theorem lw_p73 : lw_okq (⟨"RestingBlocksModel", "highest", "()I"⟩, 27) := ⟨⟨by decide +kernel, by decide +kernel⟩, List.mem_of_getElem? (i := 540) (by decide +kernel), List.mem_of_getElem? (i := 906) (by decide +kernel), List.mem_of_getElem? (i := 907) (by decide +kernel)⟩
def lw_privs_5 : List (MethodName × Nat) := [(⟨"RestingBlocksModel", "clears", "(IIJ)V"⟩, 27), (⟨"RestingBlocksModel", "isNoneBelow", "()Z"⟩, 27), (⟨"RestingBlocksModel", "divisor", "()J"⟩, 27), (⟨"RestingBlocksModel", "solved", "(II)J"⟩, 27), (⟨"RestingBlocksModel", "meets", "(JJ)V"⟩, 27), (⟨"RestingBlocksModel", "told", "(I)J"⟩, 27), (⟨"RestingBlocksModel", "restsWithout", "(I)Z"⟩, 27), (⟨"RestingBlocksModel", "contactsNow", "()I"⟩, 27), (⟨"RestingBlocksModel", "heavy", "()I"⟩, 27), (⟨"RestingBlocksModel", "highest", "()I"⟩, 27)]
theorem lw_r5 : ∀ q ∈ lw_privs_5, lw_okq q := List.forall_mem_cons.mpr ⟨lw_p64, List.forall_mem_cons.mpr ⟨lw_p65, List.forall_mem_cons.mpr ⟨lw_p66, List.forall_mem_cons.mpr ⟨lw_p67, List.forall_mem_cons.mpr ⟨lw_p68, List.forall_mem_cons.mpr ⟨lw_p69, List.forall_mem_cons.mpr ⟨lw_p70, List.forall_mem_cons.mpr ⟨lw_p71, List.forall_mem_cons.mpr ⟨lw_p72, List.forall_mem_cons.mpr ⟨lw_p73, fun _ h => absurd h List.not_mem_nil⟩⟩⟩⟩⟩⟩⟩⟩⟩⟩
def lw_privs : List (MethodName × Nat) := lw_privs_1 ++ (lw_privs_2 ++ (lw_privs_3 ++ (lw_privs_4 ++ (lw_privs_5))))
def lw_tbl : List Cond := k2_sels lw_privs ++ tables_1
theorem lw_privs_ok : ∀ q ∈ lw_privs, lw_okq q := by
  show ∀ q ∈ lw_privs_1 ++ (lw_privs_2 ++ (lw_privs_3 ++ (lw_privs_4 ++ (lw_privs_5)))), lw_okq q
  exact List.forall_mem_append.mpr ⟨lw_r1, List.forall_mem_append.mpr ⟨lw_r2, List.forall_mem_append.mpr ⟨lw_r3, List.forall_mem_append.mpr ⟨lw_r4, lw_r5⟩⟩⟩⟩
end
section
/-! the words that stay as the machine goes on -/
def mc_nest : Cond → Bool
  | .fieldLinkNest .. => true
  | .methodLinkNest .. => true
  | .arrayOver (.array _) => true
  | _ => false
def mc_tbl : List Cond := lw_tbl.filter (fun w => goodWord w || mc_nest w)
theorem mc_in {w : Cond} (i : Nat) (h : lw_tbl[i]? = some w) (hg : (goodWord w || mc_nest w) = true) : w ∈ mc_tbl := List.mem_filter.mpr ⟨List.mem_of_getElem? h, hg⟩
def RX0 : String := "RestingBlocks$Balance"
def TX0 : u_T := fun k => match k with
  | 0 => ("RestingBlocks$Balance", "cells", "[[J", true)
  | 1 => ("RestingBlocks$Balance", "givenBy", "[I", true)
  | 2 => ("RestingBlocks$Balance", "blockRow", "[I", true)
  | 3 => ("RestingBlocks$Balance", "rows", "I", false)
  | 4 => ("RestingBlocks$Balance", "unknowns", "I", false)
  | _ => ("RestingBlocks$Balance", "divisor", "J", false)
def tyX0 : Nat → FieldType := fun k => match k with
  | 0 => .array (.array .long)
  | 1 => .array .int
  | 2 => .array .int
  | 3 => .int
  | 4 => .int
  | _ => .long
theorem nmX0 : ∀ a, a < 6 → ∀ b, b < 6 → a ≠ b → (TX0 a).2.1 ≠ (TX0 b).2.1 := by decide +kernel
theorem tyX0_ok : ∀ k, k < 6 → parseFieldDescriptor (TX0 k).2.2.1 = some (tyX0 k) := by decide +kernel
theorem lyX0_0 : u_lay RX0 TX0 0 ∈ mc_tbl := mc_in 156 (by decide +kernel) (by decide +kernel)
theorem lyX0_1 : u_lay RX0 TX0 1 ∈ mc_tbl := mc_in 158 (by decide +kernel) (by decide +kernel)
theorem lyX0_2 : u_lay RX0 TX0 2 ∈ mc_tbl := mc_in 160 (by decide +kernel) (by decide +kernel)
theorem lyX0_3 : u_lay RX0 TX0 3 ∈ mc_tbl := mc_in 162 (by decide +kernel) (by decide +kernel)
theorem lyX0_4 : u_lay RX0 TX0 4 ∈ mc_tbl := mc_in 164 (by decide +kernel) (by decide +kernel)
theorem lyX0_5 : u_lay RX0 TX0 5 ∈ mc_tbl := mc_in 166 (by decide +kernel) (by decide +kernel)
theorem inX0 : ∀ w ∈ u_ws RX0 TX0 6, w ∈ mc_tbl := by
  intro w hw
  obtain ⟨k, hk, rfl⟩ := List.mem_map.mp hw
  have hk := List.mem_range.mp hk
  match k, hk with
  | 0, _ => exact lyX0_0
  | 1, _ => exact lyX0_1
  | 2, _ => exact lyX0_2
  | 3, _ => exact lyX0_3
  | 4, _ => exact lyX0_4
  | 5, _ => exact lyX0_5
  | k + 6, hk => exact absurd hk (by omega)
theorem iniX0 : Cond.initialized RX0 ∈ mc_tbl := mc_in 78 (by decide +kernel) (by decide +kernel)
theorem insX0 : Cond.instantiable RX0 6 ∈ mc_tbl := mc_in 143 (by decide +kernel) (by decide +kernel)
def RX1 : String := "RestingBlocks$Layout"
def TX1 : u_T := fun k => match k with
  | 0 => ("RestingBlocks$Layout", "lefts", "[I", true)
  | 1 => ("RestingBlocks$Layout", "rights", "[I", true)
  | 2 => ("RestingBlocks$Layout", "levels", "[I", true)
  | 3 => ("RestingBlocks$Layout", "under", "[I", true)
  | 4 => ("RestingBlocks$Layout", "over", "[I", true)
  | 5 => ("RestingBlocks$Layout", "uppers", "[I", true)
  | 6 => ("RestingBlocks$Layout", "lowers", "[I", true)
  | 7 => ("RestingBlocks$Layout", "places", "[I", true)
  | 8 => ("RestingBlocks$Layout", "blocks", "I", false)
  | _ => ("RestingBlocks$Layout", "contacts", "I", false)
def tyX1 : Nat → FieldType := fun k => match k with
  | 0 => .array .int
  | 1 => .array .int
  | 2 => .array .int
  | 3 => .array .int
  | 4 => .array .int
  | 5 => .array .int
  | 6 => .array .int
  | 7 => .array .int
  | 8 => .int
  | _ => .int
theorem nmX1 : ∀ a, a < 10 → ∀ b, b < 10 → a ≠ b → (TX1 a).2.1 ≠ (TX1 b).2.1 := by decide +kernel
theorem tyX1_ok : ∀ k, k < 10 → parseFieldDescriptor (TX1 k).2.2.1 = some (tyX1 k) := by decide +kernel
theorem lyX1_0 : u_lay RX1 TX1 0 ∈ mc_tbl := mc_in 121 (by decide +kernel) (by decide +kernel)
theorem lyX1_1 : u_lay RX1 TX1 1 ∈ mc_tbl := mc_in 123 (by decide +kernel) (by decide +kernel)
theorem lyX1_2 : u_lay RX1 TX1 2 ∈ mc_tbl := mc_in 125 (by decide +kernel) (by decide +kernel)
theorem lyX1_3 : u_lay RX1 TX1 3 ∈ mc_tbl := mc_in 127 (by decide +kernel) (by decide +kernel)
theorem lyX1_4 : u_lay RX1 TX1 4 ∈ mc_tbl := mc_in 129 (by decide +kernel) (by decide +kernel)
theorem lyX1_5 : u_lay RX1 TX1 5 ∈ mc_tbl := mc_in 131 (by decide +kernel) (by decide +kernel)
theorem lyX1_6 : u_lay RX1 TX1 6 ∈ mc_tbl := mc_in 133 (by decide +kernel) (by decide +kernel)
theorem lyX1_7 : u_lay RX1 TX1 7 ∈ mc_tbl := mc_in 135 (by decide +kernel) (by decide +kernel)
theorem lyX1_8 : u_lay RX1 TX1 8 ∈ mc_tbl := mc_in 137 (by decide +kernel) (by decide +kernel)
theorem lyX1_9 : u_lay RX1 TX1 9 ∈ mc_tbl := mc_in 139 (by decide +kernel) (by decide +kernel)
theorem inX1 : ∀ w ∈ u_ws RX1 TX1 10, w ∈ mc_tbl := by
  intro w hw
  obtain ⟨k, hk, rfl⟩ := List.mem_map.mp hw
  have hk := List.mem_range.mp hk
  match k, hk with
  | 0, _ => exact lyX1_0
  | 1, _ => exact lyX1_1
  | 2, _ => exact lyX1_2
  | 3, _ => exact lyX1_3
  | 4, _ => exact lyX1_4
  | 5, _ => exact lyX1_5
  | 6, _ => exact lyX1_6
  | 7, _ => exact lyX1_7
  | 8, _ => exact lyX1_8
  | 9, _ => exact lyX1_9
  | k + 10, hk => exact absurd hk (by omega)
theorem iniX1 : Cond.initialized RX1 ∈ mc_tbl := mc_in 77 (by decide +kernel) (by decide +kernel)
theorem insX1 : Cond.instantiable RX1 10 ∈ mc_tbl := mc_in 106 (by decide +kernel) (by decide +kernel)
def RX2 : String := "RestingBlocks$Pile"
def TX2 : u_T := fun k => match k with
  | _ => ("RestingBlocks$Pile", "cells", "[I", true)
def tyX2 : Nat → FieldType := fun k => match k with
  | _ => .array .int
theorem nmX2 : ∀ a, a < 1 → ∀ b, b < 1 → a ≠ b → (TX2 a).2.1 ≠ (TX2 b).2.1 := by decide +kernel
theorem tyX2_ok : ∀ k, k < 1 → parseFieldDescriptor (TX2 k).2.2.1 = some (tyX2 k) := by decide +kernel
theorem lyX2_0 : u_lay RX2 TX2 0 ∈ mc_tbl := mc_in 101 (by decide +kernel) (by decide +kernel)
theorem inX2 : ∀ w ∈ u_ws RX2 TX2 1, w ∈ mc_tbl := by
  intro w hw
  obtain ⟨k, hk, rfl⟩ := List.mem_map.mp hw
  have hk := List.mem_range.mp hk
  match k, hk with
  | 0, _ => exact lyX2_0
  | k + 1, hk => exact absurd hk (by omega)
theorem iniX2 : Cond.initialized RX2 ∈ mc_tbl := mc_in 76 (by decide +kernel) (by decide +kernel)
theorem insX2 : Cond.instantiable RX2 1 ∈ mc_tbl := mc_in 94 (by decide +kernel) (by decide +kernel)
def RX3 : String := "RestingBlocks$Shelf"
def TX3 : u_T := fun k => match k with
  | 0 => ("RestingBlocks$Shelf", "places", "I", true)
  | _ => ("RestingBlocks$Shelf", "store", "[I", true)
def tyX3 : Nat → FieldType := fun k => match k with
  | 0 => .int
  | _ => .array .int
theorem nmX3 : ∀ a, a < 2 → ∀ b, b < 2 → a ≠ b → (TX3 a).2.1 ≠ (TX3 b).2.1 := by decide +kernel
theorem tyX3_ok : ∀ k, k < 2 → parseFieldDescriptor (TX3 k).2.2.1 = some (tyX3 k) := by decide +kernel
theorem lyX3_0 : u_lay RX3 TX3 0 ∈ mc_tbl := mc_in 198 (by decide +kernel) (by decide +kernel)
theorem lyX3_1 : u_lay RX3 TX3 1 ∈ mc_tbl := mc_in 200 (by decide +kernel) (by decide +kernel)
theorem inX3 : ∀ w ∈ u_ws RX3 TX3 2, w ∈ mc_tbl := by
  intro w hw
  obtain ⟨k, hk, rfl⟩ := List.mem_map.mp hw
  have hk := List.mem_range.mp hk
  match k, hk with
  | 0, _ => exact lyX3_0
  | 1, _ => exact lyX3_1
  | k + 2, hk => exact absurd hk (by omega)
theorem iniX3 : Cond.initialized RX3 ∈ mc_tbl := mc_in 80 (by decide +kernel) (by decide +kernel)
theorem insX3 : Cond.instantiable RX3 2 ∈ mc_tbl := mc_in 188 (by decide +kernel) (by decide +kernel)
def RX4 : String := "RestingBlocks$Text"
def TX4 : u_T := fun k => match k with
  | 0 => ("RestingBlocks$Text", "letters", "[S", true)
  | 1 => ("RestingBlocks$Text", "length", "I", false)
  | _ => ("RestingBlocks$Text", "at", "I", false)
def tyX4 : Nat → FieldType := fun k => match k with
  | 0 => .array .short
  | 1 => .int
  | _ => .int
theorem nmX4 : ∀ a, a < 3 → ∀ b, b < 3 → a ≠ b → (TX4 a).2.1 ≠ (TX4 b).2.1 := by decide +kernel
theorem tyX4_ok : ∀ k, k < 3 → parseFieldDescriptor (TX4 k).2.2.1 = some (tyX4 k) := by decide +kernel
theorem lyX4_0 : u_lay RX4 TX4 0 ∈ mc_tbl := mc_in 179 (by decide +kernel) (by decide +kernel)
theorem lyX4_1 : u_lay RX4 TX4 1 ∈ mc_tbl := mc_in 181 (by decide +kernel) (by decide +kernel)
theorem lyX4_2 : u_lay RX4 TX4 2 ∈ mc_tbl := mc_in 183 (by decide +kernel) (by decide +kernel)
theorem inX4 : ∀ w ∈ u_ws RX4 TX4 3, w ∈ mc_tbl := by
  intro w hw
  obtain ⟨k, hk, rfl⟩ := List.mem_map.mp hw
  have hk := List.mem_range.mp hk
  match k, hk with
  | 0, _ => exact lyX4_0
  | 1, _ => exact lyX4_1
  | 2, _ => exact lyX4_2
  | k + 3, hk => exact absurd hk (by omega)
theorem iniX4 : Cond.initialized RX4 ∈ mc_tbl := mc_in 79 (by decide +kernel) (by decide +kernel)
theorem insX4 : Cond.instantiable RX4 3 ∈ mc_tbl := mc_in 171 (by decide +kernel) (by decide +kernel)
def RX5 : String := "RestingBlocks"
def TX5 : u_T := fun k => match k with
  | 0 => ("RestingBlocks", "pile", "LRestingBlocks$Pile;", true)
  | 1 => ("RestingBlocks", "trial", "LRestingBlocks$Pile;", true)
  | 2 => ("RestingBlocks", "layout", "LRestingBlocks$Layout;", true)
  | 3 => ("RestingBlocks", "balance", "LRestingBlocks$Balance;", true)
  | 4 => ("RestingBlocks", "text", "LRestingBlocks$Text;", true)
  | 5 => ("RestingBlocks", "past", "LRestingBlocks$Shelf;", true)
  | 6 => ("RestingBlocks", "images", "LRestingBlocks$Shelf;", true)
  | 7 => ("RestingBlocks", "kept", "[Z", true)
  | _ => ("RestingBlocks", "undoable", "I", false)
def tyX5 : Nat → FieldType := fun k => match k with
  | 0 => .object "RestingBlocks$Pile"
  | 1 => .object "RestingBlocks$Pile"
  | 2 => .object "RestingBlocks$Layout"
  | 3 => .object "RestingBlocks$Balance"
  | 4 => .object "RestingBlocks$Text"
  | 5 => .object "RestingBlocks$Shelf"
  | 6 => .object "RestingBlocks$Shelf"
  | 7 => .array .boolean
  | _ => .int
theorem nmX5 : ∀ a, a < 9 → ∀ b, b < 9 → a ≠ b → (TX5 a).2.1 ≠ (TX5 b).2.1 := by decide +kernel
theorem tyX5_ok : ∀ k, k < 9 → parseFieldDescriptor (TX5 k).2.2.1 = some (tyX5 k) := by decide +kernel
theorem lyX5_0 : u_lay RX5 TX5 0 ∈ mc_tbl := mc_in 212 (by decide +kernel) (by decide +kernel)
theorem lyX5_1 : u_lay RX5 TX5 1 ∈ mc_tbl := mc_in 214 (by decide +kernel) (by decide +kernel)
theorem lyX5_2 : u_lay RX5 TX5 2 ∈ mc_tbl := mc_in 216 (by decide +kernel) (by decide +kernel)
theorem lyX5_3 : u_lay RX5 TX5 3 ∈ mc_tbl := mc_in 218 (by decide +kernel) (by decide +kernel)
theorem lyX5_4 : u_lay RX5 TX5 4 ∈ mc_tbl := mc_in 220 (by decide +kernel) (by decide +kernel)
theorem lyX5_5 : u_lay RX5 TX5 5 ∈ mc_tbl := mc_in 222 (by decide +kernel) (by decide +kernel)
theorem lyX5_6 : u_lay RX5 TX5 6 ∈ mc_tbl := mc_in 224 (by decide +kernel) (by decide +kernel)
theorem lyX5_7 : u_lay RX5 TX5 7 ∈ mc_tbl := mc_in 226 (by decide +kernel) (by decide +kernel)
theorem lyX5_8 : u_lay RX5 TX5 8 ∈ mc_tbl := mc_in 228 (by decide +kernel) (by decide +kernel)
theorem inX5 : ∀ w ∈ u_ws RX5 TX5 9, w ∈ mc_tbl := by
  intro w hw
  obtain ⟨k, hk, rfl⟩ := List.mem_map.mp hw
  have hk := List.mem_range.mp hk
  match k, hk with
  | 0, _ => exact lyX5_0
  | 1, _ => exact lyX5_1
  | 2, _ => exact lyX5_2
  | 3, _ => exact lyX5_3
  | 4, _ => exact lyX5_4
  | 5, _ => exact lyX5_5
  | 6, _ => exact lyX5_6
  | 7, _ => exact lyX5_7
  | 8, _ => exact lyX5_8
  | k + 9, hk => exact absurd hk (by omega)
theorem iniX5 : Cond.initialized RX5 ∈ mc_tbl := mc_in 75 (by decide +kernel) (by decide +kernel)
theorem insX5 : Cond.instantiable RX5 9 ∈ mc_tbl := mc_in 86 (by decide +kernel) (by decide +kernel)
def RX6 : String := "RestingBlocksModel"
def TX6 : u_T := fun k => match k with
  | 0 => ("RestingBlocksModel", "now", "[I", true)
  | 1 => ("RestingBlocksModel", "past", "[I", true)
  | 2 => ("RestingBlocksModel", "undos", "I", false)
  | 3 => ("RestingBlocksModel", "images", "[I", true)
  | 4 => ("RestingBlocksModel", "isKept", "[Z", true)
  | 5 => ("RestingBlocksModel", "text", "[I", true)
  | 6 => ("RestingBlocksModel", "letters", "I", false)
  | 7 => ("RestingBlocksModel", "levels", "[I", true)
  | 8 => ("RestingBlocksModel", "under", "[I", true)
  | 9 => ("RestingBlocksModel", "contacts", "I", false)
  | 10 => ("RestingBlocksModel", "of", "[I", true)
  | 11 => ("RestingBlocksModel", "on", "[I", true)
  | 12 => ("RestingBlocksModel", "place", "[I", true)
  | 13 => ("RestingBlocksModel", "rows", "I", false)
  | 14 => ("RestingBlocksModel", "columns", "I", false)
  | 15 => ("RestingBlocksModel", "matrix", "[J", true)
  | 16 => ("RestingBlocksModel", "due", "[J", true)
  | 17 => ("RestingBlocksModel", "work", "[J", true)
  | 18 => ("RestingBlocksModel", "isFound", "Z", false)
  | 19 => ("RestingBlocksModel", "leastUp", "J", false)
  | 20 => ("RestingBlocksModel", "leastLow", "J", false)
  | 21 => ("RestingBlocksModel", "mostUp", "J", false)
  | 22 => ("RestingBlocksModel", "mostLow", "J", false)
  | 23 => ("RestingBlocksModel", "at", "I", false)
  | 24 => ("RestingBlocksModel", "mark", "I", false)
  | 25 => ("RestingBlocksModel", "items", "I", false)
  | _ => ("RestingBlocksModel", "aside", "[I", true)
def tyX6 : Nat → FieldType := fun k => match k with
  | 0 => .array .int
  | 1 => .array .int
  | 2 => .int
  | 3 => .array .int
  | 4 => .array .boolean
  | 5 => .array .int
  | 6 => .int
  | 7 => .array .int
  | 8 => .array .int
  | 9 => .int
  | 10 => .array .int
  | 11 => .array .int
  | 12 => .array .int
  | 13 => .int
  | 14 => .int
  | 15 => .array .long
  | 16 => .array .long
  | 17 => .array .long
  | 18 => .boolean
  | 19 => .long
  | 20 => .long
  | 21 => .long
  | 22 => .long
  | 23 => .int
  | 24 => .int
  | 25 => .int
  | _ => .array .int
theorem nmX6 : ∀ a, a < 27 → ∀ b, b < 27 → a ≠ b → (TX6 a).2.1 ≠ (TX6 b).2.1 := by decide +kernel
theorem tyX6_ok : ∀ k, k < 27 → parseFieldDescriptor (TX6 k).2.2.1 = some (tyX6 k) := by decide +kernel
theorem lyX6_0 : u_lay RX6 TX6 0 ∈ mc_tbl := mc_in 646 (by decide +kernel) (by decide +kernel)
theorem lyX6_1 : u_lay RX6 TX6 1 ∈ mc_tbl := mc_in 648 (by decide +kernel) (by decide +kernel)
theorem lyX6_2 : u_lay RX6 TX6 2 ∈ mc_tbl := mc_in 650 (by decide +kernel) (by decide +kernel)
theorem lyX6_3 : u_lay RX6 TX6 3 ∈ mc_tbl := mc_in 652 (by decide +kernel) (by decide +kernel)
theorem lyX6_4 : u_lay RX6 TX6 4 ∈ mc_tbl := mc_in 654 (by decide +kernel) (by decide +kernel)
theorem lyX6_5 : u_lay RX6 TX6 5 ∈ mc_tbl := mc_in 656 (by decide +kernel) (by decide +kernel)
theorem lyX6_6 : u_lay RX6 TX6 6 ∈ mc_tbl := mc_in 658 (by decide +kernel) (by decide +kernel)
theorem lyX6_7 : u_lay RX6 TX6 7 ∈ mc_tbl := mc_in 660 (by decide +kernel) (by decide +kernel)
theorem lyX6_8 : u_lay RX6 TX6 8 ∈ mc_tbl := mc_in 662 (by decide +kernel) (by decide +kernel)
theorem lyX6_9 : u_lay RX6 TX6 9 ∈ mc_tbl := mc_in 664 (by decide +kernel) (by decide +kernel)
theorem lyX6_10 : u_lay RX6 TX6 10 ∈ mc_tbl := mc_in 666 (by decide +kernel) (by decide +kernel)
theorem lyX6_11 : u_lay RX6 TX6 11 ∈ mc_tbl := mc_in 668 (by decide +kernel) (by decide +kernel)
theorem lyX6_12 : u_lay RX6 TX6 12 ∈ mc_tbl := mc_in 670 (by decide +kernel) (by decide +kernel)
theorem lyX6_13 : u_lay RX6 TX6 13 ∈ mc_tbl := mc_in 672 (by decide +kernel) (by decide +kernel)
theorem lyX6_14 : u_lay RX6 TX6 14 ∈ mc_tbl := mc_in 674 (by decide +kernel) (by decide +kernel)
theorem lyX6_15 : u_lay RX6 TX6 15 ∈ mc_tbl := mc_in 676 (by decide +kernel) (by decide +kernel)
theorem lyX6_16 : u_lay RX6 TX6 16 ∈ mc_tbl := mc_in 678 (by decide +kernel) (by decide +kernel)
theorem lyX6_17 : u_lay RX6 TX6 17 ∈ mc_tbl := mc_in 680 (by decide +kernel) (by decide +kernel)
theorem lyX6_18 : u_lay RX6 TX6 18 ∈ mc_tbl := mc_in 682 (by decide +kernel) (by decide +kernel)
theorem lyX6_19 : u_lay RX6 TX6 19 ∈ mc_tbl := mc_in 684 (by decide +kernel) (by decide +kernel)
theorem lyX6_20 : u_lay RX6 TX6 20 ∈ mc_tbl := mc_in 686 (by decide +kernel) (by decide +kernel)
theorem lyX6_21 : u_lay RX6 TX6 21 ∈ mc_tbl := mc_in 688 (by decide +kernel) (by decide +kernel)
theorem lyX6_22 : u_lay RX6 TX6 22 ∈ mc_tbl := mc_in 690 (by decide +kernel) (by decide +kernel)
theorem lyX6_23 : u_lay RX6 TX6 23 ∈ mc_tbl := mc_in 692 (by decide +kernel) (by decide +kernel)
theorem lyX6_24 : u_lay RX6 TX6 24 ∈ mc_tbl := mc_in 694 (by decide +kernel) (by decide +kernel)
theorem lyX6_25 : u_lay RX6 TX6 25 ∈ mc_tbl := mc_in 696 (by decide +kernel) (by decide +kernel)
theorem lyX6_26 : u_lay RX6 TX6 26 ∈ mc_tbl := mc_in 698 (by decide +kernel) (by decide +kernel)
theorem inX6 : ∀ w ∈ u_ws RX6 TX6 27, w ∈ mc_tbl := by
  intro w hw
  obtain ⟨k, hk, rfl⟩ := List.mem_map.mp hw
  have hk := List.mem_range.mp hk
  match k, hk with
  | 0, _ => exact lyX6_0
  | 1, _ => exact lyX6_1
  | 2, _ => exact lyX6_2
  | 3, _ => exact lyX6_3
  | 4, _ => exact lyX6_4
  | 5, _ => exact lyX6_5
  | 6, _ => exact lyX6_6
  | 7, _ => exact lyX6_7
  | 8, _ => exact lyX6_8
  | 9, _ => exact lyX6_9
  | 10, _ => exact lyX6_10
  | 11, _ => exact lyX6_11
  | 12, _ => exact lyX6_12
  | 13, _ => exact lyX6_13
  | 14, _ => exact lyX6_14
  | 15, _ => exact lyX6_15
  | 16, _ => exact lyX6_16
  | 17, _ => exact lyX6_17
  | 18, _ => exact lyX6_18
  | 19, _ => exact lyX6_19
  | 20, _ => exact lyX6_20
  | 21, _ => exact lyX6_21
  | 22, _ => exact lyX6_22
  | 23, _ => exact lyX6_23
  | 24, _ => exact lyX6_24
  | 25, _ => exact lyX6_25
  | 26, _ => exact lyX6_26
  | k + 27, hk => exact absurd hk (by omega)
theorem iniX6 : Cond.initialized RX6 ∈ mc_tbl := mc_in 82 (by decide +kernel) (by decide +kernel)
theorem insX6 : Cond.instantiable RX6 27 ∈ mc_tbl := mc_in 614 (by decide +kernel) (by decide +kernel)
def RJ6 : String := "java/lang/Integer"
def RJ9 : String := "java/lang/Math"
def RL : String := "RestingBlocksLaw"
theorem iniJ6 : Cond.initialized RJ6 ∈ mc_tbl := mc_in 84 (by decide +kernel) (by decide +kernel)
theorem iniJ9 : Cond.initialized RJ9 ∈ mc_tbl := mc_in 81 (by decide +kernel) (by decide +kernel)
abbrev mc_cl : List vw_C := [(RX0, TX0, 6), (RX1, TX1, 10), (RX2, TX2, 1), (RX3, TX3, 2), (RX4, TX4, 3), (RX5, TX5, 9), (RX6, TX6, 27)]
end
section
/-! ===== THE PICTURE OF A RUN: abstract cells by number (1, 2 ..; 0 is the script), what they hold, and how they lie in the heap ===== -/
/-- a cell: an object (number of its class, its fields), an array of ints (or shorts, booleans), of longs, of rows of longs -/
abbrev mc_Cell : Type := (Nat × List Value) ⊕ ((FieldType × Nat × (Nat → Int32)) ⊕ ((Nat × (Nat → Int64)) ⊕ (Nat × (Nat → Option Nat))))
abbrev mc_H : Type := List mc_Cell
/-- a method: its name, its bytes, how many locals, what it returns -/
abbrev mc_M : Type := MethodName × ByteArray × Nat × Option FieldType
/-- what is fixed in a run: classes and slots, array classes, the script's address, the first new address -/
abbrev mc_G : Type := va_G × (FieldType → ClassId) × Nat × Nat
def mc_ad (G : mc_G) : Nat → Nat
  | 0 => G.2.2.1
  | k + 1 => G.2.2.2 + k
def mc_cv (G : mc_G) : Value → Value
  | .ref k => .ref (mc_ad G k)
  | v => v
def mc_E (G : mc_G) : mc_Cell → va_E
  | .inl (ci, fs) => .inr (ci, fs.map (mc_cv G))
  | .inr (.inl (ty, n, f)) => .inl (G.2.1 ty, n, .inl f)
  | .inr (.inr (.inl (n, f))) => .inl (G.2.1 .long, n, .inr (.inl f))
  | .inr (.inr (.inr (n, f))) => .inl (G.2.1 (.array .long), n, .inr (.inr (.inr (.inr (fun j => (f j).map (mc_ad G))))))
def mc_W (G : mc_G) (h : mc_H) : va_W := h.mapIdx (fun k c => (mc_ad G (k + 1), mc_E G c))
def mc_tys (G : mc_G) : List (ClassId × FieldType) := [(G.2.1 .int, .int), (G.2.1 .long, .long), (G.2.1 .short, .short), (G.2.1 .boolean, .boolean), (G.2.1 (.array .long), .array .long)]
def mc_A (G : mc_G) : Nat → Prop := fun q => G.2.2.2 ≤ q
def mc_K (G : mc_G) (s : State) : Prop := va_K G.1 mc_cl (mc_tys G) s
def mc_P (G : mc_G) (h : mc_H) (H : Heap) : Prop := va_P G.1 mc_cl (mc_W G h) H ∧ H.size = G.2.2.2 + h.length
def mc_S (G : mc_G) (s : State) (H : Heap) (locs : List Loc) : Prop := va_S (mc_A G) s.heap H locs ∧ G.2.2.2 ≤ s.heap.size
/-- all words of the tables, for whatever arguments -/
def mc_Wd (U : State) : Prop := ∀ (a : Array Value) (w : Cond), w ∈ mc_tbl → w.before a U = true
/-- locals: what the list says of them ('.retAddr 0': nothing) -/
def mc_lv (G : mc_G) (loc : List Value) : List (Nat × Value) := (List.range loc.length).filterMap (fun i => match loc[i]? with
  | some v => if v = .retAddr 0 then none else some (i, mc_cv G v)
  | none => none)
def mc_LO (G : mc_G) (ls : Array Slot) (nL : Nat) (loc : List Value) : Prop := lv_has ls nL (mc_lv G loc) ∧ loc.length = nL
def mc_C (Mt : mc_M) (p : Program) (s : State) (m : MethodId) (meth : Method) (c : Code) : Prop :=
  p.tables.exec = Jvm.exec ∧ c.code = Mt.2.1 ∧ c.maxLocals = Mt.2.2.1 ∧ meth.sig.returnType = Mt.2.2.2 ∧ meth.locks = false ∧ s.vm.findClass Mt.1.cls = some m.cls ∧ mc_Wd s ∧ (Mt.1.name = "<init>" → meth.name = "<init>")
/-- the script, where the frame is the law's -/
def mc_X (G : mc_G) (s : State) : Option (Nat × (Nat → Int32)) → Prop
  | none => True
  | some (L, xs) => va_X G.2.2.1 L xs s s.heap ∧ G.2.2.1 < G.2.2.2
def mc_ret (Mt : mc_M) (pc : Nat) : Option Value → Prop
  | none => Mt.2.2.2 = none ∧ decode Mt.2.1 pc = .ok (.return_, 1)
  | some (.int v) => ∃ ty, Mt.2.2.2 = some ty ∧ narrow ty (.int v) = .int v ∧ decode Mt.2.1 pc = .ok (.ireturn, 1)
  | some (.long _) => Mt.2.2.2 = some .long ∧ decode Mt.2.1 pc = .ok (.lreturn, 1)
  | some _ => False
/-- FROM HERE THE METHOD RETURNS: at pc, with these locals, stack, cells, it returns r with the cells h', at most d frames deep, having made nc cells of ns slots -/
def mc_V (Mt : mc_M) (d : Nat) (scr : Option (Nat × (Nat → Int32))) (pc : Nat) (loc stk : List Value) (h : mc_H) (r : Option Value) (h' : mc_H) (nc ns : Nat) : Prop :=
  ∀ (p : Program) (l : Launch) (e : Env) (R : Room) (s : State) (m : MethodId) (args : Array Value) (below : List Frame) (meth : Method) (c : Code) (H : Heap) (locs : List Loc) (cells slots : Nat) (Q : State → Prop) (ls : Array Slot) (G : mc_G),
    mc_C Mt p s m meth c → mc_K G s → mc_X G s scr → mc_P G h H → mc_S G s H locs → mc_LO G ls Mt.2.2.1 loc → (d ≤ R.frames ∧ 35 * d ≤ R.locals ∧ cells + nc ≤ R.cells ∧ slots + ns ≤ R.slots) →
    (∀ (H' : Heap) (locs' : List Loc) (pc' : Nat) (ls' : Array Slot), mc_P G h' H' → mc_S G s H' locs' → mc_ret Mt pc' r → W p l e R s m args below meth c H' locs' (cells + nc) (slots + ns) Q (F0 m pc' ls' (r.toList.map (mc_cv G)))) →
    W p l e R s m args below meth c H locs cells slots Q (F0 m pc ls (stk.map (mc_cv G)))
/-! plain facts of the picture -/
theorem mc_W_get {G : mc_G} {h : mc_H} {a : Nat} {x : mc_Cell} (hx : h[a]? = some x) : (mc_W G h)[a]? = some (mc_ad G (a + 1), mc_E G x) := by
  unfold mc_W
  rw [List.getElem?_mapIdx, hx]
  rfl
theorem mc_W_set {G : mc_G} {h : mc_H} {a : Nat} (x : mc_Cell) : (mc_W G h).set a (mc_ad G (a + 1), mc_E G x) = mc_W G (h.set a x) := by
  unfold mc_W
  apply List.ext_getElem?
  intro i
  rw [List.getElem?_set, List.getElem?_mapIdx, List.getElem?_mapIdx, List.getElem?_set, List.length_mapIdx]
  by_cases hi : a = i
  · subst hi
    by_cases hl : a < h.length <;> simp [hl]
  · simp [hi]
theorem mc_D (G : mc_G) (h : mc_H) : va_D (mc_A G) (mc_W G h) := by
  have at' : ∀ (k : Nat) (q : Nat × va_E), (mc_W G h)[k]? = some q → q.1 = G.2.2.2 + k := by
    intro k q hq
    unfold mc_W at hq
    rw [List.getElem?_mapIdx] at hq
    cases hk : h[k]? with
    | none => rw [hk] at hq; cases hq
    | some x => rw [hk] at hq; cases hq; rfl
  refine ⟨fun i j p q hi hj e => ?_, fun k q hq => ?_⟩
  · have h1 := at' i p hi
    have h2 := at' j q hj
    omega
  · have h1 := at' k q hq
    show G.2.2.2 ≤ q.1
    omega
theorem mc_lv_mem {G : mc_G} {loc : List Value} {q : Nat × Value} : q ∈ mc_lv G loc ↔ ∃ v, loc[q.1]? = some v ∧ v ≠ .retAddr 0 ∧ q.2 = mc_cv G v := by
  unfold mc_lv
  rw [List.mem_filterMap]
  constructor
  · rintro ⟨i, -, hi⟩
    cases hv : loc[i]? with
    | none => rw [hv] at hi; cases hi
    | some v =>
      rw [hv] at hi
      by_cases hr : v = .retAddr 0
      · simp [hr] at hi
      · simp only [hr, if_false] at hi
        cases hi
        exact ⟨v, hv, hr, rfl⟩
  · rintro ⟨v, h1, h2, h3⟩
    refine ⟨q.1, List.mem_range.mpr (List.getElem?_eq_some_iff.mp h1).1, ?_⟩
    rw [h1]
    simp only [h2, if_false]
    rw [← h3]
theorem mc_LO.at {G : mc_G} {ls : Array Slot} {nL : Nat} {loc : List Value} (h : mc_LO G ls nL loc) {i : Nat} {v : Value} (hv : loc[i]? = some v) (hn : v ≠ .retAddr 0) : ls[i]? = some (.val (mc_cv G v)) :=
  h.1.2.2 (i, mc_cv G v) (mc_lv_mem.mpr ⟨v, hv, hn, rfl⟩)
theorem mc_has_mono {ls : Array Slot} {nL : Nat} {l l' : List (Nat × Value)} (h : lv_has ls nL l) (hs : ∀ q ∈ l', q ∈ l) : lv_has ls nL l' := ⟨h.1, h.2.1, fun q hq => h.2.2 q (hs q hq)⟩
theorem mc_cat (G : mc_G) (v : Value) : (mc_cv G v).category = v.category := by cases v <;> rfl
/-- a store of one word: a long that it cuts is gone -/
def mc_two (v : Option Value) : Bool := match v with
  | some v => v.category == 2
  | none => false
def mc_kill (loc : List Value) (i : Nat) : List Value := if i ≠ 0 ∧ mc_two loc[i - 1]? = true then loc.set (i - 1) (.retAddr 0) else loc
def mc_set1 (loc : List Value) (i : Nat) (v : Value) : List Value := (mc_kill loc i).set i v
def mc_set2 (loc : List Value) (i : Nat) (v : Value) : List Value := ((mc_kill loc i).set i v).set (i + 1) (.retAddr 0)
theorem mc_kill_len (loc : List Value) (i : Nat) : (mc_kill loc i).length = loc.length := by
  unfold mc_kill
  split <;> simp
theorem mc_kill_at {loc : List Value} {i j : Nat} {v : Value} (h : (mc_kill loc i)[j]? = some v) (hn : v ≠ .retAddr 0) : loc[j]? = some v ∧ (j + 1 = i → v.category ≠ 2) := by
  unfold mc_kill at h
  split at h
  · rename_i hc
    rw [List.getElem?_set] at h
    by_cases hij : i - 1 = j
    · rw [if_pos hij] at h
      split at h
      · cases h; exact absurd rfl hn
      · cases h
    · rw [if_neg hij] at h
      exact ⟨h, fun e => by omega⟩
  · rename_i hc
    refine ⟨h, fun e hv => hc ⟨by omega, ?_⟩⟩
    have : i - 1 = j := by omega
    rw [this, h]
    simp [mc_two, hv]
theorem mc_store1 {G : mc_G} {ls' : Array Slot} {nL : Nat} {loc : List Value} {i : Nat} {v : Value} (hl : loc.length = nL) (h : lv_has ls' nL ((i, mc_cv G v) :: (mc_lv G loc).filter (fun q => !(q.1 == i) && !(q.1 + 1 == i && q.2.category == 2)))) : mc_LO G ls' nL (mc_set1 loc i v) := by
  refine ⟨mc_has_mono h fun q hq => ?_, by unfold mc_set1; rw [List.length_set, mc_kill_len, hl]⟩
  obtain ⟨w, h1, h2, h3⟩ := mc_lv_mem.mp hq
  unfold mc_set1 at h1
  rw [List.getElem?_set] at h1
  by_cases hi : i = q.1
  · rw [if_pos hi] at h1
    split at h1
    · cases h1
      refine List.mem_cons.mpr (Or.inl (Prod.ext hi.symm h3))
    · cases h1
  · rw [if_neg hi] at h1
    obtain ⟨g1, g2⟩ := mc_kill_at h1 h2
    refine List.mem_cons.mpr (Or.inr (List.mem_filter.mpr ⟨mc_lv_mem.mpr ⟨w, g1, h2, h3⟩, ?_⟩))
    have e1 : (q.1 == i) = false := by simpa using fun e => hi e.symm
    rw [e1]
    by_cases e2 : q.1 + 1 = i
    · have hw := g2 e2
      rw [h3, mc_cat]
      simp [hw]
    · simp [e2]
theorem mc_store2 {G : mc_G} {ls' : Array Slot} {nL : Nat} {loc : List Value} {i : Nat} {v : Value} (hl : loc.length = nL) (h : lv_has ls' nL ((i, mc_cv G v) :: (mc_lv G loc).filter (fun q => !(q.1 == i) && (!(q.1 == i + 1) && !(q.1 + 1 == i && q.2.category == 2))))) : mc_LO G ls' nL (mc_set2 loc i v) := by
  refine ⟨mc_has_mono h fun q hq => ?_, by unfold mc_set2; rw [List.length_set, List.length_set, mc_kill_len, hl]⟩
  obtain ⟨w, h1, h2, h3⟩ := mc_lv_mem.mp hq
  unfold mc_set2 at h1
  rw [List.getElem?_set] at h1
  by_cases hi1 : i + 1 = q.1
  · rw [if_pos hi1] at h1
    split at h1
    · cases h1; exact absurd rfl h2
    · cases h1
  · rw [if_neg hi1, List.getElem?_set] at h1
    by_cases hi : i = q.1
    · rw [if_pos hi] at h1
      split at h1
      · cases h1
        refine List.mem_cons.mpr (Or.inl (Prod.ext hi.symm h3))
      · cases h1
    · rw [if_neg hi] at h1
      obtain ⟨g1, g2⟩ := mc_kill_at h1 h2
      refine List.mem_cons.mpr (Or.inr (List.mem_filter.mpr ⟨mc_lv_mem.mpr ⟨w, g1, h2, h3⟩, ?_⟩))
      have e1 : (q.1 == i) = false := by simpa using fun e => hi e.symm
      have e3 : (q.1 == i + 1) = false := by simpa using fun e => hi1 e.symm
      rw [e1, e3]
      by_cases e2 : q.1 + 1 = i
      · have hw := g2 e2
        rw [h3, mc_cat]
        simp [hw]
      · simp [e2]
end
section
/-! ===== THE ROWS: an instruction, a row ===== -/
section MR
variable {Mt : mc_M} {d : Nat} {scr : Option (Nat × (Nat → Int32))} {pc : Nat} {loc stk : List Value} {h : mc_H} {r : Option Value} {h' : mc_H} {nc ns : Nat}
/-- an instruction that leaves locals and cells as they are -/
theorem mc_V.go {pc' : Nat} {stk' : List Value} (k : mc_V Mt d scr pc' loc stk' h r h' nc ns)
    (row : ∀ (p : Program) (l : Launch) (e : Env) (R : Room) (s : State) (m : MethodId) (args : Array Value) (below : List Frame) (meth : Method) (c : Code) (H : Heap) (locs : List Loc) (cells slots : Nat) (Q : State → Prop) (ls : Array Slot) (G : mc_G), mc_C Mt p s m meth c → mc_K G s → mc_X G s scr → mc_P G h H → mc_S G s H locs → mc_LO G ls Mt.2.2.1 loc →
      W p l e R s m args below meth c H locs cells slots Q (F0 m pc' ls (stk'.map (mc_cv G))) → W p l e R s m args below meth c H locs cells slots Q (F0 m pc ls (stk.map (mc_cv G)))) : mc_V Mt d scr pc loc stk h r h' nc ns := by
  intro p l e R s m args below meth c H locs cells slots Q ls G C K X P S L hR E
  exact row p l e R s m args below meth c H locs cells slots Q ls G C K X P S L (k p l e R s m args below meth c H locs cells slots Q ls G C K X P S L hR E)
/-- more room does no harm -/
theorem mc_V.up {d' : Nat} (k : mc_V Mt d scr pc loc stk h r h' nc ns) (hd : d ≤ d') : mc_V Mt d' scr pc loc stk h r h' nc ns := by
  intro p l e R s m args below meth c H locs cells slots Q ls G C K X P S L hR E
  exact k p l e R s m args below meth c H locs cells slots Q ls G C K X P S L ⟨Nat.le_trans hd hR.1, Nat.le_trans (Nat.mul_le_mul_left 35 hd) hR.2.1, hR.2.2⟩ E
/-- a branch of two -/
theorem mc_V.br {c1 : Prop} {pc1 pc2 : Nat} {stk' : List Value} (k1 : c1 → mc_V Mt d scr pc1 loc stk' h r h' nc ns) (k2 : ¬ c1 → mc_V Mt d scr pc2 loc stk' h r h' nc ns)
    (row : ∀ (p : Program) (l : Launch) (e : Env) (R : Room) (s : State) (m : MethodId) (args : Array Value) (below : List Frame) (meth : Method) (c : Code) (H : Heap) (locs : List Loc) (cells slots : Nat) (Q : State → Prop) (ls : Array Slot) (G : mc_G), mc_C Mt p s m meth c →
      (c1 → W p l e R s m args below meth c H locs cells slots Q (F0 m pc1 ls (stk'.map (mc_cv G)))) → (¬ c1 → W p l e R s m args below meth c H locs cells slots Q (F0 m pc2 ls (stk'.map (mc_cv G)))) → W p l e R s m args below meth c H locs cells slots Q (F0 m pc ls (stk.map (mc_cv G)))) : mc_V Mt d scr pc loc stk h r h' nc ns := by
  intro p l e R s m args below meth c H locs cells slots Q ls G C K X P S L hR E
  exact row p l e R s m args below meth c H locs cells slots Q ls G C (fun q => k1 q p l e R s m args below meth c H locs cells slots Q ls G C K X P S L hR E) (fun q => k2 q p l e R s m args below meth c H locs cells slots Q ls G C K X P S L hR E)
theorem mr_iconst {n : Int} (hd : decode Mt.2.1 pc = .ok (.iconst n, 1)) (k : mc_V Mt d scr (pc + 1) loc (.int (Int32.ofInt n) :: stk) h r h' nc ns) : mc_V Mt d scr pc loc (stk) h r h' nc ns := k.go (fun _ _ _ _ _ _ _ _ _ _ _ _ _ _ _ _ _ C K X P S L w => lv_iconst C.1 C.2.1 hd rfl w)
theorem mr_bipush {n : Int} (hd : decode Mt.2.1 pc = .ok (.bipush n, 2)) (k : mc_V Mt d scr (pc + 2) loc (.int (Int8.ofInt n).toInt32 :: stk) h r h' nc ns) : mc_V Mt d scr pc loc (stk) h r h' nc ns := k.go (fun _ _ _ _ _ _ _ _ _ _ _ _ _ _ _ _ _ C K X P S L w => lv_bipush C.1 C.2.1 hd rfl w)
theorem mr_sipush {n : Int} (hd : decode Mt.2.1 pc = .ok (.sipush n, 3)) (k : mc_V Mt d scr (pc + 3) loc (.int (Int16.ofInt n).toInt32 :: stk) h r h' nc ns) : mc_V Mt d scr pc loc (stk) h r h' nc ns := k.go (fun _ _ _ _ _ _ _ _ _ _ _ _ _ _ _ _ _ C K X P S L w => lv_sipush C.1 C.2.1 hd rfl w)
theorem mr_lconst {n : Fin 2} (hd : decode Mt.2.1 pc = .ok (.lconst n, 1)) (k : mc_V Mt d scr (pc + 1) loc (.long (Int64.ofNat (n : Nat)) :: stk) h r h' nc ns) : mc_V Mt d scr pc loc (stk) h r h' nc ns := k.go (fun _ _ _ _ _ _ _ _ _ _ _ _ _ _ _ _ _ C K X P S L w => lv_lconst C.1 C.2.1 hd rfl w)
theorem mr_ldc {idx : Nat} {x : Int32} (hw : Cond.constant Mt.1.cls idx x ∈ mc_tbl) (hd : decode Mt.2.1 pc = .ok (.ldc idx, 2)) (k : mc_V Mt d scr (pc + 2) loc (.int x :: stk) h r h' nc ns) : mc_V Mt d scr pc loc (stk) h r h' nc ns := k.go (fun _ _ _ _ _ _ _ _ _ _ _ _ _ _ _ _ _ C K X P S L w => lv_ldc C.1 C.2.1 C.2.2.2.2.2.1 (C.2.2.2.2.2.2.1 _ _ hw) hd w)
theorem mr_ldcw {idx : Nat} {x : Int32} (hw : Cond.constant Mt.1.cls idx x ∈ mc_tbl) (hd : decode Mt.2.1 pc = .ok (.ldc_w idx, 3)) (k : mc_V Mt d scr (pc + 3) loc (.int x :: stk) h r h' nc ns) : mc_V Mt d scr pc loc (stk) h r h' nc ns := k.go (fun _ _ _ _ _ _ _ _ _ _ _ _ _ _ _ _ _ C K X P S L w => lv_ldcw C.1 C.2.1 C.2.2.2.2.2.1 (C.2.2.2.2.2.2.1 _ _ hw) hd w)
theorem mr_ldc2 {idx : Nat} {x : Int64} (hw : Cond.constantLong Mt.1.cls idx x ∈ mc_tbl) (hd : decode Mt.2.1 pc = .ok (.ldc2_w idx, 3)) (k : mc_V Mt d scr (pc + 3) loc (.long x :: stk) h r h' nc ns) : mc_V Mt d scr pc loc (stk) h r h' nc ns := k.go (fun _ _ _ _ _ _ _ _ _ _ _ _ _ _ _ _ _ C K X P S L w => lv_ldc2 C.1 C.2.1 C.2.2.2.2.2.1 (C.2.2.2.2.2.2.1 _ _ hw) hd w)
theorem mr_iload_n {i : Fin 4} {x : Int32} (hd : decode Mt.2.1 pc = .ok (.iload_n i, 1)) (hl : loc[(i : Nat)]? = some (.int x)) (k : mc_V Mt d scr (pc + 1) loc (.int x :: stk) h r h' nc ns) : mc_V Mt d scr pc loc (stk) h r h' nc ns := k.go (fun _ _ _ _ _ _ _ _ _ _ _ _ _ _ _ _ _ C K X P S L w => lv_iload_n C.1 C.2.1 hd rfl (L.at hl (by simp)) w)
theorem mr_iload {i : Nat} {x : Int32} (hd : decode Mt.2.1 pc = .ok (.iload i, 2)) (hl : loc[i]? = some (.int x)) (k : mc_V Mt d scr (pc + 2) loc (.int x :: stk) h r h' nc ns) : mc_V Mt d scr pc loc (stk) h r h' nc ns := k.go (fun _ _ _ _ _ _ _ _ _ _ _ _ _ _ _ _ _ C K X P S L w => lv_iload C.1 C.2.1 hd (L.at hl (by simp)) w)
theorem mr_lload_n {i : Fin 4} {x : Int64} (hd : decode Mt.2.1 pc = .ok (.lload_n i, 1)) (hl : loc[(i : Nat)]? = some (.long x)) (k : mc_V Mt d scr (pc + 1) loc (.long x :: stk) h r h' nc ns) : mc_V Mt d scr pc loc (stk) h r h' nc ns := k.go (fun _ _ _ _ _ _ _ _ _ _ _ _ _ _ _ _ _ C K X P S L w => lv_lload_n C.1 C.2.1 hd rfl (L.at hl (by simp)) w)
theorem mr_lload {i : Nat} {x : Int64} (hd : decode Mt.2.1 pc = .ok (.lload i, 2)) (hl : loc[i]? = some (.long x)) (k : mc_V Mt d scr (pc + 2) loc (.long x :: stk) h r h' nc ns) : mc_V Mt d scr pc loc (stk) h r h' nc ns := k.go (fun _ _ _ _ _ _ _ _ _ _ _ _ _ _ _ _ _ C K X P S L w => lv_lload C.1 C.2.1 hd (L.at hl (by simp)) w)
theorem mr_aload_n {i : Fin 4} {x : Nat} (hd : decode Mt.2.1 pc = .ok (.aload_n i, 1)) (hl : loc[(i : Nat)]? = some (.ref x)) (k : mc_V Mt d scr (pc + 1) loc (.ref x :: stk) h r h' nc ns) : mc_V Mt d scr pc loc (stk) h r h' nc ns := k.go (fun _ _ _ _ _ _ _ _ _ _ _ _ _ _ _ _ _ C K X P S L w => lv_aload_n C.1 C.2.1 hd rfl (L.at hl (by simp)) w)
theorem mr_aload {i : Nat} {x : Nat} (hd : decode Mt.2.1 pc = .ok (.aload i, 2)) (hl : loc[i]? = some (.ref x)) (k : mc_V Mt d scr (pc + 2) loc (.ref x :: stk) h r h' nc ns) : mc_V Mt d scr pc loc (stk) h r h' nc ns := k.go (fun _ _ _ _ _ _ _ _ _ _ _ _ _ _ _ _ _ C K X P S L w => lv_aload C.1 C.2.1 hd (L.at hl (by simp)) w)
theorem mr_istore_n {i : Fin 4} {x : Int32} (hd : decode Mt.2.1 pc = .ok (.istore_n i, 1)) (hn : (i : Nat) < loc.length) (k : mc_V Mt d scr (pc + 1) (mc_set1 loc (i : Nat) (.int x)) (stk) h r h' nc ns) : mc_V Mt d scr pc loc (.int x :: stk) h r h' nc ns := by
  intro p l e R s m args below meth c H locs cells slots Q ls G C K X P S L hR E
  exact lv_istore_n C.1 C.2.1 hd rfl L.1 (by rw [← L.2]; exact hn) rfl (fun ls' hl => k p l e R s m args below meth c H locs cells slots Q ls' G C K X P S (mc_store1 (v := (.int x)) L.2 hl) hR E)
theorem mr_istore {i : Nat} {x : Int32} (hd : decode Mt.2.1 pc = .ok (.istore i, 2)) (hn : i < loc.length) (k : mc_V Mt d scr (pc + 2) (mc_set1 loc i (.int x)) (stk) h r h' nc ns) : mc_V Mt d scr pc loc (.int x :: stk) h r h' nc ns := by
  intro p l e R s m args below meth c H locs cells slots Q ls G C K X P S L hR E
  exact lv_istore C.1 C.2.1 hd L.1 (by rw [← L.2]; exact hn) rfl (fun ls' hl => k p l e R s m args below meth c H locs cells slots Q ls' G C K X P S (mc_store1 (v := (.int x)) L.2 hl) hR E)
theorem mr_lstore_n {i : Fin 4} {x : Int64} (hd : decode Mt.2.1 pc = .ok (.lstore_n i, 1)) (hn : (i : Nat) + 1 < loc.length) (k : mc_V Mt d scr (pc + 1) (mc_set2 loc (i : Nat) (.long x)) (stk) h r h' nc ns) : mc_V Mt d scr pc loc (.long x :: stk) h r h' nc ns := by
  intro p l e R s m args below meth c H locs cells slots Q ls G C K X P S L hR E
  exact lv_lstore_n C.1 C.2.1 hd rfl L.1 (by rw [← L.2]; exact hn) rfl (fun ls' hl => k p l e R s m args below meth c H locs cells slots Q ls' G C K X P S (mc_store2 (v := (.long x)) L.2 hl) hR E)
theorem mr_lstore {i : Nat} {x : Int64} (hd : decode Mt.2.1 pc = .ok (.lstore i, 2)) (hn : i + 1 < loc.length) (k : mc_V Mt d scr (pc + 2) (mc_set2 loc i (.long x)) (stk) h r h' nc ns) : mc_V Mt d scr pc loc (.long x :: stk) h r h' nc ns := by
  intro p l e R s m args below meth c H locs cells slots Q ls G C K X P S L hR E
  exact lv_lstore C.1 C.2.1 hd L.1 (by rw [← L.2]; exact hn) rfl (fun ls' hl => k p l e R s m args below meth c H locs cells slots Q ls' G C K X P S (mc_store2 (v := (.long x)) L.2 hl) hR E)
theorem mr_astore_n {i : Fin 4} {x : Nat} (hd : decode Mt.2.1 pc = .ok (.astore_n i, 1)) (hn : (i : Nat) < loc.length) (k : mc_V Mt d scr (pc + 1) (mc_set1 loc (i : Nat) (.ref x)) (stk) h r h' nc ns) : mc_V Mt d scr pc loc (.ref x :: stk) h r h' nc ns := by
  intro p l e R s m args below meth c H locs cells slots Q ls G C K X P S L hR E
  exact lv_astore_n C.1 C.2.1 hd rfl L.1 (by rw [← L.2]; exact hn) rfl (fun ls' hl => k p l e R s m args below meth c H locs cells slots Q ls' G C K X P S (mc_store1 (v := (.ref x)) L.2 hl) hR E)
theorem mr_astore {i : Nat} {x : Nat} (hd : decode Mt.2.1 pc = .ok (.astore i, 2)) (hn : i < loc.length) (k : mc_V Mt d scr (pc + 2) (mc_set1 loc i (.ref x)) (stk) h r h' nc ns) : mc_V Mt d scr pc loc (.ref x :: stk) h r h' nc ns := by
  intro p l e R s m args below meth c H locs cells slots Q ls G C K X P S L hR E
  exact lv_astore C.1 C.2.1 hd L.1 (by rw [← L.2]; exact hn) rfl (fun ls' hl => k p l e R s m args below meth c H locs cells slots Q ls' G C K X P S (mc_store1 (v := (.ref x)) L.2 hl) hR E)
theorem mr_iinc {i : Nat} {n : Int} {x : Int32} (hd : decode Mt.2.1 pc = .ok (.iinc i n, 3)) (hl : loc[i]? = some (.int x)) (k : mc_V Mt d scr (pc + 3) (mc_set1 loc i (.int (x + Int32.ofInt n))) (stk) h r h' nc ns) : mc_V Mt d scr pc loc (stk) h r h' nc ns := by
  intro p l e R s m args below meth c H locs cells slots Q ls G C K X P S L hR E
  have hm : (i, Value.int x) ∈ mc_lv G loc := mc_lv_mem.mpr ⟨.int x, hl, by simp, rfl⟩
  obtain ⟨q, hq⟩ := List.getElem?_of_mem hm
  exact lv_iinc (x := x) C.1 C.2.1 hd L.1 hq rfl (by rw [← L.2]; exact (List.getElem?_eq_some_iff.mp hl).1) rfl (fun ls' hl => k p l e R s m args below meth c H locs cells slots Q ls' G C K X P S (mc_store1 (v := .int (x + Int32.ofInt n)) L.2 hl) hR E)
theorem mr_iadd {x y : Int32} (hd : decode Mt.2.1 pc = .ok (.iadd, 1)) (k : mc_V Mt d scr (pc + 1) loc (.int (x + y) :: stk) h r h' nc ns) : mc_V Mt d scr pc loc (.int y :: .int x :: stk) h r h' nc ns := k.go (fun _ _ _ _ _ _ _ _ _ _ _ _ _ _ _ _ _ C K X P S L w => lv_iadd C.1 C.2.1 hd w)
theorem mr_isub {x y : Int32} (hd : decode Mt.2.1 pc = .ok (.isub, 1)) (k : mc_V Mt d scr (pc + 1) loc (.int (x - y) :: stk) h r h' nc ns) : mc_V Mt d scr pc loc (.int y :: .int x :: stk) h r h' nc ns := k.go (fun _ _ _ _ _ _ _ _ _ _ _ _ _ _ _ _ _ C K X P S L w => lv_isub C.1 C.2.1 hd w)
theorem mr_imul {x y : Int32} (hd : decode Mt.2.1 pc = .ok (.imul, 1)) (k : mc_V Mt d scr (pc + 1) loc (.int (x * y) :: stk) h r h' nc ns) : mc_V Mt d scr pc loc (.int y :: .int x :: stk) h r h' nc ns := k.go (fun _ _ _ _ _ _ _ _ _ _ _ _ _ _ _ _ _ C K X P S L w => lv_imul C.1 C.2.1 hd w)
theorem mr_iand {x y : Int32} (hd : decode Mt.2.1 pc = .ok (.iand, 1)) (k : mc_V Mt d scr (pc + 1) loc (.int (x &&& y) :: stk) h r h' nc ns) : mc_V Mt d scr pc loc (.int y :: .int x :: stk) h r h' nc ns := k.go (fun _ _ _ _ _ _ _ _ _ _ _ _ _ _ _ _ _ C K X P S L w => lv_iand C.1 C.2.1 hd w)
theorem mr_ior {x y : Int32} (hd : decode Mt.2.1 pc = .ok (.ior, 1)) (k : mc_V Mt d scr (pc + 1) loc (.int (x ||| y) :: stk) h r h' nc ns) : mc_V Mt d scr pc loc (.int y :: .int x :: stk) h r h' nc ns := k.go (fun _ _ _ _ _ _ _ _ _ _ _ _ _ _ _ _ _ C K X P S L w => lv_ior C.1 C.2.1 hd w)
theorem mr_ixor {x y : Int32} (hd : decode Mt.2.1 pc = .ok (.ixor, 1)) (k : mc_V Mt d scr (pc + 1) loc (.int (x ^^^ y) :: stk) h r h' nc ns) : mc_V Mt d scr pc loc (.int y :: .int x :: stk) h r h' nc ns := k.go (fun _ _ _ _ _ _ _ _ _ _ _ _ _ _ _ _ _ C K X P S L w => lv_ixor C.1 C.2.1 hd w)
theorem mr_ishl {x y : Int32} (hd : decode Mt.2.1 pc = .ok (.ishl, 1)) (k : mc_V Mt d scr (pc + 1) loc (.int (x <<< (y &&& 31)) :: stk) h r h' nc ns) : mc_V Mt d scr pc loc (.int y :: .int x :: stk) h r h' nc ns := k.go (fun _ _ _ _ _ _ _ _ _ _ _ _ _ _ _ _ _ C K X P S L w => lv_ishl C.1 C.2.1 hd w)
theorem mr_ishr {x y : Int32} (hd : decode Mt.2.1 pc = .ok (.ishr, 1)) (k : mc_V Mt d scr (pc + 1) loc (.int (x >>> (y &&& 31)) :: stk) h r h' nc ns) : mc_V Mt d scr pc loc (.int y :: .int x :: stk) h r h' nc ns := k.go (fun _ _ _ _ _ _ _ _ _ _ _ _ _ _ _ _ _ C K X P S L w => lv_ishr C.1 C.2.1 hd w)
theorem mr_irem {x y : Int32} (hd : decode Mt.2.1 pc = .ok (.irem, 1)) (hne : ¬ y = 0) (k : mc_V Mt d scr (pc + 1) loc (.int (x - x / y * y) :: stk) h r h' nc ns) : mc_V Mt d scr pc loc (.int y :: .int x :: stk) h r h' nc ns := k.go (fun _ _ _ _ _ _ _ _ _ _ _ _ _ _ _ _ _ C K X P S L w => lv_irem C.1 C.2.1 hd hne w)
theorem mr_iushr {x y : Int32} (hd : decode Mt.2.1 pc = .ok (.iushr, 1)) (k : mc_V Mt d scr (pc + 1) loc (.int (x.toUInt32 >>> (y.toUInt32 &&& Int32.toUInt32 31)).toInt32 :: stk) h r h' nc ns) : mc_V Mt d scr pc loc (.int y :: .int x :: stk) h r h' nc ns := k.go (fun _ _ _ _ _ _ _ _ _ _ _ _ _ _ _ _ _ C K X P S L w => lv_iushr C.1 C.2.1 hd rfl w)
theorem mr_ineg {x : Int32} (hd : decode Mt.2.1 pc = .ok (.ineg, 1)) (k : mc_V Mt d scr (pc + 1) loc (.int (-x) :: stk) h r h' nc ns) : mc_V Mt d scr pc loc (.int x :: stk) h r h' nc ns := k.go (fun _ _ _ _ _ _ _ _ _ _ _ _ _ _ _ _ _ C K X P S L w => lv_ineg C.1 C.2.1 hd w)
theorem mr_i2l {x : Int32} (hd : decode Mt.2.1 pc = .ok (.i2l, 1)) (k : mc_V Mt d scr (pc + 1) loc (.long x.toInt64 :: stk) h r h' nc ns) : mc_V Mt d scr pc loc (.int x :: stk) h r h' nc ns := k.go (fun _ _ _ _ _ _ _ _ _ _ _ _ _ _ _ _ _ C K X P S L w => lv_i2l C.1 C.2.1 hd rfl w)
theorem mr_i2s {x : Int32} (hd : decode Mt.2.1 pc = .ok (.i2s, 1)) (k : mc_V Mt d scr (pc + 1) loc (.int x.toInt16.toInt32 :: stk) h r h' nc ns) : mc_V Mt d scr pc loc (.int x :: stk) h r h' nc ns := k.go (fun _ _ _ _ _ _ _ _ _ _ _ _ _ _ _ _ _ C K X P S L w => lv_i2s C.1 C.2.1 hd rfl w)
theorem mr_ladd {x y : Int64} (hd : decode Mt.2.1 pc = .ok (.ladd, 1)) (k : mc_V Mt d scr (pc + 1) loc (.long (x + y) :: stk) h r h' nc ns) : mc_V Mt d scr pc loc (.long y :: .long x :: stk) h r h' nc ns := k.go (fun _ _ _ _ _ _ _ _ _ _ _ _ _ _ _ _ _ C K X P S L w => lv_ladd C.1 C.2.1 hd w)
theorem mr_lsub {x y : Int64} (hd : decode Mt.2.1 pc = .ok (.lsub, 1)) (k : mc_V Mt d scr (pc + 1) loc (.long (x - y) :: stk) h r h' nc ns) : mc_V Mt d scr pc loc (.long y :: .long x :: stk) h r h' nc ns := k.go (fun _ _ _ _ _ _ _ _ _ _ _ _ _ _ _ _ _ C K X P S L w => lv_lsub C.1 C.2.1 hd w)
theorem mr_lmul {x y : Int64} (hd : decode Mt.2.1 pc = .ok (.lmul, 1)) (k : mc_V Mt d scr (pc + 1) loc (.long (x * y) :: stk) h r h' nc ns) : mc_V Mt d scr pc loc (.long y :: .long x :: stk) h r h' nc ns := k.go (fun _ _ _ _ _ _ _ _ _ _ _ _ _ _ _ _ _ C K X P S L w => lv_lmul C.1 C.2.1 hd w)
theorem mr_ldiv {x y : Int64} (hd : decode Mt.2.1 pc = .ok (.ldiv, 1)) (hne : ¬ y = 0) (k : mc_V Mt d scr (pc + 1) loc (.long (x / y) :: stk) h r h' nc ns) : mc_V Mt d scr pc loc (.long y :: .long x :: stk) h r h' nc ns := k.go (fun _ _ _ _ _ _ _ _ _ _ _ _ _ _ _ _ _ C K X P S L w => lv_ldiv C.1 C.2.1 hd hne w)
theorem mr_lrem {x y : Int64} (hd : decode Mt.2.1 pc = .ok (.lrem, 1)) (hne : ¬ y = 0) (k : mc_V Mt d scr (pc + 1) loc (.long (x - x / y * y) :: stk) h r h' nc ns) : mc_V Mt d scr pc loc (.long y :: .long x :: stk) h r h' nc ns := k.go (fun _ _ _ _ _ _ _ _ _ _ _ _ _ _ _ _ _ C K X P S L w => lv_lrem C.1 C.2.1 hd hne w)
theorem mr_lneg {x : Int64} (hd : decode Mt.2.1 pc = .ok (.lneg, 1)) (k : mc_V Mt d scr (pc + 1) loc (.long (-x) :: stk) h r h' nc ns) : mc_V Mt d scr pc loc (.long x :: stk) h r h' nc ns := k.go (fun _ _ _ _ _ _ _ _ _ _ _ _ _ _ _ _ _ C K X P S L w => lv_lneg C.1 C.2.1 hd w)
theorem mr_lcmp {x y : Int64} (hd : decode Mt.2.1 pc = .ok (.lcmp, 1)) (k : mc_V Mt d scr (pc + 1) loc (.int (lg_cmp x y) :: stk) h r h' nc ns) : mc_V Mt d scr pc loc (.long y :: .long x :: stk) h r h' nc ns := k.go (fun _ _ _ _ _ _ _ _ _ _ _ _ _ _ _ _ _ C K X P S L w => W.lcmp C.1 C.2.1 hd w)
theorem mr_dup {x : Value} (hd : decode Mt.2.1 pc = .ok (.dup, 1)) (hx : x.category = 1) (k : mc_V Mt d scr (pc + 1) loc (x :: x :: stk) h r h' nc ns) : mc_V Mt d scr pc loc (x :: stk) h r h' nc ns := k.go (fun _ _ _ _ _ _ _ _ _ _ _ _ _ _ _ _ G C K X P S L w => lv_dup C.1 C.2.1 hd (by rw [mc_cat G]; exact hx) w)
theorem mr_dup2 {x y : Value} (hd : decode Mt.2.1 pc = .ok (.dup2, 1)) (hx : x.category = 1) (hy : y.category = 1) (k : mc_V Mt d scr (pc + 1) loc (x :: y :: x :: y :: stk) h r h' nc ns) : mc_V Mt d scr pc loc (x :: y :: stk) h r h' nc ns := k.go (fun _ _ _ _ _ _ _ _ _ _ _ _ _ _ _ _ G C K X P S L w => lv_dup2_11 C.1 C.2.1 hd (by rw [mc_cat G]; exact hx) (by rw [mc_cat G]; exact hy) w)
theorem mr_dup2l {x : Value} (hd : decode Mt.2.1 pc = .ok (.dup2, 1)) (hx : x.category = 2) (k : mc_V Mt d scr (pc + 1) loc (x :: x :: stk) h r h' nc ns) : mc_V Mt d scr pc loc (x :: stk) h r h' nc ns := k.go (fun _ _ _ _ _ _ _ _ _ _ _ _ _ _ _ _ G C K X P S L w => lv_dup2_2 C.1 C.2.1 hd (by rw [mc_cat G]; exact hx) w)
theorem mr_goto {off : Int} (tgt : Nat) (hd : decode Mt.2.1 pc = .ok (.goto off, 3)) (ht : (pc : Int) + off = (tgt : Int)) (k : mc_V Mt d scr tgt loc (stk) h r h' nc ns) : mc_V Mt d scr pc loc (stk) h r h' nc ns := k.go (fun _ _ _ _ _ _ _ _ _ _ _ _ _ _ _ _ _ C K X P S L w => lv_goto C.1 C.2.1 hd ht w)
theorem mr_if_eq {x : Int32} {off : Int} (tgt : Nat) (hd : decode Mt.2.1 pc = .ok (.ifCond .eq off, 3)) (ht : (pc : Int) + off = (tgt : Int)) (kt : x = 0 → mc_V Mt d scr tgt loc (stk) h r h' nc ns) (kf : ¬ x = 0 → mc_V Mt d scr (pc + 3) loc (stk) h r h' nc ns) : mc_V Mt d scr pc loc (.int x :: stk) h r h' nc ns := mc_V.br kt kf (fun _ _ _ _ _ _ _ _ _ _ _ _ _ _ _ _ _ C kt kf => lv_if_eq C.1 C.2.1 hd ht kt kf)
theorem mr_icmp_eq {x y : Int32} {off : Int} (tgt : Nat) (hd : decode Mt.2.1 pc = .ok (.if_icmp .eq off, 3)) (ht : (pc : Int) + off = (tgt : Int)) (kt : x = y → mc_V Mt d scr tgt loc (stk) h r h' nc ns) (kf : ¬ x = y → mc_V Mt d scr (pc + 3) loc (stk) h r h' nc ns) : mc_V Mt d scr pc loc (.int y :: .int x :: stk) h r h' nc ns := mc_V.br kt kf (fun _ _ _ _ _ _ _ _ _ _ _ _ _ _ _ _ _ C kt kf => lv_icmp_eq C.1 C.2.1 hd ht kt kf)
theorem mr_if_lt {x : Int32} {off : Int} (tgt : Nat) (hd : decode Mt.2.1 pc = .ok (.ifCond .lt off, 3)) (ht : (pc : Int) + off = (tgt : Int)) (kt : x < 0 → mc_V Mt d scr tgt loc (stk) h r h' nc ns) (kf : ¬ x < 0 → mc_V Mt d scr (pc + 3) loc (stk) h r h' nc ns) : mc_V Mt d scr pc loc (.int x :: stk) h r h' nc ns := mc_V.br kt kf (fun _ _ _ _ _ _ _ _ _ _ _ _ _ _ _ _ _ C kt kf => lv_if_lt C.1 C.2.1 hd ht kt kf)
theorem mr_icmp_lt {x y : Int32} {off : Int} (tgt : Nat) (hd : decode Mt.2.1 pc = .ok (.if_icmp .lt off, 3)) (ht : (pc : Int) + off = (tgt : Int)) (kt : x < y → mc_V Mt d scr tgt loc (stk) h r h' nc ns) (kf : ¬ x < y → mc_V Mt d scr (pc + 3) loc (stk) h r h' nc ns) : mc_V Mt d scr pc loc (.int y :: .int x :: stk) h r h' nc ns := mc_V.br kt kf (fun _ _ _ _ _ _ _ _ _ _ _ _ _ _ _ _ _ C kt kf => lv_icmp_lt C.1 C.2.1 hd ht kt kf)
theorem mr_if_ge {x : Int32} {off : Int} (tgt : Nat) (hd : decode Mt.2.1 pc = .ok (.ifCond .ge off, 3)) (ht : (pc : Int) + off = (tgt : Int)) (kt : 0 ≤ x → mc_V Mt d scr tgt loc (stk) h r h' nc ns) (kf : ¬ 0 ≤ x → mc_V Mt d scr (pc + 3) loc (stk) h r h' nc ns) : mc_V Mt d scr pc loc (.int x :: stk) h r h' nc ns := mc_V.br kt kf (fun _ _ _ _ _ _ _ _ _ _ _ _ _ _ _ _ _ C kt kf => lv_if_ge C.1 C.2.1 hd ht kt kf)
theorem mr_icmp_ge {x y : Int32} {off : Int} (tgt : Nat) (hd : decode Mt.2.1 pc = .ok (.if_icmp .ge off, 3)) (ht : (pc : Int) + off = (tgt : Int)) (kt : y ≤ x → mc_V Mt d scr tgt loc (stk) h r h' nc ns) (kf : ¬ y ≤ x → mc_V Mt d scr (pc + 3) loc (stk) h r h' nc ns) : mc_V Mt d scr pc loc (.int y :: .int x :: stk) h r h' nc ns := mc_V.br kt kf (fun _ _ _ _ _ _ _ _ _ _ _ _ _ _ _ _ _ C kt kf => lv_icmp_ge C.1 C.2.1 hd ht kt kf)
theorem mr_if_gt {x : Int32} {off : Int} (tgt : Nat) (hd : decode Mt.2.1 pc = .ok (.ifCond .gt off, 3)) (ht : (pc : Int) + off = (tgt : Int)) (kt : 0 < x → mc_V Mt d scr tgt loc (stk) h r h' nc ns) (kf : ¬ 0 < x → mc_V Mt d scr (pc + 3) loc (stk) h r h' nc ns) : mc_V Mt d scr pc loc (.int x :: stk) h r h' nc ns := mc_V.br kt kf (fun _ _ _ _ _ _ _ _ _ _ _ _ _ _ _ _ _ C kt kf => lv_if_gt C.1 C.2.1 hd ht kt kf)
theorem mr_icmp_gt {x y : Int32} {off : Int} (tgt : Nat) (hd : decode Mt.2.1 pc = .ok (.if_icmp .gt off, 3)) (ht : (pc : Int) + off = (tgt : Int)) (kt : y < x → mc_V Mt d scr tgt loc (stk) h r h' nc ns) (kf : ¬ y < x → mc_V Mt d scr (pc + 3) loc (stk) h r h' nc ns) : mc_V Mt d scr pc loc (.int y :: .int x :: stk) h r h' nc ns := mc_V.br kt kf (fun _ _ _ _ _ _ _ _ _ _ _ _ _ _ _ _ _ C kt kf => lv_icmp_gt C.1 C.2.1 hd ht kt kf)
theorem mr_if_le {x : Int32} {off : Int} (tgt : Nat) (hd : decode Mt.2.1 pc = .ok (.ifCond .le off, 3)) (ht : (pc : Int) + off = (tgt : Int)) (kt : x ≤ 0 → mc_V Mt d scr tgt loc (stk) h r h' nc ns) (kf : ¬ x ≤ 0 → mc_V Mt d scr (pc + 3) loc (stk) h r h' nc ns) : mc_V Mt d scr pc loc (.int x :: stk) h r h' nc ns := mc_V.br kt kf (fun _ _ _ _ _ _ _ _ _ _ _ _ _ _ _ _ _ C kt kf => lv_if_le C.1 C.2.1 hd ht kt kf)
theorem mr_icmp_le {x y : Int32} {off : Int} (tgt : Nat) (hd : decode Mt.2.1 pc = .ok (.if_icmp .le off, 3)) (ht : (pc : Int) + off = (tgt : Int)) (kt : x ≤ y → mc_V Mt d scr tgt loc (stk) h r h' nc ns) (kf : ¬ x ≤ y → mc_V Mt d scr (pc + 3) loc (stk) h r h' nc ns) : mc_V Mt d scr pc loc (.int y :: .int x :: stk) h r h' nc ns := mc_V.br kt kf (fun _ _ _ _ _ _ _ _ _ _ _ _ _ _ _ _ _ C kt kf => lv_icmp_le C.1 C.2.1 hd ht kt kf)
theorem mr_if_ne {x : Int32} {off : Int} (tgt : Nat) (hd : decode Mt.2.1 pc = .ok (.ifCond .ne off, 3)) (ht : (pc : Int) + off = (tgt : Int)) (kt : ¬ x = 0 → mc_V Mt d scr tgt loc (stk) h r h' nc ns) (kf : x = 0 → mc_V Mt d scr (pc + 3) loc (stk) h r h' nc ns) : mc_V Mt d scr pc loc (.int x :: stk) h r h' nc ns := mc_V.br kf kt (fun _ _ _ _ _ _ _ _ _ _ _ _ _ _ _ _ _ C kt kf => lv_if_ne C.1 C.2.1 hd ht kf kt)
theorem mr_icmp_ne {x y : Int32} {off : Int} (tgt : Nat) (hd : decode Mt.2.1 pc = .ok (.if_icmp .ne off, 3)) (ht : (pc : Int) + off = (tgt : Int)) (kt : ¬ x = y → mc_V Mt d scr tgt loc (stk) h r h' nc ns) (kf : x = y → mc_V Mt d scr (pc + 3) loc (stk) h r h' nc ns) : mc_V Mt d scr pc loc (.int y :: .int x :: stk) h r h' nc ns := mc_V.br kf kt (fun _ _ _ _ _ _ _ _ _ _ _ _ _ _ _ _ _ C kt kf => lv_icmp_ne C.1 C.2.1 hd ht kf kt)
theorem mr_tabOut {dflt lo hi : Int} {offs : Array Int} {len : Nat} {x : Int32} (tgt : Nat) (hd : decode Mt.2.1 pc = .ok (.tableswitch dflt lo hi offs, len)) (hx : x.toInt < lo ∨ hi < x.toInt) (ht : (pc : Int) + dflt = (tgt : Int)) (k : mc_V Mt d scr tgt loc (stk) h r h' nc ns) : mc_V Mt d scr pc loc (.int x :: stk) h r h' nc ns := k.go (fun _ _ _ _ _ _ _ _ _ _ _ _ _ _ _ _ _ C K X P S L w => lv_tableOut C.1 C.2.1 hd hx ht w)
theorem mr_tabIn {dflt lo hi : Int} {offs : Array Int} {len : Nat} {x : Int32} (off : Int) (tgt : Nat) (hd : decode Mt.2.1 pc = .ok (.tableswitch dflt lo hi offs, len)) (h1 : ¬ x.toInt < lo) (h2 : ¬ hi < x.toInt) (ho : offs[(x.toInt - lo).toNat]? = some off) (ht : (pc : Int) + off = (tgt : Int)) (k : mc_V Mt d scr tgt loc (stk) h r h' nc ns) : mc_V Mt d scr pc loc (.int x :: stk) h r h' nc ns := k.go (fun _ _ _ _ _ _ _ _ _ _ _ _ _ _ _ _ _ C K X P S L w => lv_tableIn C.1 C.2.1 hd h1 h2 ho ht w)
theorem mr_lookup {dflt : Int} {ps : Array (Int × Int)} {len : Nat} {x : Int32} (off : Int) (tgt : Nat) (hd : decode Mt.2.1 pc = .ok (.lookupswitch dflt ps, len)) (hp : (ps.toList.zip (ps.toList.drop 1)).all (fun (a, next) => a.1 < next.1) = true) (ho : Op.lookupswitch.offset ps.toList dflt x.toInt = off) (ht : (pc : Int) + off = (tgt : Int)) (k : mc_V Mt d scr tgt loc (stk) h r h' nc ns) : mc_V Mt d scr pc loc (.int x :: stk) h r h' nc ns := k.go (fun _ _ _ _ _ _ _ _ _ _ _ _ _ _ _ _ _ C K X P S L w => lv_lookup C.1 C.2.1 hd hp ho ht w)
theorem mr_getf {a ci : Nat} {C : String} {T : u_T} {N idx : Nat} {fs : List Value} {v : Value} (hin : ∀ w ∈ u_ws C T N, w ∈ mc_tbl) (hc : mc_cl[ci]? = some (C, T, N)) (f : Nat) (hf : f < N) (hw : Cond.fieldLink Mt.1.cls idx (T f).1 (T f).2.1 (T f).2.2.1 ∈ mc_tbl) (hd : decode Mt.2.1 pc = .ok (.getfield idx, 3)) (ha : h[a]? = some (.inl (ci, fs))) (hv : fs[f]? = some v) (k : mc_V Mt d scr (pc + 3) loc (v :: stk) h r h' nc ns) : mc_V Mt d scr pc loc (.ref (a + 1) :: stk) h r h' nc ns :=
  k.go (fun _ _ _ _ _ _ _ _ _ _ _ _ _ _ _ _ G C K X P S L w => va_get C.1 C.2.1 (fun w h => C.2.2.2.2.2.2.1 _ w h) hin C.2.2.2.2.2.1 K P.1 a (mc_W_get ha) hc f hf (C.2.2.2.2.2.2.1 _ _ hw) (fun _ q => q) (by rw [List.getElem?_map, hv]; rfl) hd w)
theorem mr_getfN {a ci : Nat} {C host : String} {T : u_T} {N idx : Nat} {fs : List Value} {v : Value} (hin : ∀ w ∈ u_ws C T N, w ∈ mc_tbl) (hc : mc_cl[ci]? = some (C, T, N)) (f : Nat) (hf : f < N) (hw : Cond.fieldLinkNest Mt.1.cls idx (T f).1 (T f).2.1 (T f).2.2.1 host ∈ mc_tbl) (hd : decode Mt.2.1 pc = .ok (.getfield idx, 3)) (ha : h[a]? = some (.inl (ci, fs))) (hv : fs[f]? = some v) (k : mc_V Mt d scr (pc + 3) loc (v :: stk) h r h' nc ns) : mc_V Mt d scr pc loc (.ref (a + 1) :: stk) h r h' nc ns :=
  k.go (fun _ _ _ _ _ _ _ _ _ _ _ _ _ _ _ _ G C K X P S L w => va_getN C.1 C.2.1 (fun w h => C.2.2.2.2.2.2.1 _ w h) hin C.2.2.2.2.2.1 K P.1 a (mc_W_get ha) hc f hf (C.2.2.2.2.2.2.1 _ _ hw) (fun _ q => q) (by rw [List.getElem?_map, hv]; rfl) hd w)
theorem mr_iald {a n : Nat} {f : Nat → Int32} {i : Int32} (hd : decode Mt.2.1 pc = .ok (.iaload, 1)) (ha : h[a]? = some (.inr (.inl (.int, n, f)))) (hi : vp_in i n) (k : mc_V Mt d scr (pc + 1) loc (.int (f i.toNatClampNeg) :: stk) h r h' nc ns) : mc_V Mt d scr pc loc (.int i :: .ref (a + 1) :: stk) h r h' nc ns := k.go (fun _ _ _ _ _ _ _ _ _ _ _ _ _ _ _ _ _ C K X P S L w => va_iald C.1 C.2.1 K P.1 a 0 (mc_W_get ha) rfl hi hd w)
theorem mr_sald {a n : Nat} {f : Nat → Int32} {i : Int32} (hd : decode Mt.2.1 pc = .ok (.saload, 1)) (ha : h[a]? = some (.inr (.inl (.short, n, f)))) (hi : vp_in i n) (k : mc_V Mt d scr (pc + 1) loc (.int (f i.toNatClampNeg) :: stk) h r h' nc ns) : mc_V Mt d scr pc loc (.int i :: .ref (a + 1) :: stk) h r h' nc ns := k.go (fun _ _ _ _ _ _ _ _ _ _ _ _ _ _ _ _ _ C K X P S L w => va_sald C.1 C.2.1 K P.1 a 2 (mc_W_get ha) rfl hi hd w)
theorem mr_zald {a n : Nat} {f : Nat → Int32} {i : Int32} (hd : decode Mt.2.1 pc = .ok (.baload, 1)) (ha : h[a]? = some (.inr (.inl (.boolean, n, f)))) (hi : vp_in i n) (k : mc_V Mt d scr (pc + 1) loc (.int (f i.toNatClampNeg) :: stk) h r h' nc ns) : mc_V Mt d scr pc loc (.int i :: .ref (a + 1) :: stk) h r h' nc ns := k.go (fun _ _ _ _ _ _ _ _ _ _ _ _ _ _ _ _ _ C K X P S L w => va_zald C.1 C.2.1 K P.1 a 3 (mc_W_get ha) rfl hi hd w)
theorem mr_lald {a n : Nat} {f : Nat → Int64} {i : Int32} (hd : decode Mt.2.1 pc = .ok (.laload, 1)) (ha : h[a]? = some (.inr (.inr (.inl (n, f))))) (hi : vp_in i n) (k : mc_V Mt d scr (pc + 1) loc (.long (f i.toNatClampNeg) :: stk) h r h' nc ns) : mc_V Mt d scr pc loc (.int i :: .ref (a + 1) :: stk) h r h' nc ns := k.go (fun _ _ _ _ _ _ _ _ _ _ _ _ _ _ _ _ _ C K X P S L w => va_lald C.1 C.2.1 K P.1 a 1 (mc_W_get ha) rfl hi hd w)
theorem mr_aald {a n : Nat} {f : Nat → Option Nat} {i : Int32} {b : Nat} (hd : decode Mt.2.1 pc = .ok (.aaload, 1)) (ha : h[a]? = some (.inr (.inr (.inr (n, f))))) (hi : vp_in i n) (hb : f i.toNatClampNeg = some b) (k : mc_V Mt d scr (pc + 1) loc (.ref b :: stk) h r h' nc ns) : mc_V Mt d scr pc loc (.int i :: .ref (a + 1) :: stk) h r h' nc ns :=
  k.go (fun _ _ _ _ _ _ _ _ _ _ _ _ _ _ _ _ G C K X P S L w => by
    have hlt : i.toNatClampNeg < n := Nat.not_le.mp fun q => hi (Or.inr q)
    have hK := (K.2 4 _ rfl).1 n (fun j => va_rf ((f j).map (mc_ad G)))
    refine W.aald (v := va_rf ((f i.toNatClampNeg).map (mc_ad G))) (ty := .array .long) C.1 C.2.1 (P.1 a _ (mc_W_get ha)) hK rfl (fun q => by cases q) (by show ¬ (i < 0 ∨ (arrV _ _ _).slots.size ≤ _); rw [arrV_size]; exact hi) (by show (arrV _ _ _).slots[_]? = _; rw [arrV_read _ _ hlt]) rfl rfl hd ?_
    rw [hb]
    exact w)
theorem mr_slen {L : Nat} {xs : Nat → Int32} (hs : scr = some (L, xs)) (hd : decode Mt.2.1 pc = .ok (.arraylength, 1)) (k : mc_V Mt d scr (pc + 1) loc (.int (Int32.ofNat L) :: stk) h r h' nc ns) : mc_V Mt d scr pc loc (.ref 0 :: stk) h r h' nc ns := by
  subst hs
  exact k.go (fun _ _ _ _ _ _ _ _ _ _ _ _ _ _ _ _ G C K X P S L w => va_slen C.1 C.2.1 X.1 (Nat.lt_of_lt_of_le X.2 S.2) (Nat.not_le.mpr X.2) S.1 hd w)
theorem mr_sld {L : Nat} {xs : Nat → Int32} {i : Int32} (hs : scr = some (L, xs)) (hd : decode Mt.2.1 pc = .ok (.iaload, 1)) (hi : vp_in i L) (k : mc_V Mt d scr (pc + 1) loc (.int (xs i.toNatClampNeg) :: stk) h r h' nc ns) : mc_V Mt d scr pc loc (.int i :: .ref 0 :: stk) h r h' nc ns := by
  subst hs
  exact k.go (fun _ _ _ _ _ _ _ _ _ _ _ _ _ _ _ _ G C K X P S L w => va_sld C.1 C.2.1 X.1 (Nat.lt_of_lt_of_le X.2 S.2) (Nat.not_le.mpr X.2) S.1 hi hd w)
end MR
end
section
/-! ===== THE ROWS THAT WRITE ===== -/
section MW
variable {Mt : mc_M} {d : Nat} {scr : Option (Nat × (Nat → Int32))} {pc : Nat} {loc stk : List Value} {h : mc_H} {r : Option Value} {h' : mc_H} {nc ns : Nat}
/-- a cell is written over -/
theorem mc_P.put {G : mc_G} {h : mc_H} {H H1 : Heap} {a : Nat} {x0 x : mc_Cell} (P : mc_P G h H) (ha : h[a]? = some x0) (he : va_at G.1 mc_cl (mc_ad G (a + 1), mc_E G x) H1) (z : H1.size = H.size) (oq : ∀ q : Nat, q ≠ mc_ad G (a + 1) → H1[q]? = H[q]?) : mc_P G (h.set a x) H1 := by
  refine ⟨?_, by rw [z, P.2, List.length_set]⟩
  rw [← mc_W_set]
  exact P.1.set (mc_D G h) (mc_W_get ha) he oq
theorem mc_S.put {G : mc_G} {s : State} {H H1 : Heap} {locs : List Loc} {a k : Nat} (S : mc_S G s H locs) (z : H1.size = H.size) (oq : ∀ q : Nat, q ≠ mc_ad G (a + 1) → H1[q]? = H[q]?) : mc_S G s H1 (locs ++ [⟨mc_ad G (a + 1), k⟩]) :=
  ⟨S.1.put z oq (show G.2.2.2 ≤ G.2.2.2 + a by omega), S.2⟩
theorem mr_iast {a n : Nat} {f : Nat → Int32} {i x : Int32} (hd : decode Mt.2.1 pc = .ok (.iastore, 1)) (ha : h[a]? = some (.inr (.inl (.int, n, f)))) (hi : vp_in i n) (k : mc_V Mt d scr (pc + 1) loc (stk) (h.set a (.inr (.inl (.int, n, upd f i.toNatClampNeg x)))) r h' nc ns) : mc_V Mt d scr pc loc (.int x :: .int i :: .ref (a + 1) :: stk) h r h' nc ns := by
  intro p l e R s m args below meth c H locs cells slots Q ls G C K X P S L hR E
  refine W.iast C.1 C.2.1 (P.1 a _ (mc_W_get ha)) ((K.2 0 _ rfl).1 n (fun j => .int (f j))) (fun q => by cases q) (by show ¬ (i < 0 ∨ (arrV _ _ _).slots.size ≤ _); rw [arrV_size]; exact hi) rfl rfl hd fun H1 e1 z oq => ?_
  refine k p l e R s m args below meth c H1 _ cells slots Q ls G C K X (P.put ha ?_ z oq) (S.put z oq) L hR E
  show H1[mc_ad G (a + 1)]? = some (vp_cell _ _)
  rw [e1]
  rw [vp_cell_i, vp_cell_i, arrV_store]
  congr 2
  funext q
  by_cases hq : q = i.toNatClampNeg
  · subst hq
    simp [updV, upd]
    try rfl
  · simp [updV, upd, hq]
theorem mr_sast {a n : Nat} {f : Nat → Int32} {i x : Int32} (hd : decode Mt.2.1 pc = .ok (.sastore, 1)) (ha : h[a]? = some (.inr (.inl (.short, n, f)))) (hi : vp_in i n) (k : mc_V Mt d scr (pc + 1) loc (stk) (h.set a (.inr (.inl (.short, n, upd f i.toNatClampNeg (vp_nar .short x))))) r h' nc ns) : mc_V Mt d scr pc loc (.int x :: .int i :: .ref (a + 1) :: stk) h r h' nc ns := by
  intro p l e R s m args below meth c H locs cells slots Q ls G C K X P S L hR E
  refine W.sast C.1 C.2.1 (P.1 a _ (mc_W_get ha)) ((K.2 2 _ rfl).1 n (fun j => .int (f j))) (fun q => by cases q) (by show ¬ (i < 0 ∨ (arrV _ _ _).slots.size ≤ _); rw [arrV_size]; exact hi) rfl rfl hd fun H1 e1 z oq => ?_
  refine k p l e R s m args below meth c H1 _ cells slots Q ls G C K X (P.put ha ?_ z oq) (S.put z oq) L hR E
  show H1[mc_ad G (a + 1)]? = some (vp_cell _ _)
  rw [e1]
  rw [vp_cell_i, vp_cell_i, arrV_store]
  congr 2
  funext q
  by_cases hq : q = i.toNatClampNeg
  · subst hq
    simp [updV, upd, vp_nar]
    try rfl
  · simp [updV, upd, hq]
theorem mr_zast {a n : Nat} {f : Nat → Int32} {i x : Int32} (hd : decode Mt.2.1 pc = .ok (.bastore, 1)) (ha : h[a]? = some (.inr (.inl (.boolean, n, f)))) (hi : vp_in i n) (k : mc_V Mt d scr (pc + 1) loc (stk) (h.set a (.inr (.inl (.boolean, n, upd f i.toNatClampNeg (vp_nar .boolean x))))) r h' nc ns) : mc_V Mt d scr pc loc (.int x :: .int i :: .ref (a + 1) :: stk) h r h' nc ns := by
  intro p l e R s m args below meth c H locs cells slots Q ls G C K X P S L hR E
  refine W.zast C.1 C.2.1 (P.1 a _ (mc_W_get ha)) ((K.2 3 _ rfl).1 n (fun j => .int (f j))) (fun q => by cases q) (by show ¬ (i < 0 ∨ (arrV _ _ _).slots.size ≤ _); rw [arrV_size]; exact hi) rfl rfl hd fun H1 e1 z oq => ?_
  refine k p l e R s m args below meth c H1 _ cells slots Q ls G C K X (P.put ha ?_ z oq) (S.put z oq) L hR E
  show H1[mc_ad G (a + 1)]? = some (vp_cell _ _)
  rw [e1]
  rw [vp_cell_i, vp_cell_i, arrV_store]
  congr 2
  funext q
  by_cases hq : q = i.toNatClampNeg
  · subst hq
    simp [updV, upd, vp_nar]
    try rfl
  · simp [updV, upd, hq]
theorem mr_last {a n : Nat} {f : Nat → Int64} {i : Int32} {x : Int64} (hd : decode Mt.2.1 pc = .ok (.lastore, 1)) (ha : h[a]? = some (.inr (.inr (.inl (n, f))))) (hi : vp_in i n) (k : mc_V Mt d scr (pc + 1) loc (stk) (h.set a (.inr (.inr (.inl (n, vp_updL f i.toNatClampNeg x))))) r h' nc ns) : mc_V Mt d scr pc loc (.long x :: .int i :: .ref (a + 1) :: stk) h r h' nc ns := by
  intro p l e R s m args below meth c H locs cells slots Q ls G C K X P S L hR E
  refine W.last C.1 C.2.1 (P.1 a _ (mc_W_get ha)) ((K.2 1 _ rfl).1 n (fun j => .long (f j))) (fun q => by cases q) (by show ¬ (i < 0 ∨ (arrV _ _ _).slots.size ≤ _); rw [arrV_size]; exact hi) rfl rfl hd fun H1 e1 z oq => ?_
  refine k p l e R s m args below meth c H1 _ cells slots Q ls G C K X (P.put ha ?_ z oq) (S.put z oq) L hR E
  show H1[mc_ad G (a + 1)]? = some (vp_cell _ _)
  rw [e1]
  rw [vp_cell_l, vp_cell_l, arrV_store]
  congr 2
  funext q
  by_cases hq : q = i.toNatClampNeg
  · subst hq
    simp [updV, vp_updL]
  · simp [updV, vp_updL, hq]
/-- what a field of a type may hold -/
def mc_fit : FieldType → Value → Bool
  | .int, .int _ => true
  | .long, .long _ => true
  | .boolean, .int x => x == 0 || x == 1
  | .array _, .ref _ => true
  | .object _, .ref _ => true
  | _, _ => false
theorem mc_fit_ok {G : mc_G} {ty : FieldType} {v : Value} (hf : mc_fit ty v = true) : narrow ty (mc_cv G v) = mc_cv G v ∧ fits ty (mc_cv G v) = true := by
  cases ty <;> cases v <;> first | (simp [mc_fit] at hf; done) | exact ⟨rfl, rfl⟩ | skip
  rename_i x
  have hx : x = 0 ∨ x = 1 := by simpa [mc_fit] using hf
  rcases hx with rfl | rfl <;> exact ⟨by rfl, by rfl⟩
theorem mc_setmap {G : mc_G} (fs : List Value) (f : Nat) (v : Value) : (fs.map (mc_cv G)).set f (mc_cv G v) = (fs.set f v).map (mc_cv G) := by
  rw [List.map_set]
theorem mr_putf {a ci : Nat} {C0 : String} {T : u_T} {N idx : Nat} {fs : List Value} {v : Value} (hin : ∀ w ∈ u_ws C0 T N, w ∈ mc_tbl) (ty0 : Nat → FieldType) (hty : ∀ k, k < N → parseFieldDescriptor (T k).2.2.1 = some (ty0 k)) (hnm : ∀ a, a < N → ∀ b, b < N → a ≠ b → (T a).2.1 ≠ (T b).2.1) (hc : mc_cl[ci]? = some (C0, T, N)) (f : Nat) (hf : f < N) (hw : Cond.fieldLink Mt.1.cls idx (T f).1 (T f).2.1 (T f).2.2.1 ∈ mc_tbl) (hfin : (T f).2.2.2 = false) (hd : decode Mt.2.1 pc = .ok (.putfield idx, 3)) (ha : h[a]? = some (.inl (ci, fs))) (hl : f < fs.length) (hft : mc_fit (ty0 f) v = true) (k : mc_V Mt d scr (pc + 3) loc (stk) (h.set a (.inl (ci, fs.set f v))) r h' nc ns) : mc_V Mt d scr pc loc (v :: .ref (a + 1) :: stk) h r h' nc ns := by
  intro p l e R s m args below meth c H locs cells slots Q ls G C K X P S L hR E
  have hts : ∀ w ∈ mc_tbl, w.before args s = true := fun w h => C.2.2.2.2.2.2.1 _ w h
  have hap := va_apart (own := Mt.1.cls) hts hin ty0 hty hnm K hc
  obtain ⟨hn, hfit⟩ := mc_fit_ok (G := G) hft
  obtain ⟨r0, h1, cell, q1, q2, q3, q4⟩ := P.1 a _ (mc_W_get ha)
  have hr : r0 = (C0, T, N) := Option.some.inj (h1.symm.trans hc)
  subst hr
  obtain ⟨hS, hfc, kC, hkC, hkind⟩ := K.1 ci _ hc
  obtain ⟨cf, kf, fi, fd, hi, hsl⟩ := hS f hf
  have hlay := hts _ (hin _ (u_in_lay hf))
  unfold u_lay at hlay
  rw [if_neg (by rw [hfin]; decide)] at hlay
  have hst := (u_facts hfc hkC (u_lays hts hin hf) hi).1
  have h6 := u_store hfc hkC hkind hlay hi (hty f hf) hn hfit
  refine W.putK C.1 C.2.1 (f := fd) ⟨C.2.2.2.2.2.1, hts _ hw, ⟨_, _, _, hi⟩, hst⟩ (by rw [q2]; exact h6) q1 q3 (by rw [hsl]; exact k2_hasslot (q4 f hf)) rfl rfl hd fun H' e1 e2 e3 => ?_
  rw [hsl] at e1 ⊢
  refine k p l e R s m args below meth c H' _ cells slots Q ls G C K X (P.put ha ?_ e2 e3) (S.put e2 e3) L hR E
  refine ⟨_, hc, t_OB.to (V := updV (vp_V (fs.map (mc_cv G))) f (mc_cv G v)) ⟨_, e1, q2, q3, t_set q4 hap hf _⟩ (fun j _ => ?_)⟩
  rw [vp_updV_set (by rw [List.length_map]; exact hl), mc_setmap]
theorem mr_putF {a ci : Nat} {C0 : String} {T : u_T} {N idx : Nat} {fs : List Value} {v : Value} (hin : ∀ w ∈ u_ws C0 T N, w ∈ mc_tbl) (ty0 : Nat → FieldType) (hty : ∀ k, k < N → parseFieldDescriptor (T k).2.2.1 = some (ty0 k)) (hnm : ∀ a, a < N → ∀ b, b < N → a ≠ b → (T a).2.1 ≠ (T b).2.1) (hc : mc_cl[ci]? = some (C0, T, N)) (f : Nat) (hf : f < N) (hw : Cond.fieldLink Mt.1.cls idx (T f).1 (T f).2.1 (T f).2.2.1 ∈ mc_tbl) (hfin : (T f).2.2.2 = true) (hin2 : Mt.1.name = "<init>") (hdecl : (T f).1 = Mt.1.cls) (hd : decode Mt.2.1 pc = .ok (.putfield idx, 3)) (ha : h[a]? = some (.inl (ci, fs))) (hl : f < fs.length) (hft : mc_fit (ty0 f) v = true) (k : mc_V Mt d scr (pc + 3) loc (stk) (h.set a (.inl (ci, fs.set f v))) r h' nc ns) : mc_V Mt d scr pc loc (v :: .ref (a + 1) :: stk) h r h' nc ns := by
  intro p l e R s m args below meth c H locs cells slots Q ls G C K X P S L hR E
  have hts : ∀ w ∈ mc_tbl, w.before args s = true := fun w h => C.2.2.2.2.2.2.1 _ w h
  have hap := va_apart (own := Mt.1.cls) hts hin ty0 hty hnm K hc
  obtain ⟨hn, hfit⟩ := mc_fit_ok (G := G) hft
  obtain ⟨r0, h1, cell, q1, q2, q3, q4⟩ := P.1 a _ (mc_W_get ha)
  have hr : r0 = (C0, T, N) := Option.some.inj (h1.symm.trans hc)
  subst hr
  obtain ⟨hS, hfc, kC, hkC, hkind⟩ := K.1 ci _ hc
  obtain ⟨cf, kf, fi, fd, hi, hsl⟩ := hS f hf
  have hlay := hts _ (hin _ (u_in_lay hf))
  unfold u_lay at hlay
  rw [if_pos hfin] at hlay
  have hst := (u_facts hfc hkC (u_lays hts hin hf) hi).1
  have hcf : m.cls = cf := by
    obtain ⟨_, _, c', _, _, _, -, -, hf', -, -, -, hown2, -⟩ := Cond.laysFinal_spec hlay
    have e1 : c' = cf := by have := hi.symm.trans hf'; simp at this; exact this.1.symm
    rw [hdecl] at hown2
    rw [← e1]; exact Option.some.inj (C.2.2.2.2.2.1.symm.trans hown2)
  have h6 := u_fits hfc hkC hkind (Or.inr hlay) hi (hty f hf) hn hfit
  refine W.putFinK C.1 C.2.1 C.2.2.2.2.2.1 (hts _ hw) hi hst hcf (C.2.2.2.2.2.2.2 hin2) (by rw [q2]; exact h6) q1 q3 (by rw [hsl]; exact k2_hasslot (q4 f hf)) rfl rfl hd fun H' e1 e2 e3 => ?_
  rw [hsl] at e1 ⊢
  refine k p l e R s m args below meth c H' _ cells slots Q ls G C K X (P.put ha ?_ e2 e3) (S.put e2 e3) L hR E
  refine ⟨_, hc, t_OB.to (V := updV (vp_V (fs.map (mc_cv G))) f (mc_cv G v)) ⟨_, e1, q2, q3, t_set q4 hap hf _⟩ (fun j _ => ?_)⟩
  rw [vp_updV_set (by rw [List.length_map]; exact hl), mc_setmap]
end MW
end
section
/-! ===== THE WORDS, FROM A STATE TO A WARMER ONE ===== -/
theorem mc_Wd.warm {s U : State} (h : mc_Wd s) (hW : s.WarmedH U.vm) : mc_Wd U := by
  intro a w hw
  have h1 := (List.mem_filter.mp hw).2
  have h2 := h a w hw
  rcases (Bool.or_eq_true _ _).mp h1 with g | g
  · exact word_at hW (good_of_word g) h2
  · cases w <;> first | (simp [mc_nest] at g; done) | skip
    · exact va_Nw.use rfl (va_Nw.warmM hW (va_Nw.of rfl h2))
    · exact va_Nw.use rfl (va_Nw.warmF hW (va_Nw.of rfl h2))
    · rename_i t
      cases t <;> first | (simp [mc_nest] at g; done) | exact over_moved hW.alike h2
/-! ===== A METHOD's START ===== -/
def mc_flat (vs : List Value) : List Value := vs.flatMap fun v => if v.category = 2 then [v, .retAddr 0] else [v]
def mc_entry (vs : List Value) (n : Nat) : List Value := mc_flat vs ++ List.replicate (n - (mc_flat vs).length) (.retAddr 0)
theorem mc_flat_len (G : mc_G) (vs : List Value) : (lg_sl (vs.map (mc_cv G))).length = (mc_flat vs).length := by
  induction vs with
  | nil => rfl
  | cons v vs ih =>
    unfold lg_sl mc_flat at *
    rw [List.map_cons, List.flatMap_cons, List.flatMap_cons, List.length_append, List.length_append, ih, mc_cat]
    split <;> rfl
theorem mc_flat_at (G : mc_G) : ∀ (vs : List Value) (k i : Nat) (v : Value), (mc_flat vs)[i]? = some v → v ≠ .retAddr 0 → (k + i, mc_cv G v) ∈ lv_args k (vs.map (mc_cv G)) := by
  intro vs
  induction vs with
  | nil => intro k i v h; simp [mc_flat] at h
  | cons x vs ih =>
    intro k i v h hn
    have e : mc_flat (x :: vs) = (if x.category = 2 then [x, .retAddr 0] else [x]) ++ mc_flat vs := by unfold mc_flat; rw [List.flatMap_cons]
    rw [e] at h
    rw [List.map_cons]
    unfold lv_args
    rw [mc_cat]
    by_cases hx : x.category = 2
    · rw [if_pos hx] at h ⊢
      match i with
      | 0 => cases h; exact List.mem_cons_self
      | 1 => cases h; exact absurd rfl hn
      | i + 2 =>
        have h' : (mc_flat vs)[i]? = some v := by simpa using h
        have := ih (k + 2) i v h' hn
        rw [show k + (i + 2) = k + 2 + i by omega]
        exact List.mem_cons_of_mem _ this
    · rw [if_neg hx] at h ⊢
      match i with
      | 0 => cases h; exact List.mem_cons_self
      | i + 1 =>
        have h' : (mc_flat vs)[i]? = some v := by simpa using h
        have := ih (k + 1) i v h' hn
        rw [show k + (i + 1) = k + 1 + i by omega]
        exact List.mem_cons_of_mem _ this
theorem mc_LO.entry {G : mc_G} {vs : List Value} {n : Nat} (h : (mc_flat vs).length ≤ n) : mc_LO G ((lg_sl (vs.map (mc_cv G)) ++ List.replicate (n - (lg_sl (vs.map (mc_cv G))).length) Slot.unset).toArray) n (mc_entry vs n) := by
  have h1 := lv_entry (vs.map (mc_cv G)) (n := n) (by rw [mc_flat_len]; exact h)
  refine ⟨mc_has_mono h1 fun q hq => ?_, by unfold mc_entry; simp; omega⟩
  obtain ⟨v, g1, g2, g3⟩ := mc_lv_mem.mp hq
  unfold mc_entry at g1
  by_cases hl : q.1 < (mc_flat vs).length
  · rw [List.getElem?_append_left hl] at g1
    have := mc_flat_at G vs 0 q.1 v g1 g2
    rw [Nat.zero_add, ← g3] at this
    exact this
  · rw [List.getElem?_append_right (by omega), List.getElem?_replicate] at g1
    split at g1
    · cases g1; exact absurd rfl g2
    · cases g1
/-! ===== A CONTRACT ===== -/
def mc_Pc (G : mc_G) (vs : List Value) (h : mc_H) : Array Value → State → Prop := fun v U => v = (vs.map (mc_cv G)).toArray ∧ mc_Wd U ∧ mc_K G U ∧ mc_P G h U.heap
def mc_Qc (G : mc_G) (r : Option Value) (h' : mc_H) : Array Value → State → Outcome → State → Prop := fun _ st o t => o = .returned (r.map (mc_cv G)) ∧ mc_P G h' t.heap ∧ va_F (mc_A G) st t
abbrev mc_rm (d nc ns : Nat) : Room := { frames := d, cells := nc, slots := ns, locals := 35 * d }
abbrev mc_ws (Mk : mc_M) : List Cond := [Cond.code Mk.1 Mk.2.1 Mk.2.2.1 Mk.2.2.2]
theorem mc_blind (G : mc_G) (vs : List Value) (h : mc_H) : FrameBlind (mc_Pc G vs h) := by
  intro a U g mk q
  obtain ⟨q1, q2, q3, q4⟩ := q
  exact ⟨q1, q2.warm (U := U.calling g mk a) (State.WarmedH.refl U), va_K.moved (u := U) (U := U.calling g mk a) (Vm.Alike.refl U.vm) q3, q4⟩
theorem mc_Met {Mk : mc_M} {d : Nat} {vs : List Value} {h : mc_H} {r : Option Value} {h' : mc_H} {nc ns : Nat} (k : mc_V Mk d none 0 (mc_entry vs Mk.2.2.1) [] h r h' nc ns) (hpl : plainName Mk.1.cls = true) (hvs : (mc_flat vs).length ≤ Mk.2.2.1) (l : Launch) (G : mc_G) :
    Met l Mk.1 (mc_ws Mk) (mc_rm d nc ns) (mc_Pc G vs h) (mc_Qc G r h') nc ns (mc_A G) := by
  refine Met.ofW (cc := Mk.2.1) (maxL := Mk.2.2.1) (ret := Mk.2.2.2) hpl rfl ?_
  intro p e s m args below meth c s₁ B hml hv
  obtain ⟨rfl, hWd, hK, hP⟩ := hv
  rw [lg_entry_eq]
  have hS : mc_S G s s.heap [] := ⟨va_S.rf, by rw [hP.2]; omega⟩
  have hlocks := B.notSynchronized
  refine k p l e (mc_rm d nc ns) s m _ below meth c s.heap [] 0 0 _ _ G ⟨B.exec, B.bytes, hml, B.returns, hlocks, findClass_of_methodNamed B.named, hWd, fun hn => (name_of_methodNamed B.named B.method).1.trans hn⟩ hK trivial hP hS (mc_LO.entry hvs) ⟨Nat.le_refl _, Nat.le_refl _, by show 0 + nc ≤ nc; omega, by show 0 + ns ≤ ns; omega⟩ ?_
  intro H' locs' pc' ls' P' S' hr
  rw [Nat.zero_add, Nat.zero_add]
  match r, hr with
  | none, hr => exact W.vret B.exec B.bytes (B.returns.trans hr.1) (fun t ht hW => ⟨rfl, by rw [ht]; exact P', S'.1.F ht⟩) S'.1.2.2 hr.2
  | some (.int v), hr =>
    obtain ⟨ty, h1, h2, h3⟩ := hr
    exact W.zret (v := v) B.exec B.bytes (B.returns.trans h1) h2 (fun t ht hW => ⟨rfl, by rw [ht]; exact P', S'.1.F ht⟩) S'.1.2.2 h3
  | some (.long v), hr => exact W.lret (v := v) B.exec B.bytes (B.returns.trans hr.1) (fun t ht hW => ⟨rfl, by rw [ht]; exact P', S'.1.F ht⟩) S'.1.2.2 hr.2
  | some (.float _), hr => exact absurd hr id
  | some (.double _), hr => exact absurd hr id
  | some .null, hr => exact absurd hr id
  | some (.ref _), hr => exact absurd hr id
  | some (.retAddr _), hr => exact absurd hr id
/-! ===== THE ROWS THAT CALL ===== -/
section MC
variable {Mt : mc_M} {d : Nat} {scr : Option (Nat × (Nat → Int32))} {pc : Nat} {loc stk : List Value} {h : mc_H} {r : Option Value} {h' : mc_H} {nc ns : Nat}
/-- behind a call -/
theorem mc_back {Mk : mc_M} {vs : List Value} {rc : Option Value} {hc : mc_H} {nc1 ns1 nc2 ns2 : Nat} (k : mc_V Mt (d + 1) scr (pc + 3) loc (rc.toList ++ stk) hc r h' nc2 ns2)
    {p : Program} {l : Launch} {e : Env} {R : Room} {s : State} {m : MethodId} {args : Array Value} {below : List Frame} {meth : Method} {c : Code} {H : Heap} {locs : List Loc} {cells slots : Nat} {Q : State → Prop} {ls : Array Slot} {G : mc_G} {st0 : List Value}
    (C : mc_C Mt p s m meth c) (K : mc_K G s) (X : mc_X G s scr) (S : mc_S G s H locs) (L : mc_LO G ls Mt.2.2.1 loc) (hR : d + 1 ≤ R.frames ∧ 35 * (d + 1) ≤ R.locals ∧ cells + (nc1 + nc2) ≤ R.cells ∧ slots + (ns1 + ns2) ≤ R.slots)
    (E : ∀ (H' : Heap) (locs' : List Loc) (pc' : Nat) (ls' : Array Slot), mc_P G h' H' → mc_S G s H' locs' → mc_ret Mt pc' r → W p l e R s m args below meth c H' locs' (cells + (nc1 + nc2)) (slots + (ns1 + ns2)) Q (F0 m pc' ls' (r.toList.map (mc_cv G))))
    (a : Array Value) (hrun : va_Run p l e R s m args below meth c H locs cells slots nc1 ns1 (F0 m pc ls st0) (stk.map (mc_cv G)) (mc_Qc G rc hc a) (mc_A G)) : W p l e R s m args below meth c H locs cells slots Q (F0 m pc ls st0) := by
  intro T hT Xs
  obtain ⟨v, st₀, t, T', L1, h0, X', hL, e1, e2, hq, st⟩ := hrun T hT Xs
  obtain ⟨hv, hP1, hF⟩ := hq
  cases hv
  have hS' : mc_S G s T'.heap (locs ++ L1) := by
    refine ⟨⟨?_, fun q g1 g2 => ?_, fun q hq => ?_⟩, S.2⟩
    · rw [e1]; have := S.1.1; have := hF.1; rw [h0] at this; omega
    · rw [e1, hF.2 q (by rw [h0]; exact Nat.lt_of_lt_of_le g1 S.1.1) g2, h0]; exact S.1.2.1 q g1 g2
    · rcases List.mem_append.mp hq with g | g
      · exact S.1.2.2 q g
      · exact hL q g
  obtain ⟨t2, a1, b1⟩ := k p l e R s m args below meth c T'.heap (locs ++ L1) (cells + nc1) (slots + ns1) Q ls G C K X (by rw [e1]; exact hP1) hS' L ⟨hR.1, hR.2.1, by have := hR.2.2.1; omega, by have := hR.2.2.2; omega⟩ (fun H' locs' pc' ls' P' S' hr => by rw [Nat.add_assoc, Nat.add_assoc]; exact E H' locs' pc' ls' P' S' hr) T' rfl X'
  refine ⟨t2, st t2 ?_, b1⟩
  have e9 : (rc.toList ++ stk).map (mc_cv G) = (rc.map (mc_cv G)).toList ++ stk.map (mc_cv G) := by
    rw [List.map_append]
    cases rc <;> rfl
  rw [e9] at a1
  exact a1
theorem mc_np {y : MethodName} {n : Nat} (h : (parseMethodDescriptor y.desc).map (fun d => d.parameters.length) = some n) : ∀ sig, parseMethodDescriptor y.desc = some sig → n = sig.parameters.length := by
  intro sig hs
  rw [hs] at h
  exact (Option.some.inj h).symm
/-- the facts of a callee that its caller needs: y.cls, number of parameters -/
def mc_ok (Mk : mc_M) (n : Nat) : Prop := plainName Mk.1.cls = true ∧ (Mk.1.cls ≠ "java/lang/invoke/MethodHandle" ∧ Mk.1.cls ≠ "java/lang/invoke/VarHandle") ∧ (parseMethodDescriptor Mk.1.desc).map (fun d => d.parameters.length) = some n ∧ Mk.2.2.1 ≤ 16 ∧ Cond.code Mk.1 Mk.2.1 Mk.2.2.1 Mk.2.2.2 ∈ mc_tbl ∧ Cond.initialized Mk.1.cls ∈ mc_tbl
theorem mc_callB {Mk : mc_M} {n idx d nc1 ns1 : Nat} {R : Room} {s : State} {args : Array Value} {own : String} (hk : mc_ok Mk n) (hW : mc_Wd s) (hw : Cond.methodLink own idx Mk.1 ∈ mc_tbl) (h1 : d + 1 ≤ R.frames) (h2 : 35 * (d + 1) ≤ R.locals) : CallB R s args own idx Mk.1 Mk.2.1 Mk.2.2.1 Mk.2.2.2 (mc_ws Mk) (mc_rm d nc1 ns1) nc1 ns1 n := by
  obtain ⟨-, k2, k3, k4, k5, k6⟩ := hk
  refine ⟨rfl, rfl, h1, by show 8 + (Mk.2.2.1 + 11) + 35 * d ≤ _; omega, fun w hw a' U hU => ?_, List.mem_cons_self, hW _ _ k5, hW _ _ k6, k2, mc_np k3, hW _ _ hw⟩
  have : w = Cond.code Mk.1 Mk.2.1 Mk.2.2.1 Mk.2.2.2 := by simpa using hw
  subst this
  exact hW.warm hU _ _ k5
theorem mc_callN {Mk : mc_M} {n idx d nc1 ns1 : Nat} {R : Room} {s : State} {args : Array Value} {own host : String} (hk : mc_ok Mk n) (hW : mc_Wd s) (hw : Cond.methodLinkNest own idx Mk.1 host ∈ mc_tbl) (h1 : d + 1 ≤ R.frames) (h2 : 35 * (d + 1) ≤ R.locals) : va_CN R s args own idx Mk.1 host Mk.2.1 Mk.2.2.1 Mk.2.2.2 (mc_ws Mk) (mc_rm d nc1 ns1) nc1 ns1 n := by
  obtain ⟨-, k2, k3, k4, k5, k6⟩ := hk
  refine ⟨⟨rfl, rfl, h1, by show 8 + (Mk.2.2.1 + 11) + 35 * d ≤ _; omega, fun w hw a' U hU => ?_, List.mem_cons_self⟩, hW _ _ k5, hW _ _ k6, k2, mc_np k3, hW _ _ hw⟩
  have : w = Cond.code Mk.1 Mk.2.1 Mk.2.2.1 Mk.2.2.2 := by simpa using hw
  subst this
  exact hW.warm hU _ _ k5
theorem mc_roomW {G : mc_G} {st : List Value} (h : (st.map fun v => v.category).sum ≤ 8) : ((st.map (mc_cv G)).map fun v => v.category).sum ≤ 8 := by
  rw [List.map_map]
  have : ((fun v => v.category) ∘ mc_cv G) = fun v => v.category := funext fun v => mc_cat G v
  rw [this]
  exact h
theorem mc_preS {G : mc_G} {vs : List Value} {s : State} {H : Heap} (C : mc_Wd s) (K : mc_K G s) (P : mc_P G h H) : PreS s H (mc_Pc G vs h) (vs.map (mc_cv G)) :=
  ⟨mc_blind G vs h, fun U hU hW => ⟨rfl, C.warm hW, va_K.moved hW.alike K, by rw [hU]; exact P⟩⟩
theorem mr_callS {Mk : mc_M} {idx n : Nat} {stk0 : List Value} {rc : Option Value} {hc : mc_H} {nc1 ns1 nc2 ns2 : Nat} (vs : List Value) (hok : mc_ok Mk n) (hw : Cond.methodLink Mt.1.cls idx Mk.1 ∈ mc_tbl) (hst : Cond.static Mk.1 ∈ mc_tbl) (hd : decode Mt.2.1 pc = .ok (.invokestatic idx, 3)) (hs : stk0 = vs.reverse ++ stk) (hn : vs.length = n) (hvs : (mc_flat vs).length ≤ Mk.2.2.1) (hm : (stk.map fun v => v.category).sum ≤ 8)
    (kc : mc_V Mk d none 0 (mc_entry vs Mk.2.2.1) [] h rc hc nc1 ns1) (k : mc_V Mt (d + 1) scr (pc + 3) loc (rc.toList ++ stk) hc r h' nc2 ns2) : mc_V Mt (d + 1) scr pc loc stk0 h r h' (nc1 + nc2) (ns1 + ns2) := by
  intro p l e R s m args below meth c H locs cells slots Q ls G C K X P S L hR E
  have hM := mc_Met kc hok.1 hvs l G
  refine mc_back (Mk := Mk) (vs := vs) k C K X S L hR E _ (va_runS (Ts := mc_tbl) ⟨C.1, C.2.1, C.2.2.1, C.2.2.2.2.2.1, fun w h => C.2.2.2.2.2.2.1 _ w h⟩ hM ⟨mc_callB hok C.2.2.2.2.2.2.1 hw hR.1 hR.2.1, C.2.2.2.2.2.2.1 _ _ hst⟩ (mc_preS C.2.2.2.2.2.2.1 K P) rfl (by rw [List.length_map]; exact hn) L.1.1 (by rw [hs, List.map_append, List.map_reverse]) (lv_room (mc_roomW hm)) hd ⟨by have := hR.2.2.1; omega, by have := hR.2.2.2; omega⟩)
theorem mr_callSN {Mk : mc_M} {idx n : Nat} {stk0 : List Value} {rc : Option Value} {hc : mc_H} {nc1 ns1 nc2 ns2 : Nat} {host : String} (vs : List Value) (hok : mc_ok Mk n) (hw : Cond.methodLinkNest Mt.1.cls idx Mk.1 host ∈ mc_tbl) (hst : Cond.static Mk.1 ∈ mc_tbl) (hd : decode Mt.2.1 pc = .ok (.invokestatic idx, 3)) (hs : stk0 = vs.reverse ++ stk) (hn : vs.length = n) (hvs : (mc_flat vs).length ≤ Mk.2.2.1) (hm : (stk.map fun v => v.category).sum ≤ 8)
    (kc : mc_V Mk d none 0 (mc_entry vs Mk.2.2.1) [] h rc hc nc1 ns1) (k : mc_V Mt (d + 1) scr (pc + 3) loc (rc.toList ++ stk) hc r h' nc2 ns2) : mc_V Mt (d + 1) scr pc loc stk0 h r h' (nc1 + nc2) (ns1 + ns2) := by
  intro p l e R s m args below meth c H locs cells slots Q ls G C K X P S L hR E
  have hM := mc_Met kc hok.1 hvs l G
  refine mc_back (Mk := Mk) (vs := vs) k C K X S L hR E _ (va_runSN (Ts := mc_tbl) ⟨C.1, C.2.1, C.2.2.1, C.2.2.2.2.2.1, fun w h => C.2.2.2.2.2.2.1 _ w h⟩ hM ⟨mc_callN hok C.2.2.2.2.2.2.1 hw hR.1 hR.2.1, C.2.2.2.2.2.2.1 _ _ hst, trivial⟩ (mc_preS C.2.2.2.2.2.2.1 K P) rfl (by rw [List.length_map]; exact hn) L.1.1 (by rw [hs, List.map_append, List.map_reverse]) (lv_room (mc_roomW hm)) hd ⟨by have := hR.2.2.1; omega, by have := hR.2.2.2; omega⟩)
theorem mr_callV {Mk : mc_M} {a ci idx n : Nat} {C0 : String} {T : u_T} {N : Nat} {fs : List Value} {stk0 : List Value} {rc : Option Value} {hc : mc_H} {nc1 ns1 nc2 ns2 : Nat} (vs : List Value) (hok : mc_ok Mk n) (hw : Cond.methodLink Mt.1.cls idx Mk.1 ∈ mc_tbl) (hst : Cond.instanceMethod Mk.1 ∈ mc_tbl) (hse : Cond.selects C0 Mk.1 Mk.1 ∈ mc_tbl) (hd : decode Mt.2.1 pc = .ok (.invokevirtual idx, 3)) (hcl : mc_cl[ci]? = some (C0, T, N)) (ha : h[a]? = some (.inl (ci, fs))) (hs : stk0 = vs.reverse ++ .ref (a + 1) :: stk) (hn : vs.length = n) (hvs : (mc_flat (.ref (a + 1) :: vs)).length ≤ Mk.2.2.1) (hm : (stk.map fun v => v.category).sum ≤ 8)
    (kc : mc_V Mk d none 0 (mc_entry (.ref (a + 1) :: vs) Mk.2.2.1) [] h rc hc nc1 ns1) (k : mc_V Mt (d + 1) scr (pc + 3) loc (rc.toList ++ stk) hc r h' nc2 ns2) : mc_V Mt (d + 1) scr pc loc stk0 h r h' (nc1 + nc2) (ns1 + ns2) := by
  intro p l e R s m args below meth c H locs cells slots Q ls G C K X P S L hR E
  have hM := mc_Met kc hok.1 hvs l G
  refine mc_back (Mk := Mk) (vs := .ref (a + 1) :: vs) k C K X S L hR E _ (va_runV (Ts := mc_tbl) (b := mc_ad G (a + 1)) (As := vs.map (mc_cv G)) ⟨C.1, C.2.1, C.2.2.1, C.2.2.2.2.2.1, fun w h => C.2.2.2.2.2.2.1 _ w h⟩ hM ⟨mc_callB hok C.2.2.2.2.2.2.1 hw hR.1 hR.2.1, C.2.2.2.2.2.2.1 _ _ hst, C.2.2.2.2.2.2.1 _ _ hse⟩ ⟨mc_blind G _ h, va_recv K P.1 hcl (mc_W_get ha), (mc_preS (vs := .ref (a + 1) :: vs) C.2.2.2.2.2.2.1 K P).2⟩ rfl (by rw [List.length_map]; exact hn) L.1.1 (by rw [hs, List.map_append, List.map_reverse]; rfl) (lv_room (mc_roomW hm)) hd ⟨by have := hR.2.2.1; omega, by have := hR.2.2.2; omega⟩)
theorem mr_callI {Mk : mc_M} {a idx n : Nat} {stk0 : List Value} {rc : Option Value} {hc : mc_H} {nc1 ns1 nc2 ns2 : Nat} (vs : List Value) (hok : mc_ok Mk n) (hnm : Mk.1.name = "<init>") (hvd : Mk.2.2.2 = none) (hw : Cond.methodLink Mt.1.cls idx Mk.1 ∈ mc_tbl) (hst : Cond.instanceMethod Mk.1 ∈ mc_tbl) (hd : decode Mt.2.1 pc = .ok (.invokespecial idx, 3)) (hs : stk0 = vs.reverse ++ .ref (a + 1) :: stk) (hn : vs.length = n) (hvs : (mc_flat (.ref (a + 1) :: vs)).length ≤ Mk.2.2.1) (hm : (stk.map fun v => v.category).sum ≤ 8)
    (kc : mc_V Mk d none 0 (mc_entry (.ref (a + 1) :: vs) Mk.2.2.1) [] h rc hc nc1 ns1) (k : mc_V Mt (d + 1) scr (pc + 3) loc (rc.toList ++ stk) hc r h' nc2 ns2) : mc_V Mt (d + 1) scr pc loc stk0 h r h' (nc1 + nc2) (ns1 + ns2) := by
  intro p l e R s m args below meth c H locs cells slots Q ls G C K X P S L hR E
  have hM := mc_Met kc hok.1 hvs l G
  refine mc_back (Mk := Mk) (vs := .ref (a + 1) :: vs) k C K X S L hR E _ (va_runI (Ts := mc_tbl) (b := mc_ad G (a + 1)) (As := vs.map (mc_cv G)) ⟨C.1, C.2.1, C.2.2.1, C.2.2.2.2.2.1, fun w h => C.2.2.2.2.2.2.1 _ w h⟩ hM ⟨hvd ▸ mc_callB hok C.2.2.2.2.2.2.1 hw hR.1 hR.2.1, hnm, C.2.2.2.2.2.2.1 _ _ hst⟩ (mc_preS (vs := .ref (a + 1) :: vs) C.2.2.2.2.2.2.1 K P) rfl (by rw [List.length_map]; exact hn) L.1.1 (by rw [hs, List.map_append, List.map_reverse]; rfl) (lv_room (mc_roomW hm)) hd ⟨by have := hR.2.2.1; omega, by have := hR.2.2.2; omega⟩)
theorem mr_callIN {Mk : mc_M} {a idx n : Nat} {stk0 : List Value} {rc : Option Value} {hc : mc_H} {nc1 ns1 nc2 ns2 : Nat} {host : String} (vs : List Value) (hok : mc_ok Mk n) (hnm : Mk.1.name = "<init>") (hvd : Mk.2.2.2 = none) (hw : Cond.methodLinkNest Mt.1.cls idx Mk.1 host ∈ mc_tbl) (hst : Cond.instanceMethod Mk.1 ∈ mc_tbl) (hd : decode Mt.2.1 pc = .ok (.invokespecial idx, 3)) (hs : stk0 = vs.reverse ++ .ref (a + 1) :: stk) (hn : vs.length = n) (hvs : (mc_flat (.ref (a + 1) :: vs)).length ≤ Mk.2.2.1) (hm : (stk.map fun v => v.category).sum ≤ 8)
    (kc : mc_V Mk d none 0 (mc_entry (.ref (a + 1) :: vs) Mk.2.2.1) [] h rc hc nc1 ns1) (k : mc_V Mt (d + 1) scr (pc + 3) loc (rc.toList ++ stk) hc r h' nc2 ns2) : mc_V Mt (d + 1) scr pc loc stk0 h r h' (nc1 + nc2) (ns1 + ns2) := by
  intro p l e R s m args below meth c H locs cells slots Q ls G C K X P S L hR E
  have hM := mc_Met kc hok.1 hvs l G
  refine mc_back (Mk := Mk) (vs := .ref (a + 1) :: vs) k C K X S L hR E _ (va_runIN (Ts := mc_tbl) (b := mc_ad G (a + 1)) (As := vs.map (mc_cv G)) ⟨C.1, C.2.1, C.2.2.1, C.2.2.2.2.2.1, fun w h => C.2.2.2.2.2.2.1 _ w h⟩ hM ⟨hvd ▸ mc_callN hok C.2.2.2.2.2.2.1 hw hR.1 hR.2.1, hnm, C.2.2.2.2.2.2.1 _ _ hst⟩ (mc_preS (vs := .ref (a + 1) :: vs) C.2.2.2.2.2.2.1 K P) rfl (by rw [List.length_map]; exact hn) L.1.1 (by rw [hs, List.map_append, List.map_reverse]; rfl) (lv_room (mc_roomW hm)) hd ⟨by have := hR.2.2.1; omega, by have := hR.2.2.2; omega⟩)
/-! returns -/
theorem mr_ret (hr : Mt.2.2.2 = none) (hd : decode Mt.2.1 pc = .ok (.return_, 1)) : mc_V Mt d scr pc loc [] h none h 0 0 := by
  intro p l e R s m args below meth c H locs cells slots Q ls G C K X P S L hR E
  exact E H locs pc ls P S ⟨hr, hd⟩
theorem mr_iret {ty : FieldType} {v : Int32} (hr : Mt.2.2.2 = some ty) (hn : narrow ty (.int v) = .int v) (hd : decode Mt.2.1 pc = .ok (.ireturn, 1)) : mc_V Mt d scr pc loc [.int v] h (some (.int v)) h 0 0 := by
  intro p l e R s m args below meth c H locs cells slots Q ls G C K X P S L hR E
  exact E H locs pc ls P S ⟨ty, hr, hn, hd⟩
theorem mr_lret {v : Int64} (hr : Mt.2.2.2 = some .long) (hd : decode Mt.2.1 pc = .ok (.lreturn, 1)) : mc_V Mt d scr pc loc [.long v] h (some (.long v)) h 0 0 := by
  intro p l e R s m args below meth c H locs cells slots Q ls G C K X P S L hR E
  exact E H locs pc ls P S ⟨hr, hd⟩
/-! Object's own start -/
theorem mr_objInit {a idx : Nat} (hw : Cond.methodLink Mt.1.cls idx Lib.objectInit ∈ mc_tbl) (hi : Cond.instanceMethod Lib.objectInit ∈ mc_tbl) (hcd : Cond.code Lib.objectInit ⟨#[0xb1]⟩ 1 none ∈ mc_tbl) (hd : decode Mt.2.1 pc = .ok (.invokespecial idx, 3)) (hm : (stk.map fun v => v.category).sum ≤ 8)
    (k : mc_V Mt (d + 1) scr (pc + 3) loc stk h r h' nc ns) : mc_V Mt (d + 1) scr pc loc (.ref a :: stk) h r h' nc ns := by
  intro p l e R s m args below meth c H locs cells slots Q ls G C K X P S L hR E
  have hrm := mc_roomW (G := G) hm
  refine W.objInit C.1 C.2.1 C.2.2.2.2.2.1 (C.2.2.2.2.2.2.1 _ _ hw) (C.2.2.2.2.2.2.1 _ _ hi) (C.2.2.2.2.2.2.1 _ _ hcd) rfl (L.1.1.trans C.2.2.1.symm) rfl hd (by have := hR.1; omega) (by show 2 * 0 + _ + 12 ≤ _; have := hR.2.1; omega) ?_
  exact k p l e R s m args below meth c H locs cells slots Q ls G C K X P S L hR E
end MC
end
section
/-! ===== THE ROWS THAT MAKE CELLS, AND arraycopy ===== -/
section MK
variable {Mt : mc_M} {d : Nat} {scr : Option (Nat × (Nat → Int32))} {pc : Nat} {loc stk : List Value} {h : mc_H} {r : Option Value} {h' : mc_H} {nc ns : Nat}
theorem mc_W_app {G : mc_G} (h : mc_H) (x : mc_Cell) : mc_W G (h ++ [x]) = mc_W G h ++ [(mc_ad G (h.length + 1), mc_E G x)] := by
  unfold mc_W
  rw [List.mapIdx_append]
  simp
theorem mc_P.push {G : mc_G} {h : mc_H} {H H1 : Heap} {x : mc_Cell} (P : mc_P G h H) (z : H1.size = H.size + 1) (oq : ∀ q, q < H.size → H1[q]? = H[q]?) (he : va_at G.1 mc_cl (mc_ad G (h.length + 1), mc_E G x) H1) : mc_P G (h ++ [x]) H1 := by
  refine ⟨?_, by rw [z, P.2, List.length_append]; rfl⟩
  rw [mc_W_app]
  refine va_P.app (P.1.kept fun k q hq => oq q.1 ((P.1 k q hq).lt)) (fun k q hq => ?_)
  have hz : k < 1 := (List.getElem?_eq_some_iff.mp hq).1
  rw [show k = 0 by omega] at hq
  cases hq
  exact he
theorem mc_S.push {G : mc_G} {s : State} {H H1 : Heap} {locs : List Loc} (S : mc_S G s H locs) (z : H.size ≤ H1.size) (oq : ∀ q, q < H.size → H1[q]? = H[q]?) : mc_S G s H1 locs :=
  ⟨⟨Nat.le_trans S.1.1 z, fun q g1 g2 => (oq q (Nat.lt_of_lt_of_le g1 S.1.1)).trans (S.1.2.1 q g1 g2), S.1.2.2⟩, S.2⟩
theorem mr_new {ci : Nat} {C0 : String} {T : u_T} {N idx : Nat} (fs : List Value) (hin : ∀ w ∈ u_ws C0 T N, w ∈ mc_tbl) (ty : Nat → FieldType) (hty : ∀ k, k < N → parseFieldDescriptor (T k).2.2.1 = some (ty k)) (hc : mc_cl[ci]? = some (C0, T, N)) (hw : Cond.classLink Mt.1.cls idx C0 ∈ mc_tbl) (hi : Cond.instantiable C0 N ∈ mc_tbl) (hini : Cond.initialized C0 ∈ mc_tbl) (hfs : ∀ (G : mc_G) (j : Nat), j < N → defaultValue (ty j) = vp_V (fs.map (mc_cv G)) j) (hd : decode Mt.2.1 pc = .ok (.new idx, 3)) (b : Nat) (hb : b = h.length + 1)
    (k : mc_V Mt d scr (pc + 3) loc (.ref b :: stk) (h ++ [.inl (ci, fs)]) r h' nc ns) : mc_V Mt d scr pc loc stk h r h' (1 + nc) (N + ns) := by
  intro p l e R s m args below meth c H locs cells slots Q ls G C K X P S L hR E
  subst hb
  have hts : ∀ w ∈ mc_tbl, w.before args s = true := fun w h => C.2.2.2.2.2.2.1 _ w h
  have hKn := K.1 ci _ hc
  refine W.newcK C.1 C.2.1 C.2.2.2.2.2.1 (hts _ hw) (hts _ hi) (hts _ hini) rfl hd (by have := hR.2.2.1; omega) (by have := hR.2.2.2; omega) hKn.2.1 rfl fun H1 kC hkC e1 z1 o1 => ?_
  have ea : mc_ad G (h.length + 1) = H.size := P.2.symm
  have := k p l e R s m args below meth c H1 locs (cells + 1) (slots + N) Q ls G C K X (P.push z1 o1 ⟨_, hc, by rw [ea]; exact (u_born ty hts hin hKn hkC e1 hty).to (hfs G)⟩) (S.push (by omega) o1) L ⟨hR.1, hR.2.1, by have := hR.2.2.1; omega, by have := hR.2.2.2; omega⟩ (fun H' locs' pc' ls' P' S' hr => by rw [Nat.add_assoc, Nat.add_assoc]; exact E H' locs' pc' ls' P' S' hr)
  rw [List.map_cons, show mc_cv G (.ref (h.length + 1)) = .ref H.size from congrArg Value.ref ea] at this
  exact this
theorem mc_arr {G : mc_G} {s : State} (K : mc_K G s) (j : Nat) {ty : FieldType} (hj : (mc_tys G)[j]? = some (G.2.1 ty, ty)) (hno : ∀ C, ty ≠ .object C) {cA : ClassId} (hf : s.vm.findClass ("[" ++ ty.toString) = some cA) : cA = G.2.1 ty := by
  have h1 := (K.2 j _ hj).2
  have h2 : s.vm.findClass ("[" ++ ty.toString) = some (G.2.1 ty) := by
    cases ty <;> first | exact h1 | exact absurd rfl (hno _)
  exact Option.some.inj (hf.symm.trans h2)
theorem mr_newI {ty : FieldType} {atype : ArrayType} (j : Nat) (x : mc_Cell) {n : Int32} {N : Nat} (hty : newarray.typeOf atype = ty) (hj : ∀ G : mc_G, (mc_tys G)[j]? = some (G.2.1 ty, ty)) (hno : ∀ C, ty ≠ .object C) (hx : ∀ (G : mc_G), ∃ a0 : vp_A, mc_E G x = .inl (G.2.1 ty, a0) ∧ vp_cell (G.2.1 ty) a0 = arrV (G.2.1 ty) N (fun _ => defaultValue ty)) (hw : Cond.arrayClass ty ∈ mc_tbl) (hd : decode Mt.2.1 pc = .ok (.newarray atype, 2)) (hn : ¬ n < 0) (hN : n.toNatClampNeg = N) (hbytes : N * componentBytes ty ≤ 536870912) (b : Nat) (hb : b = h.length + 1)
    (k : mc_V Mt d scr (pc + 2) loc (.ref b :: stk) (h ++ [x]) r h' nc ns) : mc_V Mt d scr pc loc (.int n :: stk) h r h' (1 + nc) (N + ns) := by
  intro p l e R s m args below meth c H locs cells slots Q ls G C K X P S L hR E
  subst hb
  subst hty
  have hts : ∀ w ∈ mc_tbl, w.before args s = true := fun w h => C.2.2.2.2.2.2.1 _ w h
  refine va_newaK C.1 C.2.1 (hts _ hw) rfl hd rfl hn hN hbytes (by have := hR.2.2.1; omega) (by have := hR.2.2.2; omega) rfl fun H1 cA e1 z1 o1 _ hNm => ?_
  have hcA := mc_arr K j (hj G) hno hNm
  subst hcA
  obtain ⟨a0, g1, g2⟩ := hx G
  have ea : mc_ad G (h.length + 1) = H.size := P.2.symm
  have := k p l e R s m args below meth c H1 locs (cells + 1) (slots + N) Q ls G C K X (P.push z1 o1 (by rw [g1, ea]; show H1[H.size]? = some (vp_cell _ _); rw [g2]; exact e1)) (S.push (by omega) o1) L ⟨hR.1, hR.2.1, by have := hR.2.2.1; omega, by have := hR.2.2.2; omega⟩ (fun H' locs' pc' ls' P' S' hr => by rw [Nat.add_assoc, Nat.add_assoc]; exact E H' locs' pc' ls' P' S' hr)
  rw [List.map_cons, show mc_cv G (.ref (h.length + 1)) = .ref H.size from congrArg Value.ref ea] at this
  exact this
theorem mr_copy {a0 a1 n0 n1 idx : Nat} {f g : Nat → Int32} {sp dp n : Int32} (hw : Cond.methodLink Mt.1.cls idx arraycopyName ∈ mc_tbl) (hnat : Cond.native arraycopyName ∈ mc_tbl) (hstat : Cond.static arraycopyName ∈ mc_tbl) (hini : Cond.initialized "java/lang/System" ∈ mc_tbl) (hd : decode Mt.2.1 pc = .ok (.invokestatic idx, 3)) (ha0 : h[a0]? = some (.inr (.inl (.int, n0, f)))) (ha1 : h[a1]? = some (.inr (.inl (.int, n1, g)))) (h1 : ¬ sp < 0) (h2 : ¬ dp < 0) (h3 : ¬ n < 0) (h4 : sp.toNatClampNeg + n.toNatClampNeg ≤ n0) (h5 : dp.toNatClampNeg + n.toNatClampNeg ≤ n1) (hm : (stk.map fun v => v.category).sum ≤ 8)
    (k : mc_V Mt (d + 1) scr (pc + 3) loc stk (h.set a1 (.inr (.inl (.int, n1, va_cpy f g sp.toNatClampNeg dp.toNatClampNeg n.toNatClampNeg)))) r h' nc ns) : mc_V Mt (d + 1) scr pc loc (.int n :: .int dp :: .ref (a1 + 1) :: .int sp :: .ref (a0 + 1) :: stk) h r h' nc ns := by
  intro p l e R s m args below meth c H locs cells slots Q ls G C K X P S L hR E
  have hts : ∀ w ∈ mc_tbl, w.before args s = true := fun w h => C.2.2.2.2.2.2.1 _ w h
  have hrm := mc_roomW (G := G) hm
  have nn : ∀ z : Int32, ¬ z < 0 → z.toInt = (z.toNatClampNeg : Int) := by
    intro z hz
    have hz0 : (0 : Int) ≤ z.toInt := by
      have := Int32.not_lt.mp hz
      simpa using Int32.le_iff_toInt_le.mp this
    show z.toInt = ((z.toInt.toNat : Nat) : Int)
    omega
  intro T hT X1
  have hc0 : H[mc_ad G (a0 + 1)]? = some (vp_cell (G.2.1 .int) (n0, .inl f)) := P.1 a0 _ (mc_W_get ha0)
  have hc1 : H[mc_ad G (a1 + 1)]? = some (vp_cell (G.2.1 .int) (n1, .inl g)) := P.1 a1 _ (mc_W_get ha1)
  obtain ⟨-, k0, hk0, cm0, hkk0⟩ := (K.2 0 _ rfl).1 n0 (fun j => .int (f j))
  obtain ⟨-, k1, hk1, cm1, hkk1⟩ := (K.2 0 _ rfl).1 n1 (fun j => .int (g j))
  obtain ⟨vm', X', step⟩ := X1.arraycopy C.1 C.2.2.2.2.2.1 (hts _ hw) (hts _ hnat) (hts _ hstat) (hts _ hini) (src := mc_ad G (a0 + 1)) (dst := mc_ad G (a1 + 1)) (cs := vp_cell (G.2.1 .int) (n0, .inl f)) (cd := vp_cell (G.2.1 .int) (n1, .inl g)) (srcPos := sp) (destPos := dp) (n := n) (by rw [hT]; exact hc0) (by rw [hT]; exact hc1)
    (fun _ h => by cases h) (fun _ h => by cases h) (fun h => by cases h) (fun h => by cases h) hk0 hk1 hkk0 hkk1 (by simp [show refKind .int = false from rfl]) h1 h2 h3
    (by rw [nn sp h1, nn n h3]; show ¬ _ > ((arrV (G.2.1 .int) n0 (fun j => .int (f j))).slots.size : Int); rw [arrV_size]; omega)
    (by rw [nn dp h2, nn n h3]; show ¬ _ > ((arrV (G.2.1 .int) n1 (fun j => .int (g j))).slots.size : Int); rw [arrV_size]; omega)
    (fun vm₁ _ i hi => by
      have e : (vp_cell (G.2.1 .int) (n0, .inl f)).slots.getD (sp.toNatClampNeg + i) .null = .int (f (sp.toNatClampNeg + i)) := by
        show (arrV (G.2.1 .int) n0 (fun j => .int (f j))).slots.getD _ _ = _
        rw [Array.getD_eq_getD_getElem?, arrV_read _ _ (by omega)]
        rfl
      refine ⟨?_, ?_⟩
      · rw [e]
        rfl
      · rw [e]
        exact trivial)
    (g := F0 m pc ls (.int n :: .int dp :: .ref (mc_ad G (a1 + 1)) :: .int sp :: .ref (mc_ad G (a0 + 1)) :: stk.map (mc_cv G))) rfl (L.1.1.trans C.2.2.1.symm) (rest := stk.map (mc_cv G)) rfl (by rw [C.2.1]; exact hd) (by have := hR.1; omega) (by show 2 * 0 + _ + (7 + 11) ≤ _; have := hR.2.1; omega)
  have e1 : copied (vp_cell (G.2.1 .int) (n0, .inl f)) (vp_cell (G.2.1 .int) (n1, .inl g)) sp dp n = vp_cell (G.2.1 .int) (n1, .inl (va_cpy f g sp.toNatClampNeg dp.toNatClampNeg n.toNatClampNeg)) := va_copied (fun z => .int z) (G.2.1 .int) (G.2.1 .int) f g h4
  rw [e1] at X' step
  have hl : mc_ad G (a1 + 1) < H.size := (Array.getElem?_eq_some_iff.mp hc1).1
  have hheap : ((T.setVm vm').setCell (mc_ad G (a1 + 1)) (vp_cell (G.2.1 .int) (n1, .inl (va_cpy f g sp.toNatClampNeg dp.toNatClampNeg n.toNatClampNeg)))).heap = H.setIfInBounds (mc_ad G (a1 + 1)) (vp_cell (G.2.1 .int) (n1, .inl (va_cpy f g sp.toNatClampNeg dp.toNatClampNeg n.toNatClampNeg))) := by rw [← hT]; rfl
  have oq : ∀ q : Nat, q ≠ mc_ad G (a1 + 1) → (H.setIfInBounds (mc_ad G (a1 + 1)) (vp_cell (G.2.1 .int) (n1, .inl (va_cpy f g sp.toNatClampNeg dp.toNatClampNeg n.toNatClampNeg))))[q]? = H[q]? := fun q hq => by simp [Array.getElem?_setIfInBounds, Ne.symm hq]
  obtain ⟨t, a2, b2⟩ := k p l e R s m args below meth c _ _ cells slots Q ls G C K X (P.put ha1 (show (H.setIfInBounds (mc_ad G (a1 + 1)) _)[mc_ad G (a1 + 1)]? = some _ by simp [Array.getElem?_setIfInBounds, hl]) (by simp) oq) ⟨⟨by simp; exact S.1.1, fun q g1 g2 => by
      rw [oq q (fun e => g2 (by rw [e]; exact (show G.2.2.2 ≤ G.2.2.2 + a1 by omega)))]
      exact S.1.2.1 q g1 g2, fun q hq => by
      rcases List.mem_append.mp hq with h | h
      · exact S.1.2.2 q h
      · obtain ⟨z, -, hz⟩ := List.mem_map.mp h
        rw [← hz]
        exact (show G.2.2.2 ≤ G.2.2.2 + a1 by omega)⟩, S.2⟩ L hR E _ hheap X'
  exact ⟨t, step t a2, b2⟩
end MK
end
section
/-! ===== new long[n][k]: the outer array, then its rows ===== -/
section MG
variable {Mt : mc_M} {d : Nat} {scr : Option (Nat × (Nat → Int32))} {pc : Nat} {loc stk : List Value} {h : mc_H} {r : Option Value} {h' : mc_H} {nc ns : Nat}
theorem mg_outer (c : ClassId) (N h0 : Nat) : ∀ i : Nat, Jvm.Free.Multi.outerC c N h0 i = arrV c N (fun j => va_rf (if j < i then some (h0 + 1 + j) else none))
  | 0 => by
    show ({ cls := c, slots := Array.replicate N .null, vm := .none } : Cell) = _
    rw [arrV_new]
    refine congrArg (arrV c N) (funext fun j => ?_)
    simp [va_rf]
  | i + 1 => by
    show (Jvm.Free.Multi.outerC c N h0 i).setSlot i (.ref (h0 + 1 + i)) = _
    rw [mg_outer c N h0 i, arrV_store]
    refine congrArg (arrV c N) (funext fun j => ?_)
    by_cases e : j = i
    · subst e
      simp [updV, va_rf]
    · by_cases h : j < i
      · simp [updV, e, h, Nat.lt_succ_of_lt h]
      · simp [updV, e, h, show ¬ j < i + 1 by omega]
theorem mc_W_appL {G : mc_G} (h x : mc_H) (k : Nat) : (mc_W G (h ++ x))[k]? = if k < h.length then (mc_W G h)[k]? else (x[k - h.length]?).map (fun c => (mc_ad G (k + 1), mc_E G c)) := by
  unfold mc_W
  rw [List.getElem?_mapIdx, List.getElem?_mapIdx]
  split
  · rename_i hk; rw [List.getElem?_append_left hk]
  · rename_i hk; rw [List.getElem?_append_right (by omega)]
theorem mr_mna {idx : Nat} {n k : Int32} {N K' : Nat} (hw : Cond.classLink Mt.1.cls idx ("[" ++ (FieldType.array .long).toString) ∈ mc_tbl) (hov : Cond.arrayOver (.array .long) ∈ mc_tbl) (hac : Cond.arrayClass .long ∈ mc_tbl) (hd : decode Mt.2.1 pc = .ok (.multianewarray idx 2, 4)) (hn : ¬ n < 0) (hk : ¬ k < 0) (hN : n.toNatClampNeg = N) (hK : k.toNatClampNeg = K') (hb1 : N * 4 ≤ 536870912) (hb2 : K' * componentBytes .long ≤ 536870912) (b : Nat) (hb : b = h.length + 1)
    (kk : mc_V Mt d scr (pc + 4) loc (.ref b :: stk) (h ++ (.inr (.inr (.inr (N, fun i => if i < N then some (b + 1 + i) else none))) :: List.replicate N (.inr (.inr (.inl (K', fun _ => 0)))))) r h' nc ns) : mc_V Mt d scr pc loc (.int k :: .int n :: stk) h r h' (1 + N + nc) (N + N * K' + ns) := by
  intro p l e R s m args below meth c H locs cells slots Q ls G C K X P S L hR E
  subst hb
  subst hN
  subst hK
  have hts : ∀ w ∈ mc_tbl, w.before args s = true := fun w h => C.2.2.2.2.2.2.1 _ w h
  intro T hT Xs
  obtain ⟨vm₁, cA, comp, -, fA, fC, hO, -, X', step⟩ := Xs.multianewarray2F C.1 C.2.2.2.2.2.1 (hts _ hw) (hts _ hov) (hts _ hac) (g := F0 m pc ls (.int k :: .int n :: stk.map (mc_cv G))) rfl (by rw [C.2.1]; exact hd) rfl hn hk hb1 hb2 (by have h8 : componentBytes .long = 8 := rfl; rw [h8] at hb2; omega) rfl rfl (by have := hR.2.2.1; omega) (by have := hR.2.2.2; omega)
  have ecA : cA = G.2.1 (.array .long) := mc_arr K 4 rfl (by simp) fA
  have ecp : comp = G.2.1 .long := mc_arr K 1 rfl (by simp) fC
  subst ecA
  subst ecp
  generalize hF : Jvm.Free.Multi.fill (T.setVm vm₁) (G.2.1 (.array .long)) (G.2.1 .long) n.toNatClampNeg k.toNatClampNeg (defaultValue .long) n.toNatClampNeg = F at X' step
  have hTh : (T.setVm vm₁).heap = H := hT
  obtain ⟨f1, f2, -, -⟩ := Jvm.Free.Multi.fill_facts (T.setVm vm₁) (G.2.1 (.array .long)) (G.2.1 .long) n.toNatClampNeg k.toNatClampNeg (defaultValue .long) n.toNatClampNeg
  rw [hF, hTh] at f1 f2
  have hold : ∀ x : Nat, x < H.size → F.heap[x]? = H[x]? := fun x hx => by
    have := Jvm.Free.Multi.fill_old (T.setVm vm₁) (G.2.1 (.array .long)) (G.2.1 .long) n.toNatClampNeg k.toNatClampNeg (defaultValue .long) (a := x) (by rw [hTh]; exact hx) n.toNatClampNeg
    rw [hF, hTh] at this
    exact this
  have hrow : ∀ j : Nat, j < n.toNatClampNeg → F.heap[H.size + 1 + j]? = some (vp_cell (G.2.1 .long) (k.toNatClampNeg, .inr (.inl (fun _ => 0)))) := fun j hj => by
    have := Jvm.Free.Multi.fill_inner (T.setVm vm₁) (G.2.1 (.array .long)) (G.2.1 .long) n.toNatClampNeg k.toNatClampNeg (defaultValue .long) n.toNatClampNeg j hj
    rw [hF, hTh] at this
    rw [this, vp_cell_l]
    exact congrArg some (arrV_new _ _ _)
  have ea : ∀ j, mc_ad G (h.length + 1 + j) = H.size + j := fun j => by
    rw [P.2]
    show mc_ad G (h.length + 1 + j) = _
    rw [show h.length + 1 + j = (h.length + j) + 1 by omega]
    show G.2.2.2 + (h.length + j) = _
    omega
  have P' : mc_P G (h ++ (.inr (.inr (.inr (n.toNatClampNeg, fun i => if i < n.toNatClampNeg then some (h.length + 1 + 1 + i) else none))) :: List.replicate n.toNatClampNeg (.inr (.inr (.inl (k.toNatClampNeg, fun _ => 0)))))) F.heap := by
    refine ⟨fun q x hx => ?_, by rw [f1, P.2, List.length_append, List.length_cons, List.length_replicate]; omega⟩
    rw [mc_W_appL] at hx
    split at hx
    · exact (P.1 q x hx).kept (hold _ ((P.1 q x hx).lt))
    · rename_i hq
      obtain ⟨j, rfl⟩ : ∃ j, q = h.length + j := ⟨q - h.length, by omega⟩
      rw [show h.length + j - h.length = j by omega] at hx
      match j, hx with
      | 0, hx =>
        cases hx
        show F.heap[mc_ad G (h.length + 1 + 0)]? = some (vp_cell _ _)
        rw [ea 0]
        show F.heap[H.size]? = _
        rw [f2, mg_outer, vp_cell_q]
        refine congrArg (fun z => some (arrV _ _ z)) (funext fun j => ?_)
        by_cases hj : j < n.toNatClampNeg
        · simp only [hj, if_true, Option.map_some]
          rw [show h.length + 1 + 1 + j = h.length + 1 + (1 + j) by omega, ea (1 + j)]
          rw [Nat.add_assoc]
        · simp [hj]
      | j + 1, hx =>
        have hj : j < n.toNatClampNeg := by
          have : (List.replicate n.toNatClampNeg (.inr (.inr (.inl (k.toNatClampNeg, fun _ => 0))) : mc_Cell))[j]? ≠ none := by
            intro h0
            rw [List.getElem?_cons_succ, h0] at hx
            cases hx
          by_cases hl : j < n.toNatClampNeg
          · exact hl
          · exact absurd (List.getElem?_eq_none (by rw [List.length_replicate]; omega)) this
        rw [List.getElem?_cons_succ, List.getElem?_replicate, if_pos hj] at hx
        cases hx
        show F.heap[mc_ad G (h.length + (j + 1) + 1)]? = some (vp_cell _ _)
        rw [show h.length + (j + 1) + 1 = h.length + 1 + (1 + j) by omega, ea (1 + j), ← Nat.add_assoc]
        exact hrow j hj
  obtain ⟨t, a1, b1⟩ := kk p l e R s m args below meth c F.heap locs (cells + 1 + n.toNatClampNeg) (slots + n.toNatClampNeg + n.toNatClampNeg * k.toNatClampNeg) Q ls G C K X P' (S.push (by rw [f1]; omega) hold) L ⟨hR.1, hR.2.1, by have := hR.2.2.1; omega, by have := hR.2.2.2; omega⟩
    (fun H' locs' pc' ls' P' S' hr => by
      have := E H' locs' pc' ls' P' S' hr
      rw [show cells + 1 + n.toNatClampNeg + nc = cells + (1 + n.toNatClampNeg + nc) by omega, show slots + n.toNatClampNeg + n.toNatClampNeg * k.toNatClampNeg + ns = slots + (n.toNatClampNeg + n.toNatClampNeg * k.toNatClampNeg + ns) by omega]
      exact this) F rfl X'
  refine ⟨t, step t ?_, b1⟩
  have e : T.heap.size = H.size := by rw [hT]
  rw [e]
  rw [List.map_cons, show mc_cv G (.ref (h.length + 1)) = .ref H.size from congrArg Value.ref (ea 0)] at a1
  exact a1
end MG
end
section
/-! ===== FROM THE LAW's RUN IN THE PICTURE TO THE CLAIM ===== -/
theorem mc_Wd.of {A : Array Value} {s : State} (h : ∀ w ∈ mc_tbl, w.before A s = true) : mc_Wd s := by
  intro a w hw
  have h1 := (List.mem_filter.mp hw).2
  have h2 := h w hw
  have hW : s.WarmedH s.vm := State.WarmedH.refl s
  rcases (Bool.or_eq_true _ _).mp h1 with g | g
  · exact word_at hW (good_of_word g) h2
  · cases w <;> first | (simp [mc_nest] at g; done) | skip
    · exact va_Nw.use rfl (va_Nw.warmM hW (va_Nw.of rfl h2))
    · exact va_Nw.use rfl (va_Nw.warmF hW (va_Nw.of rfl h2))
    · rename_i t
      cases t <;> first | (simp [mc_nest] at g; done) | exact over_moved hW.alike h2
theorem mc_prim {s : State} (h : mc_Wd s) {ty : FieldType} (hw : Cond.arrayClass ty ∈ mc_tbl) (hno : ∀ C, ty ≠ .object C) : ∃ cA, ArrOfT s cA ty ∧ va_RA s cA ty := by
  obtain ⟨c, k, comp, h1, h2, h3⟩ := Cond.arrayClass_spec (h #[] _ hw)
  refine ⟨c, fun n z => ⟨fun k h => (by cases h), k, h2, comp, h3⟩, ?_⟩
  cases ty <;> first | exact h1 | exact absurd rfl (hno _)
theorem mc_over {s : State} (h : mc_Wd s) (hw : Cond.arrayOver (.array .long) ∈ mc_tbl) : ∃ cA, ArrOfT s cA (.array .long) ∧ va_RA s cA (.array .long) := by
  obtain ⟨comp, c, k, hc, hi, hk, hkind, hn⟩ := arrayOverA_spec (h #[] _ hw)
  exact ⟨c, fun n z => ⟨fun k h => (by cases h), k, hk, comp, hkind⟩, hn⟩
theorem arr_boolean : Cond.arrayClass .boolean ∈ mc_tbl := mc_in 231 (by decide +kernel) (by decide +kernel)
theorem arr_int : Cond.arrayClass .int ∈ mc_tbl := mc_in 104 (by decide +kernel) (by decide +kernel)
theorem arr_long : Cond.arrayClass .long ∈ mc_tbl := mc_in 169 (by decide +kernel) (by decide +kernel)
theorem arr_short : Cond.arrayClass .short ∈ mc_tbl := mc_in 186 (by decide +kernel) (by decide +kernel)
theorem arr_over : Cond.arrayOver (.array .long) ∈ mc_tbl := mc_in 149 (by decide +kernel) (by decide +kernel)
def M_law : mc_M := (⟨RL, "law", "([I)Z"⟩, code, 4, some .boolean)
theorem mc_close {p : Program} {e : Env} {s : State} {m : MethodId} {below : List Frame} {meth : Method} {c : Code} (l : Launch) {b L : Nat} {xs : Nat → Int32} (hx : p.tables.exec = Jvm.exec) (hb : c.code = code) (hr : meth.sig.returnType = some .boolean) (hml : c.maxLocals = 4) (hown : s.vm.findClass "RestingBlocksLaw" = some m.cls) (hts : ∀ w ∈ lw_tbl, w.before #[Value.ref b] s = true) (hX : va_X b L xs s s.heap) (hbl : b < s.heap.size) (hlocks : meth.locks = false)
    {Q : State → Prop} {nc ns : Nat} {h' : mc_H} (hnc : nc ≤ 600000) (hns : ns ≤ 7302250) (hV : mc_V M_law 12 (some (L, xs)) 0 (mc_entry [.ref 0] 4) [] [] (some (.int 1)) h' nc ns)
    (hend : ∀ (H : Heap) (pc : Nat) (ls : Array Slot), decode code pc = .ok (.ireturn, 1) → W p l e room_1 s m #[Value.ref b] below meth c H [] 600000 7302250 Q (F0 m pc ls [.int 1])) :
    W p l e room_1 s m #[Value.ref b] below meth c s.heap [] 0 0 Q (entryFrame m ([Value.ref b] : List Value).toArray 4) := by
  have hWd : mc_Wd s := mc_Wd.of (A := #[Value.ref b]) fun w h => hts w (List.mem_filter.mp h).1
  have hts2 : ∀ w ∈ mc_tbl, w.before #[Value.ref b] s = true := fun w h => hWd _ w h
  obtain ⟨c0, iS0, hKn0⟩ := u_known (C := RX0) (T := TX0) (N := 6) (n := 6) hts2 inX0 (hts2 _ insX0)
  obtain ⟨c1, iS1, hKn1⟩ := u_known (C := RX1) (T := TX1) (N := 10) (n := 10) hts2 inX1 (hts2 _ insX1)
  obtain ⟨c2, iS2, hKn2⟩ := u_known (C := RX2) (T := TX2) (N := 1) (n := 1) hts2 inX2 (hts2 _ insX2)
  obtain ⟨c3, iS3, hKn3⟩ := u_known (C := RX3) (T := TX3) (N := 2) (n := 2) hts2 inX3 (hts2 _ insX3)
  obtain ⟨c4, iS4, hKn4⟩ := u_known (C := RX4) (T := TX4) (N := 3) (n := 3) hts2 inX4 (hts2 _ insX4)
  obtain ⟨c5, iS5, hKn5⟩ := u_known (C := RX5) (T := TX5) (N := 9) (n := 9) hts2 inX5 (hts2 _ insX5)
  obtain ⟨c6, iS6, hKn6⟩ := u_known (C := RX6) (T := TX6) (N := 27) (n := 27) hts2 inX6 (hts2 _ insX6)
  obtain ⟨dC, dI, hKc⟩ : ∃ (dC : Nat → ClassId) (dI : Nat → Nat → Nat), ∀ (k : Nat) (q : vw_C), mc_cl[k]? = some q → u_Kn s q.1 q.2.1 q.2.2 (dC k) (dI k) := by
    refine ⟨fun k => if k = 0 then c0 else (if k = 1 then c1 else (if k = 2 then c2 else (if k = 3 then c3 else (if k = 4 then c4 else (if k = 5 then c5 else (c6)))))), fun k => if k = 0 then iS0 else (if k = 1 then iS1 else (if k = 2 then iS2 else (if k = 3 then iS3 else (if k = 4 then iS4 else (if k = 5 then iS5 else (iS6)))))), ?_⟩
    intro k q hq
    match k, hq with
    | 0, hq => cases hq; exact hKn0
    | 1, hq => cases hq; exact hKn1
    | 2, hq => cases hq; exact hKn2
    | 3, hq => cases hq; exact hKn3
    | 4, hq => cases hq; exact hKn4
    | 5, hq => cases hq; exact hKn5
    | 6, hq => cases hq; exact hKn6
    | k + 7, hq => simp [mc_cl] at hq
  obtain ⟨cI, aI, rI⟩ := mc_prim hWd arr_int (by simp)
  obtain ⟨cJ, aJ, rJ⟩ := mc_prim hWd arr_long (by simp)
  obtain ⟨cS, aS, rS⟩ := mc_prim hWd arr_short (by simp)
  obtain ⟨cZ, aZ, rZ⟩ := mc_prim hWd arr_boolean (by simp)
  obtain ⟨cG, aG, rG⟩ := mc_over hWd arr_over
  let G : mc_G := ((dC, dI), (fun t => match t with
    | .int => cI
    | .long => cJ
    | .short => cS
    | .boolean => cZ
    | _ => cG), b, s.heap.size)
  have hK : mc_K G s := by
    refine ⟨hKc, fun k q hq => ?_⟩
    match k, hq with
    | 0, hq => cases hq; exact ⟨aI, rI⟩
    | 1, hq => cases hq; exact ⟨aJ, rJ⟩
    | 2, hq => cases hq; exact ⟨aS, rS⟩
    | 3, hq => cases hq; exact ⟨aZ, rZ⟩
    | 4, hq => cases hq; exact ⟨aG, rG⟩
    | k + 5, hq => simp [mc_tys] at hq
  have hP : mc_P G [] s.heap := ⟨fun k q h => by simp [mc_W] at h, rfl⟩
  have hS : mc_S G s s.heap [] := ⟨va_S.rf, Nat.le_refl _⟩
  rw [lg_entry_eq]
  refine hV p l e room_1 s m #[Value.ref b] below meth c s.heap [] 0 0 Q _ G ⟨hx, hb, hml, hr, hlocks, hown, hWd, fun h => absurd h (by decide)⟩ hK ⟨hX, hbl⟩ hP hS (mc_LO.entry (G := G) (vs := [.ref 0]) (n := 4) (by decide)) ⟨Nat.le_of_ble_eq_true rfl, Nat.le_of_ble_eq_true rfl, by show 0 + nc ≤ 600000; omega, by show 0 + ns ≤ 7302250; omega⟩ ?_
  intro H' locs' pc' ls' P' S' hret
  obtain ⟨ty, -, -, hd⟩ := hret
  refine va_forget (fun q hq => S'.1.2.2 q hq) ?_
  refine W.widen (k := 600000) (n := 7302250) (by omega) (by omega) ?_
  exact hend H' pc' ls' hd
end
