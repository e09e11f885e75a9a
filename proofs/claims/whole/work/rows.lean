section
-- ===== PART A: goes FIRST, ahead of the names: the tables' words, and 'selects' of the private methods out of them =====
/-- a private method of a class that the tables say can be made, by its rows of tables_1 -/
def lw_okq (q : MethodName × Nat) : Prop := (q.1.cls ≠ "java/lang/invoke/MethodHandle" ∧ q.1.cls ≠ "java/lang/invoke/VarHandle") ∧ Cond.instantiable q.1.cls q.2 ∈ tables_1 ∧ Cond.privateMethod q.1 ∈ tables_1 ∧ Cond.instanceMethod q.1 ∈ tables_1
theorem lw_p0 : lw_okq (⟨"RestingBlocks$Text", "skipBlanks", "()V"⟩, 3) := ⟨⟨by decide +kernel, by decide +kernel⟩, List.mem_of_getElem? (i := 97) (by decide +kernel), List.mem_of_getElem? (i := 194) (by decide +kernel), List.mem_of_getElem? (i := 195) (by decide +kernel)⟩
theorem lw_p1 : lw_okq (⟨"RestingBlocks$Text", "next", "()I"⟩, 3) := ⟨⟨by decide +kernel, by decide +kernel⟩, List.mem_of_getElem? (i := 97) (by decide +kernel), List.mem_of_getElem? (i := 198) (by decide +kernel), List.mem_of_getElem? (i := 199) (by decide +kernel)⟩
theorem lw_p2 : lw_okq (⟨"RestingBlocks$Text", "readItem", "(LRestingBlocks$Pile;)Z"⟩, 3) := ⟨⟨by decide +kernel, by decide +kernel⟩, List.mem_of_getElem? (i := 97) (by decide +kernel), List.mem_of_getElem? (i := 202) (by decide +kernel), List.mem_of_getElem? (i := 203) (by decide +kernel)⟩
theorem lw_p3 : lw_okq (⟨"RestingBlocks$Text", "readBlock", "(LRestingBlocks$Pile;)Z"⟩, 3) := ⟨⟨by decide +kernel, by decide +kernel⟩, List.mem_of_getElem? (i := 97) (by decide +kernel), List.mem_of_getElem? (i := 206) (by decide +kernel), List.mem_of_getElem? (i := 207) (by decide +kernel)⟩
theorem lw_p4 : lw_okq (⟨"RestingBlocks$Text", "readNumber", "(II)I"⟩, 3) := ⟨⟨by decide +kernel, by decide +kernel⟩, List.mem_of_getElem? (i := 97) (by decide +kernel), List.mem_of_getElem? (i := 214) (by decide +kernel), List.mem_of_getElem? (i := 215) (by decide +kernel)⟩
theorem lw_p5 : lw_okq (⟨"RestingBlocks$Text", "readEnd", "()Z"⟩, 3) := ⟨⟨by decide +kernel, by decide +kernel⟩, List.mem_of_getElem? (i := 97) (by decide +kernel), List.mem_of_getElem? (i := 225) (by decide +kernel), List.mem_of_getElem? (i := 226) (by decide +kernel)⟩
theorem lw_p6 : lw_okq (⟨"RestingBlocks$Text", "readLoad", "(LRestingBlocks$Pile;)Z"⟩, 3) := ⟨⟨by decide +kernel, by decide +kernel⟩, List.mem_of_getElem? (i := 97) (by decide +kernel), List.mem_of_getElem? (i := 243) (by decide +kernel), List.mem_of_getElem? (i := 244) (by decide +kernel)⟩
theorem lw_p7 : lw_okq (⟨"RestingBlocks", "remember", "()V"⟩, 9) := ⟨⟨by decide +kernel, by decide +kernel⟩, List.mem_of_getElem? (i := 12) (by decide +kernel), List.mem_of_getElem? (i := 256) (by decide +kernel), List.mem_of_getElem? (i := 257) (by decide +kernel)⟩
theorem lw_p8 : lw_okq (⟨"RestingBlocks$Layout", "findLevel", "(I)V"⟩, 10) := ⟨⟨by decide +kernel, by decide +kernel⟩, List.mem_of_getElem? (i := 32) (by decide +kernel), List.mem_of_getElem? (i := 293) (by decide +kernel), List.mem_of_getElem? (i := 294) (by decide +kernel)⟩
theorem lw_p9 : lw_okq (⟨"RestingBlocks$Layout", "overlap", "(II)Z"⟩, 10) := ⟨⟨by decide +kernel, by decide +kernel⟩, List.mem_of_getElem? (i := 32) (by decide +kernel), List.mem_of_getElem? (i := 297) (by decide +kernel), List.mem_of_getElem? (i := 298) (by decide +kernel)⟩
theorem lw_p10 : lw_okq (⟨"RestingBlocks$Layout", "findUnder", "(I)V"⟩, 10) := ⟨⟨by decide +kernel, by decide +kernel⟩, List.mem_of_getElem? (i := 32) (by decide +kernel), List.mem_of_getElem? (i := 302) (by decide +kernel), List.mem_of_getElem? (i := 303) (by decide +kernel)⟩
theorem lw_p11 : lw_okq (⟨"RestingBlocks$Layout", "findContacts", "(I)V"⟩, 10) := ⟨⟨by decide +kernel, by decide +kernel⟩, List.mem_of_getElem? (i := 32) (by decide +kernel), List.mem_of_getElem? (i := 306) (by decide +kernel), List.mem_of_getElem? (i := 307) (by decide +kernel)⟩
theorem lw_p12 : lw_okq (⟨"RestingBlocks$Layout", "addContact", "(III)V"⟩, 10) := ⟨⟨by decide +kernel, by decide +kernel⟩, List.mem_of_getElem? (i := 32) (by decide +kernel), List.mem_of_getElem? (i := 310) (by decide +kernel), List.mem_of_getElem? (i := 311) (by decide +kernel)⟩
theorem lw_p13 : lw_okq (⟨"RestingBlocks", "isSpot", "(II)Z"⟩, 9) := ⟨⟨by decide +kernel, by decide +kernel⟩, List.mem_of_getElem? (i := 12) (by decide +kernel), List.mem_of_getElem? (i := 342) (by decide +kernel), List.mem_of_getElem? (i := 343) (by decide +kernel)⟩
theorem lw_p14 : lw_okq (⟨"RestingBlocks", "isBalanced", "(LRestingBlocks$Pile;I)Z"⟩, 9) := ⟨⟨by decide +kernel, by decide +kernel⟩, List.mem_of_getElem? (i := 12) (by decide +kernel), List.mem_of_getElem? (i := 386) (by decide +kernel), List.mem_of_getElem? (i := 387) (by decide +kernel)⟩
theorem lw_p15 : lw_okq (⟨"RestingBlocks$Balance", "poseBlock", "(LRestingBlocks$Pile;LRestingBlocks$Layout;I)V"⟩, 6) := ⟨⟨by decide +kernel, by decide +kernel⟩, List.mem_of_getElem? (i := 69) (by decide +kernel), List.mem_of_getElem? (i := 397) (by decide +kernel), List.mem_of_getElem? (i := 398) (by decide +kernel)⟩
def lw_privs_1 : List (MethodName × Nat) := [(⟨"RestingBlocks$Text", "skipBlanks", "()V"⟩, 3), (⟨"RestingBlocks$Text", "next", "()I"⟩, 3), (⟨"RestingBlocks$Text", "readItem", "(LRestingBlocks$Pile;)Z"⟩, 3), (⟨"RestingBlocks$Text", "readBlock", "(LRestingBlocks$Pile;)Z"⟩, 3), (⟨"RestingBlocks$Text", "readNumber", "(II)I"⟩, 3), (⟨"RestingBlocks$Text", "readEnd", "()Z"⟩, 3), (⟨"RestingBlocks$Text", "readLoad", "(LRestingBlocks$Pile;)Z"⟩, 3), (⟨"RestingBlocks", "remember", "()V"⟩, 9), (⟨"RestingBlocks$Layout", "findLevel", "(I)V"⟩, 10), (⟨"RestingBlocks$Layout", "overlap", "(II)Z"⟩, 10), (⟨"RestingBlocks$Layout", "findUnder", "(I)V"⟩, 10), (⟨"RestingBlocks$Layout", "findContacts", "(I)V"⟩, 10), (⟨"RestingBlocks$Layout", "addContact", "(III)V"⟩, 10), (⟨"RestingBlocks", "isSpot", "(II)Z"⟩, 9), (⟨"RestingBlocks", "isBalanced", "(LRestingBlocks$Pile;I)Z"⟩, 9), (⟨"RestingBlocks$Balance", "poseBlock", "(LRestingBlocks$Pile;LRestingBlocks$Layout;I)V"⟩, 6)]
theorem lw_r1 : ∀ q ∈ lw_privs_1, lw_okq q := List.forall_mem_cons.mpr ⟨lw_p0, List.forall_mem_cons.mpr ⟨lw_p1, List.forall_mem_cons.mpr ⟨lw_p2, List.forall_mem_cons.mpr ⟨lw_p3, List.forall_mem_cons.mpr ⟨lw_p4, List.forall_mem_cons.mpr ⟨lw_p5, List.forall_mem_cons.mpr ⟨lw_p6, List.forall_mem_cons.mpr ⟨lw_p7, List.forall_mem_cons.mpr ⟨lw_p8, List.forall_mem_cons.mpr ⟨lw_p9, List.forall_mem_cons.mpr ⟨lw_p10, List.forall_mem_cons.mpr ⟨lw_p11, List.forall_mem_cons.mpr ⟨lw_p12, List.forall_mem_cons.mpr ⟨lw_p13, List.forall_mem_cons.mpr ⟨lw_p14, List.forall_mem_cons.mpr ⟨lw_p15, fun _ h => absurd h List.not_mem_nil⟩⟩⟩⟩⟩⟩⟩⟩⟩⟩⟩⟩⟩⟩⟩⟩
theorem lw_p16 : lw_okq (⟨"RestingBlocks$Balance", "firstThatLessensMakeshift", "()I"⟩, 6) := ⟨⟨by decide +kernel, by decide +kernel⟩, List.mem_of_getElem? (i := 69) (by decide +kernel), List.mem_of_getElem? (i := 410) (by decide +kernel), List.mem_of_getElem? (i := 411) (by decide +kernel)⟩
theorem lw_p17 : lw_okq (⟨"RestingBlocks$Balance", "makeshift", "(I)J"⟩, 6) := ⟨⟨by decide +kernel, by decide +kernel⟩, List.mem_of_getElem? (i := 69) (by decide +kernel), List.mem_of_getElem? (i := 414) (by decide +kernel), List.mem_of_getElem? (i := 415) (by decide +kernel)⟩
theorem lw_p18 : lw_okq (⟨"RestingBlocks$Balance", "leavingRow", "(I)I"⟩, 6) := ⟨⟨by decide +kernel, by decide +kernel⟩, List.mem_of_getElem? (i := 69) (by decide +kernel), List.mem_of_getElem? (i := 418) (by decide +kernel), List.mem_of_getElem? (i := 419) (by decide +kernel)⟩
theorem lw_p19 : lw_okq (⟨"RestingBlocks$Balance", "leavesAhead", "(III)Z"⟩, 6) := ⟨⟨by decide +kernel, by decide +kernel⟩, List.mem_of_getElem? (i := 69) (by decide +kernel), List.mem_of_getElem? (i := 422) (by decide +kernel), List.mem_of_getElem? (i := 423) (by decide +kernel)⟩
theorem lw_p20 : lw_okq (⟨"RestingBlocks$Balance", "pivot", "(II)V"⟩, 6) := ⟨⟨by decide +kernel, by decide +kernel⟩, List.mem_of_getElem? (i := 69) (by decide +kernel), List.mem_of_getElem? (i := 426) (by decide +kernel), List.mem_of_getElem? (i := 427) (by decide +kernel)⟩
theorem lw_p21 : lw_okq (⟨"RestingBlocks$Balance", "turnSigns", "(I)V"⟩, 6) := ⟨⟨by decide +kernel, by decide +kernel⟩, List.mem_of_getElem? (i := 69) (by decide +kernel), List.mem_of_getElem? (i := 430) (by decide +kernel), List.mem_of_getElem? (i := 431) (by decide +kernel)⟩
theorem lw_p22 : lw_okq (⟨"RestingBlocks$Balance", "clearBy", "(III)V"⟩, 6) := ⟨⟨by decide +kernel, by decide +kernel⟩, List.mem_of_getElem? (i := 69) (by decide +kernel), List.mem_of_getElem? (i := 434) (by decide +kernel), List.mem_of_getElem? (i := 435) (by decide +kernel)⟩
theorem lw_p23 : lw_okq (⟨"RestingBlocks$Balance", "driveOutMakeshift", "()V"⟩, 6) := ⟨⟨by decide +kernel, by decide +kernel⟩, List.mem_of_getElem? (i := 69) (by decide +kernel), List.mem_of_getElem? (i := 438) (by decide +kernel), List.mem_of_getElem? (i := 439) (by decide +kernel)⟩
theorem lw_p24 : lw_okq (⟨"RestingBlocks", "extreme", "(II)J"⟩, 9) := ⟨⟨by decide +kernel, by decide +kernel⟩, List.mem_of_getElem? (i := 12) (by decide +kernel), List.mem_of_getElem? (i := 447) (by decide +kernel), List.mem_of_getElem? (i := 448) (by decide +kernel)⟩
theorem lw_p25 : lw_okq (⟨"RestingBlocks$Balance", "rowThatGives", "(I)I"⟩, 6) := ⟨⟨by decide +kernel, by decide +kernel⟩, List.mem_of_getElem? (i := 69) (by decide +kernel), List.mem_of_getElem? (i := 456) (by decide +kernel), List.mem_of_getElem? (i := 457) (by decide +kernel)⟩
theorem lw_p26 : lw_okq (⟨"RestingBlocks$Balance", "firstOfSign", "(III)I"⟩, 6) := ⟨⟨by decide +kernel, by decide +kernel⟩, List.mem_of_getElem? (i := 69) (by decide +kernel), List.mem_of_getElem? (i := 460) (by decide +kernel), List.mem_of_getElem? (i := 461) (by decide +kernel)⟩
theorem lw_p27 : lw_okq (⟨"RestingBlocks", "restsWithout", "(I)Z"⟩, 9) := ⟨⟨by decide +kernel, by decide +kernel⟩, List.mem_of_getElem? (i := 12) (by decide +kernel), List.mem_of_getElem? (i := 505) (by decide +kernel), List.mem_of_getElem? (i := 506) (by decide +kernel)⟩
theorem lw_p28 : lw_okq (⟨"RestingBlocksModel", "lays", "([II)V"⟩, 27) := ⟨⟨by decide +kernel, by decide +kernel⟩, List.mem_of_getElem? (i := 540) (by decide +kernel), List.mem_of_getElem? (i := 643) (by decide +kernel), List.mem_of_getElem? (i := 644) (by decide +kernel)⟩
theorem lw_p29 : lw_okq (⟨"RestingBlocksModel", "reads", "()Z"⟩, 27) := ⟨⟨by decide +kernel, by decide +kernel⟩, List.mem_of_getElem? (i := 540) (by decide +kernel), List.mem_of_getElem? (i := 647) (by decide +kernel), List.mem_of_getElem? (i := 648) (by decide +kernel)⟩
theorem lw_p30 : lw_okq (⟨"RestingBlocksModel", "skips", "()V"⟩, 27) := ⟨⟨by decide +kernel, by decide +kernel⟩, List.mem_of_getElem? (i := 540) (by decide +kernel), List.mem_of_getElem? (i := 651) (by decide +kernel), List.mem_of_getElem? (i := 652) (by decide +kernel)⟩
theorem lw_p31 : lw_okq (⟨"RestingBlocksModel", "passes", "(I)Z"⟩, 27) := ⟨⟨by decide +kernel, by decide +kernel⟩, List.mem_of_getElem? (i := 540) (by decide +kernel), List.mem_of_getElem? (i := 655) (by decide +kernel), List.mem_of_getElem? (i := 656) (by decide +kernel)⟩
def lw_privs_2 : List (MethodName × Nat) := [(⟨"RestingBlocks$Balance", "firstThatLessensMakeshift", "()I"⟩, 6), (⟨"RestingBlocks$Balance", "makeshift", "(I)J"⟩, 6), (⟨"RestingBlocks$Balance", "leavingRow", "(I)I"⟩, 6), (⟨"RestingBlocks$Balance", "leavesAhead", "(III)Z"⟩, 6), (⟨"RestingBlocks$Balance", "pivot", "(II)V"⟩, 6), (⟨"RestingBlocks$Balance", "turnSigns", "(I)V"⟩, 6), (⟨"RestingBlocks$Balance", "clearBy", "(III)V"⟩, 6), (⟨"RestingBlocks$Balance", "driveOutMakeshift", "()V"⟩, 6), (⟨"RestingBlocks", "extreme", "(II)J"⟩, 9), (⟨"RestingBlocks$Balance", "rowThatGives", "(I)I"⟩, 6), (⟨"RestingBlocks$Balance", "firstOfSign", "(III)I"⟩, 6), (⟨"RestingBlocks", "restsWithout", "(I)Z"⟩, 9), (⟨"RestingBlocksModel", "lays", "([II)V"⟩, 27), (⟨"RestingBlocksModel", "reads", "()Z"⟩, 27), (⟨"RestingBlocksModel", "skips", "()V"⟩, 27), (⟨"RestingBlocksModel", "passes", "(I)Z"⟩, 27)]
theorem lw_r2 : ∀ q ∈ lw_privs_2, lw_okq q := List.forall_mem_cons.mpr ⟨lw_p16, List.forall_mem_cons.mpr ⟨lw_p17, List.forall_mem_cons.mpr ⟨lw_p18, List.forall_mem_cons.mpr ⟨lw_p19, List.forall_mem_cons.mpr ⟨lw_p20, List.forall_mem_cons.mpr ⟨lw_p21, List.forall_mem_cons.mpr ⟨lw_p22, List.forall_mem_cons.mpr ⟨lw_p23, List.forall_mem_cons.mpr ⟨lw_p24, List.forall_mem_cons.mpr ⟨lw_p25, List.forall_mem_cons.mpr ⟨lw_p26, List.forall_mem_cons.mpr ⟨lw_p27, List.forall_mem_cons.mpr ⟨lw_p28, List.forall_mem_cons.mpr ⟨lw_p29, List.forall_mem_cons.mpr ⟨lw_p30, List.forall_mem_cons.mpr ⟨lw_p31, fun _ h => absurd h List.not_mem_nil⟩⟩⟩⟩⟩⟩⟩⟩⟩⟩⟩⟩⟩⟩⟩⟩
theorem lw_p32 : lw_okq (⟨"RestingBlocksModel", "readsBlock", "()Z"⟩, 27) := ⟨⟨by decide +kernel, by decide +kernel⟩, List.mem_of_getElem? (i := 540) (by decide +kernel), List.mem_of_getElem? (i := 659) (by decide +kernel), List.mem_of_getElem? (i := 660) (by decide +kernel)⟩
theorem lw_p33 : lw_okq (⟨"RestingBlocksModel", "number", "(II)I"⟩, 27) := ⟨⟨by decide +kernel, by decide +kernel⟩, List.mem_of_getElem? (i := 540) (by decide +kernel), List.mem_of_getElem? (i := 663) (by decide +kernel), List.mem_of_getElem? (i := 664) (by decide +kernel)⟩
theorem lw_p34 : lw_okq (⟨"RestingBlocksModel", "isFigure", "()Z"⟩, 27) := ⟨⟨by decide +kernel, by decide +kernel⟩, List.mem_of_getElem? (i := 540) (by decide +kernel), List.mem_of_getElem? (i := 667) (by decide +kernel), List.mem_of_getElem? (i := 668) (by decide +kernel)⟩
theorem lw_p35 : lw_okq (⟨"RestingBlocksModel", "appends", "(III)V"⟩, 27) := ⟨⟨by decide +kernel, by decide +kernel⟩, List.mem_of_getElem? (i := 540) (by decide +kernel), List.mem_of_getElem? (i := 671) (by decide +kernel), List.mem_of_getElem? (i := 672) (by decide +kernel)⟩
theorem lw_p36 : lw_okq (⟨"RestingBlocksModel", "readsLoad", "()Z"⟩, 27) := ⟨⟨by decide +kernel, by decide +kernel⟩, List.mem_of_getElem? (i := 540) (by decide +kernel), List.mem_of_getElem? (i := 675) (by decide +kernel), List.mem_of_getElem? (i := 676) (by decide +kernel)⟩
theorem lw_p37 : lw_okq (⟨"RestingBlocksModel", "get", "(II)I"⟩, 27) := ⟨⟨by decide +kernel, by decide +kernel⟩, List.mem_of_getElem? (i := 540) (by decide +kernel), List.mem_of_getElem? (i := 679) (by decide +kernel), List.mem_of_getElem? (i := 680) (by decide +kernel)⟩
theorem lw_p38 : lw_okq (⟨"RestingBlocksModel", "takes", "([II)V"⟩, 27) := ⟨⟨by decide +kernel, by decide +kernel⟩, List.mem_of_getElem? (i := 540) (by decide +kernel), List.mem_of_getElem? (i := 683) (by decide +kernel), List.mem_of_getElem? (i := 684) (by decide +kernel)⟩
theorem lw_p39 : lw_okq (⟨"RestingBlocksModel", "keeps", "()V"⟩, 27) := ⟨⟨by decide +kernel, by decide +kernel⟩, List.mem_of_getElem? (i := 540) (by decide +kernel), List.mem_of_getElem? (i := 687) (by decide +kernel), List.mem_of_getElem? (i := 688) (by decide +kernel)⟩
theorem lw_p40 : lw_okq (⟨"RestingBlocksModel", "layAll", "()V"⟩, 27) := ⟨⟨by decide +kernel, by decide +kernel⟩, List.mem_of_getElem? (i := 540) (by decide +kernel), List.mem_of_getElem? (i := 698) (by decide +kernel), List.mem_of_getElem? (i := 699) (by decide +kernel)⟩
theorem lw_p41 : lw_okq (⟨"RestingBlocksModel", "many", "()I"⟩, 27) := ⟨⟨by decide +kernel, by decide +kernel⟩, List.mem_of_getElem? (i := 540) (by decide +kernel), List.mem_of_getElem? (i := 702) (by decide +kernel), List.mem_of_getElem? (i := 703) (by decide +kernel)⟩
theorem lw_p42 : lw_okq (⟨"RestingBlocksModel", "layBlock", "(I)V"⟩, 27) := ⟨⟨by decide +kernel, by decide +kernel⟩, List.mem_of_getElem? (i := 540) (by decide +kernel), List.mem_of_getElem? (i := 706) (by decide +kernel), List.mem_of_getElem? (i := 707) (by decide +kernel)⟩
theorem lw_p43 : lw_okq (⟨"RestingBlocksModel", "doOverlap", "(II)Z"⟩, 27) := ⟨⟨by decide +kernel, by decide +kernel⟩, List.mem_of_getElem? (i := 540) (by decide +kernel), List.mem_of_getElem? (i := 710) (by decide +kernel), List.mem_of_getElem? (i := 711) (by decide +kernel)⟩
theorem lw_p44 : lw_okq (⟨"RestingBlocksModel", "from", "(II)I"⟩, 27) := ⟨⟨by decide +kernel, by decide +kernel⟩, List.mem_of_getElem? (i := 540) (by decide +kernel), List.mem_of_getElem? (i := 714) (by decide +kernel), List.mem_of_getElem? (i := 715) (by decide +kernel)⟩
theorem lw_p45 : lw_okq (⟨"RestingBlocksModel", "to", "(II)I"⟩, 27) := ⟨⟨by decide +kernel, by decide +kernel⟩, List.mem_of_getElem? (i := 540) (by decide +kernel), List.mem_of_getElem? (i := 718) (by decide +kernel), List.mem_of_getElem? (i := 719) (by decide +kernel)⟩
theorem lw_p46 : lw_okq (⟨"RestingBlocksModel", "end", "(I)I"⟩, 27) := ⟨⟨by decide +kernel, by decide +kernel⟩, List.mem_of_getElem? (i := 540) (by decide +kernel), List.mem_of_getElem? (i := 722) (by decide +kernel), List.mem_of_getElem? (i := 723) (by decide +kernel)⟩
theorem lw_p47 : lw_okq (⟨"RestingBlocksModel", "touches", "(III)V"⟩, 27) := ⟨⟨by decide +kernel, by decide +kernel⟩, List.mem_of_getElem? (i := 540) (by decide +kernel), List.mem_of_getElem? (i := 726) (by decide +kernel), List.mem_of_getElem? (i := 727) (by decide +kernel)⟩
def lw_privs_3 : List (MethodName × Nat) := [(⟨"RestingBlocksModel", "readsBlock", "()Z"⟩, 27), (⟨"RestingBlocksModel", "number", "(II)I"⟩, 27), (⟨"RestingBlocksModel", "isFigure", "()Z"⟩, 27), (⟨"RestingBlocksModel", "appends", "(III)V"⟩, 27), (⟨"RestingBlocksModel", "readsLoad", "()Z"⟩, 27), (⟨"RestingBlocksModel", "get", "(II)I"⟩, 27), (⟨"RestingBlocksModel", "takes", "([II)V"⟩, 27), (⟨"RestingBlocksModel", "keeps", "()V"⟩, 27), (⟨"RestingBlocksModel", "layAll", "()V"⟩, 27), (⟨"RestingBlocksModel", "many", "()I"⟩, 27), (⟨"RestingBlocksModel", "layBlock", "(I)V"⟩, 27), (⟨"RestingBlocksModel", "doOverlap", "(II)Z"⟩, 27), (⟨"RestingBlocksModel", "from", "(II)I"⟩, 27), (⟨"RestingBlocksModel", "to", "(II)I"⟩, 27), (⟨"RestingBlocksModel", "end", "(I)I"⟩, 27), (⟨"RestingBlocksModel", "touches", "(III)V"⟩, 27)]
theorem lw_r3 : ∀ q ∈ lw_privs_3, lw_okq q := List.forall_mem_cons.mpr ⟨lw_p32, List.forall_mem_cons.mpr ⟨lw_p33, List.forall_mem_cons.mpr ⟨lw_p34, List.forall_mem_cons.mpr ⟨lw_p35, List.forall_mem_cons.mpr ⟨lw_p36, List.forall_mem_cons.mpr ⟨lw_p37, List.forall_mem_cons.mpr ⟨lw_p38, List.forall_mem_cons.mpr ⟨lw_p39, List.forall_mem_cons.mpr ⟨lw_p40, List.forall_mem_cons.mpr ⟨lw_p41, List.forall_mem_cons.mpr ⟨lw_p42, List.forall_mem_cons.mpr ⟨lw_p43, List.forall_mem_cons.mpr ⟨lw_p44, List.forall_mem_cons.mpr ⟨lw_p45, List.forall_mem_cons.mpr ⟨lw_p46, List.forall_mem_cons.mpr ⟨lw_p47, fun _ h => absurd h List.not_mem_nil⟩⟩⟩⟩⟩⟩⟩⟩⟩⟩⟩⟩⟩⟩⟩⟩
theorem lw_p48 : lw_okq (⟨"RestingBlocksModel", "isBlock", "(I)Z"⟩, 27) := ⟨⟨by decide +kernel, by decide +kernel⟩, List.mem_of_getElem? (i := 540) (by decide +kernel), List.mem_of_getElem? (i := 734) (by decide +kernel), List.mem_of_getElem? (i := 735) (by decide +kernel)⟩
theorem lw_p49 : lw_okq (⟨"RestingBlocksModel", "above", "(I)I"⟩, 27) := ⟨⟨by decide +kernel, by decide +kernel⟩, List.mem_of_getElem? (i := 540) (by decide +kernel), List.mem_of_getElem? (i := 738) (by decide +kernel), List.mem_of_getElem? (i := 739) (by decide +kernel)⟩
theorem lw_p50 : lw_okq (⟨"RestingBlocksModel", "removes", "(I)V"⟩, 27) := ⟨⟨by decide +kernel, by decide +kernel⟩, List.mem_of_getElem? (i := 540) (by decide +kernel), List.mem_of_getElem? (i := 745) (by decide +kernel), List.mem_of_getElem? (i := 746) (by decide +kernel)⟩
theorem lw_p51 : lw_okq (⟨"RestingBlocksModel", "isSpot", "(II)Z"⟩, 27) := ⟨⟨by decide +kernel, by decide +kernel⟩, List.mem_of_getElem? (i := 540) (by decide +kernel), List.mem_of_getElem? (i := 757) (by decide +kernel), List.mem_of_getElem? (i := 758) (by decide +kernel)⟩
theorem lw_p52 : lw_okq (⟨"RestingBlocksModel", "tellBlock", "(II)I"⟩, 27) := ⟨⟨by decide +kernel, by decide +kernel⟩, List.mem_of_getElem? (i := 540) (by decide +kernel), List.mem_of_getElem? (i := 769) (by decide +kernel), List.mem_of_getElem? (i := 770) (by decide +kernel)⟩
theorem lw_p53 : lw_okq (⟨"RestingBlocksModel", "isContact", "(I)Z"⟩, 27) := ⟨⟨by decide +kernel, by decide +kernel⟩, List.mem_of_getElem? (i := 540) (by decide +kernel), List.mem_of_getElem? (i := 777) (by decide +kernel), List.mem_of_getElem? (i := 778) (by decide +kernel)⟩
theorem lw_p54 : lw_okq (⟨"RestingBlocksModel", "isResting", "()Z"⟩, 27) := ⟨⟨by decide +kernel, by decide +kernel⟩, List.mem_of_getElem? (i := 540) (by decide +kernel), List.mem_of_getElem? (i := 785) (by decide +kernel), List.mem_of_getElem? (i := 786) (by decide +kernel)⟩
theorem lw_p55 : lw_okq (⟨"RestingBlocksModel", "all", "()I"⟩, 27) := ⟨⟨by decide +kernel, by decide +kernel⟩, List.mem_of_getElem? (i := 540) (by decide +kernel), List.mem_of_getElem? (i := 789) (by decide +kernel), List.mem_of_getElem? (i := 790) (by decide +kernel)⟩
theorem lw_p56 : lw_okq (⟨"RestingBlocksModel", "canBalance", "(I)Z"⟩, 27) := ⟨⟨by decide +kernel, by decide +kernel⟩, List.mem_of_getElem? (i := 540) (by decide +kernel), List.mem_of_getElem? (i := 793) (by decide +kernel), List.mem_of_getElem? (i := 794) (by decide +kernel)⟩
theorem lw_p57 : lw_okq (⟨"RestingBlocksModel", "layRows", "(IIIZ)V"⟩, 27) := ⟨⟨by decide +kernel, by decide +kernel⟩, List.mem_of_getElem? (i := 540) (by decide +kernel), List.mem_of_getElem? (i := 797) (by decide +kernel), List.mem_of_getElem? (i := 798) (by decide +kernel)⟩
theorem lw_p58 : lw_okq (⟨"RestingBlocksModel", "layRow", "(IIIIZ)V"⟩, 27) := ⟨⟨by decide +kernel, by decide +kernel⟩, List.mem_of_getElem? (i := 540) (by decide +kernel), List.mem_of_getElem? (i := 801) (by decide +kernel), List.mem_of_getElem? (i := 802) (by decide +kernel)⟩
theorem lw_p59 : lw_okq (⟨"RestingBlocksModel", "seeks", "(I)V"⟩, 27) := ⟨⟨by decide +kernel, by decide +kernel⟩, List.mem_of_getElem? (i := 540) (by decide +kernel), List.mem_of_getElem? (i := 806) (by decide +kernel), List.mem_of_getElem? (i := 807) (by decide +kernel)⟩
theorem lw_p60 : lw_okq (⟨"RestingBlocksModel", "solves", "(I)Z"⟩, 27) := ⟨⟨by decide +kernel, by decide +kernel⟩, List.mem_of_getElem? (i := 540) (by decide +kernel), List.mem_of_getElem? (i := 813) (by decide +kernel), List.mem_of_getElem? (i := 814) (by decide +kernel)⟩
theorem lw_p61 : lw_okq (⟨"RestingBlocksModel", "fills", "(I)V"⟩, 27) := ⟨⟨by decide +kernel, by decide +kernel⟩, List.mem_of_getElem? (i := 540) (by decide +kernel), List.mem_of_getElem? (i := 817) (by decide +kernel), List.mem_of_getElem? (i := 818) (by decide +kernel)⟩
theorem lw_p62 : lw_okq (⟨"RestingBlocksModel", "pivot", "(I)I"⟩, 27) := ⟨⟨by decide +kernel, by decide +kernel⟩, List.mem_of_getElem? (i := 540) (by decide +kernel), List.mem_of_getElem? (i := 821) (by decide +kernel), List.mem_of_getElem? (i := 822) (by decide +kernel)⟩
theorem lw_p63 : lw_okq (⟨"RestingBlocksModel", "swaps", "(II)V"⟩, 27) := ⟨⟨by decide +kernel, by decide +kernel⟩, List.mem_of_getElem? (i := 540) (by decide +kernel), List.mem_of_getElem? (i := 825) (by decide +kernel), List.mem_of_getElem? (i := 826) (by decide +kernel)⟩
def lw_privs_4 : List (MethodName × Nat) := [(⟨"RestingBlocksModel", "isBlock", "(I)Z"⟩, 27), (⟨"RestingBlocksModel", "above", "(I)I"⟩, 27), (⟨"RestingBlocksModel", "removes", "(I)V"⟩, 27), (⟨"RestingBlocksModel", "isSpot", "(II)Z"⟩, 27), (⟨"RestingBlocksModel", "tellBlock", "(II)I"⟩, 27), (⟨"RestingBlocksModel", "isContact", "(I)Z"⟩, 27), (⟨"RestingBlocksModel", "isResting", "()Z"⟩, 27), (⟨"RestingBlocksModel", "all", "()I"⟩, 27), (⟨"RestingBlocksModel", "canBalance", "(I)Z"⟩, 27), (⟨"RestingBlocksModel", "layRows", "(IIIZ)V"⟩, 27), (⟨"RestingBlocksModel", "layRow", "(IIIIZ)V"⟩, 27), (⟨"RestingBlocksModel", "seeks", "(I)V"⟩, 27), (⟨"RestingBlocksModel", "solves", "(I)Z"⟩, 27), (⟨"RestingBlocksModel", "fills", "(I)V"⟩, 27), (⟨"RestingBlocksModel", "pivot", "(I)I"⟩, 27), (⟨"RestingBlocksModel", "swaps", "(II)V"⟩, 27)]
theorem lw_r4 : ∀ q ∈ lw_privs_4, lw_okq q := List.forall_mem_cons.mpr ⟨lw_p48, List.forall_mem_cons.mpr ⟨lw_p49, List.forall_mem_cons.mpr ⟨lw_p50, List.forall_mem_cons.mpr ⟨lw_p51, List.forall_mem_cons.mpr ⟨lw_p52, List.forall_mem_cons.mpr ⟨lw_p53, List.forall_mem_cons.mpr ⟨lw_p54, List.forall_mem_cons.mpr ⟨lw_p55, List.forall_mem_cons.mpr ⟨lw_p56, List.forall_mem_cons.mpr ⟨lw_p57, List.forall_mem_cons.mpr ⟨lw_p58, List.forall_mem_cons.mpr ⟨lw_p59, List.forall_mem_cons.mpr ⟨lw_p60, List.forall_mem_cons.mpr ⟨lw_p61, List.forall_mem_cons.mpr ⟨lw_p62, List.forall_mem_cons.mpr ⟨lw_p63, fun _ h => absurd h List.not_mem_nil⟩⟩⟩⟩⟩⟩⟩⟩⟩⟩⟩⟩⟩⟩⟩⟩
theorem lw_p64 : lw_okq (⟨"RestingBlocksModel", "clears", "(IIJ)V"⟩, 27) := ⟨⟨by decide +kernel, by decide +kernel⟩, List.mem_of_getElem? (i := 540) (by decide +kernel), List.mem_of_getElem? (i := 829) (by decide +kernel), List.mem_of_getElem? (i := 830) (by decide +kernel)⟩
theorem lw_p65 : lw_okq (⟨"RestingBlocksModel", "isNoneBelow", "()Z"⟩, 27) := ⟨⟨by decide +kernel, by decide +kernel⟩, List.mem_of_getElem? (i := 540) (by decide +kernel), List.mem_of_getElem? (i := 833) (by decide +kernel), List.mem_of_getElem? (i := 834) (by decide +kernel)⟩
theorem lw_p66 : lw_okq (⟨"RestingBlocksModel", "divisor", "()J"⟩, 27) := ⟨⟨by decide +kernel, by decide +kernel⟩, List.mem_of_getElem? (i := 540) (by decide +kernel), List.mem_of_getElem? (i := 837) (by decide +kernel), List.mem_of_getElem? (i := 838) (by decide +kernel)⟩
theorem lw_p67 : lw_okq (⟨"RestingBlocksModel", "solved", "(II)J"⟩, 27) := ⟨⟨by decide +kernel, by decide +kernel⟩, List.mem_of_getElem? (i := 540) (by decide +kernel), List.mem_of_getElem? (i := 841) (by decide +kernel), List.mem_of_getElem? (i := 842) (by decide +kernel)⟩
theorem lw_p68 : lw_okq (⟨"RestingBlocksModel", "meets", "(JJ)V"⟩, 27) := ⟨⟨by decide +kernel, by decide +kernel⟩, List.mem_of_getElem? (i := 540) (by decide +kernel), List.mem_of_getElem? (i := 845) (by decide +kernel), List.mem_of_getElem? (i := 846) (by decide +kernel)⟩
theorem lw_p69 : lw_okq (⟨"RestingBlocksModel", "told", "(I)J"⟩, 27) := ⟨⟨by decide +kernel, by decide +kernel⟩, List.mem_of_getElem? (i := 540) (by decide +kernel), List.mem_of_getElem? (i := 853) (by decide +kernel), List.mem_of_getElem? (i := 854) (by decide +kernel)⟩
theorem lw_p70 : lw_okq (⟨"RestingBlocksModel", "restsWithout", "(I)Z"⟩, 27) := ⟨⟨by decide +kernel, by decide +kernel⟩, List.mem_of_getElem? (i := 540) (by decide +kernel), List.mem_of_getElem? (i := 878) (by decide +kernel), List.mem_of_getElem? (i := 879) (by decide +kernel)⟩
theorem lw_p71 : lw_okq (⟨"RestingBlocksModel", "contactsNow", "()I"⟩, 27) := ⟨⟨by decide +kernel, by decide +kernel⟩, List.mem_of_getElem? (i := 540) (by decide +kernel), List.mem_of_getElem? (i := 898) (by decide +kernel), List.mem_of_getElem? (i := 899) (by decide +kernel)⟩
theorem lw_p72 : lw_okq (⟨"RestingBlocksModel", "heavy", "()I"⟩, 27) := ⟨⟨by decide +kernel, by decide +kernel⟩, List.mem_of_getElem? (i := 540) (by decide +kernel), List.mem_of_getElem? (i := 902) (by decide +kernel), List.mem_of_getElem? (i := 903) (by decide +kernel)⟩
theorem lw_p73 : lw_okq (⟨"RestingBlocksModel", "highest", "()I"⟩, 27) := ⟨⟨by decide +kernel, by decide +kernel⟩, List.mem_of_getElem? (i := 540) (by decide +kernel), List.mem_of_getElem? (i := 906) (by decide +kernel), List.mem_of_getElem? (i := 907) (by decide +kernel)⟩
def lw_privs_5 : List (MethodName × Nat) := [(⟨"RestingBlocksModel", "clears", "(IIJ)V"⟩, 27), (⟨"RestingBlocksModel", "isNoneBelow", "()Z"⟩, 27), (⟨"RestingBlocksModel", "divisor", "()J"⟩, 27), (⟨"RestingBlocksModel", "solved", "(II)J"⟩, 27), (⟨"RestingBlocksModel", "meets", "(JJ)V"⟩, 27), (⟨"RestingBlocksModel", "told", "(I)J"⟩, 27), (⟨"RestingBlocksModel", "restsWithout", "(I)Z"⟩, 27), (⟨"RestingBlocksModel", "contactsNow", "()I"⟩, 27), (⟨"RestingBlocksModel", "heavy", "()I"⟩, 27), (⟨"RestingBlocksModel", "highest", "()I"⟩, 27)]
theorem lw_r5 : ∀ q ∈ lw_privs_5, lw_okq q := List.forall_mem_cons.mpr ⟨lw_p64, List.forall_mem_cons.mpr ⟨lw_p65, List.forall_mem_cons.mpr ⟨lw_p66, List.forall_mem_cons.mpr ⟨lw_p67, List.forall_mem_cons.mpr ⟨lw_p68, List.forall_mem_cons.mpr ⟨lw_p69, List.forall_mem_cons.mpr ⟨lw_p70, List.forall_mem_cons.mpr ⟨lw_p71, List.forall_mem_cons.mpr ⟨lw_p72, List.forall_mem_cons.mpr ⟨lw_p73, fun _ h => absurd h List.not_mem_nil⟩⟩⟩⟩⟩⟩⟩⟩⟩⟩
def lw_privs : List (MethodName × Nat) := lw_privs_1 ++ (lw_privs_2 ++ (lw_privs_3 ++ (lw_privs_4 ++ (lw_privs_5))))
def lw_tbl : List Cond := k2_sels lw_privs ++ tables_1
theorem lw_privs_ok : ∀ q ∈ lw_privs, lw_okq q := by
  show ∀ q ∈ lw_privs_1 ++ (lw_privs_2 ++ (lw_privs_3 ++ (lw_privs_4 ++ (lw_privs_5)))), lw_okq q
  exact List.forall_mem_append.mpr ⟨lw_r1, List.forall_mem_append.mpr ⟨lw_r2, List.forall_mem_append.mpr ⟨lw_r3, List.forall_mem_append.mpr ⟨lw_r4, lw_r5⟩⟩⟩⟩
end
section
def RX0 : String := "RestingBlocks$Balance"
def TX0 : u_T := fun k => match k with
  | 0 => ("RestingBlocks$Balance", "cells", "[[J", true)
  | 1 => ("RestingBlocks$Balance", "givenBy", "[I", true)
  | 2 => ("RestingBlocks$Balance", "blockRow", "[I", true)
  | 3 => ("RestingBlocks$Balance", "rows", "I", false)
  | 4 => ("RestingBlocks$Balance", "unknowns", "I", false)
  | _ => ("RestingBlocks$Balance", "divisor", "J", false)
def tyX0 : Nat → FieldType := fun k => match k with
  | 0 => .array (.array .long)
  | 1 => .array .int
  | 2 => .array .int
  | 3 => .int
  | 4 => .int
  | _ => .long
theorem nmX0 : ∀ a, a < 6 → ∀ b, b < 6 → a ≠ b → (TX0 a).2.1 ≠ (TX0 b).2.1 := by decide +kernel
theorem tyX0_ok : ∀ k, k < 6 → parseFieldDescriptor (TX0 k).2.2.1 = some (tyX0 k) := by decide +kernel
theorem lyX0_0 : u_lay RX0 TX0 0 ∈ lw_tbl := List.mem_of_getElem? (i := 156) (by decide +kernel)
theorem lyX0_1 : u_lay RX0 TX0 1 ∈ lw_tbl := List.mem_of_getElem? (i := 158) (by decide +kernel)
theorem lyX0_2 : u_lay RX0 TX0 2 ∈ lw_tbl := List.mem_of_getElem? (i := 160) (by decide +kernel)
theorem lyX0_3 : u_lay RX0 TX0 3 ∈ lw_tbl := List.mem_of_getElem? (i := 162) (by decide +kernel)
theorem lyX0_4 : u_lay RX0 TX0 4 ∈ lw_tbl := List.mem_of_getElem? (i := 164) (by decide +kernel)
theorem lyX0_5 : u_lay RX0 TX0 5 ∈ lw_tbl := List.mem_of_getElem? (i := 166) (by decide +kernel)
theorem inX0 : ∀ w ∈ u_ws RX0 TX0 6, w ∈ lw_tbl := by
  intro w hw
  obtain ⟨k, hk, rfl⟩ := List.mem_map.mp hw
  have hk := List.mem_range.mp hk
  match k, hk with
  | 0, _ => exact lyX0_0
  | 1, _ => exact lyX0_1
  | 2, _ => exact lyX0_2
  | 3, _ => exact lyX0_3
  | 4, _ => exact lyX0_4
  | 5, _ => exact lyX0_5
  | k + 6, hk => exact absurd hk (by omega)
theorem iniX0 : Cond.initialized RX0 ∈ lw_tbl := List.mem_of_getElem? (i := 78) (by decide +kernel)
theorem insX0 : Cond.instantiable RX0 6 ∈ lw_tbl := List.mem_of_getElem? (i := 143) (by decide +kernel)
def RX1 : String := "RestingBlocks$Layout"
def TX1 : u_T := fun k => match k with
  | 0 => ("RestingBlocks$Layout", "lefts", "[I", true)
  | 1 => ("RestingBlocks$Layout", "rights", "[I", true)
  | 2 => ("RestingBlocks$Layout", "levels", "[I", true)
  | 3 => ("RestingBlocks$Layout", "under", "[I", true)
  | 4 => ("RestingBlocks$Layout", "over", "[I", true)
  | 5 => ("RestingBlocks$Layout", "uppers", "[I", true)
  | 6 => ("RestingBlocks$Layout", "lowers", "[I", true)
  | 7 => ("RestingBlocks$Layout", "places", "[I", true)
  | 8 => ("RestingBlocks$Layout", "blocks", "I", false)
  | _ => ("RestingBlocks$Layout", "contacts", "I", false)
def tyX1 : Nat → FieldType := fun k => match k with
  | 0 => .array .int
  | 1 => .array .int
  | 2 => .array .int
  | 3 => .array .int
  | 4 => .array .int
  | 5 => .array .int
  | 6 => .array .int
  | 7 => .array .int
  | 8 => .int
  | _ => .int
theorem nmX1 : ∀ a, a < 10 → ∀ b, b < 10 → a ≠ b → (TX1 a).2.1 ≠ (TX1 b).2.1 := by decide +kernel
theorem tyX1_ok : ∀ k, k < 10 → parseFieldDescriptor (TX1 k).2.2.1 = some (tyX1 k) := by decide +kernel
theorem lyX1_0 : u_lay RX1 TX1 0 ∈ lw_tbl := List.mem_of_getElem? (i := 121) (by decide +kernel)
theorem lyX1_1 : u_lay RX1 TX1 1 ∈ lw_tbl := List.mem_of_getElem? (i := 123) (by decide +kernel)
theorem lyX1_2 : u_lay RX1 TX1 2 ∈ lw_tbl := List.mem_of_getElem? (i := 125) (by decide +kernel)
theorem lyX1_3 : u_lay RX1 TX1 3 ∈ lw_tbl := List.mem_of_getElem? (i := 127) (by decide +kernel)
theorem lyX1_4 : u_lay RX1 TX1 4 ∈ lw_tbl := List.mem_of_getElem? (i := 129) (by decide +kernel)
theorem lyX1_5 : u_lay RX1 TX1 5 ∈ lw_tbl := List.mem_of_getElem? (i := 131) (by decide +kernel)
theorem lyX1_6 : u_lay RX1 TX1 6 ∈ lw_tbl := List.mem_of_getElem? (i := 133) (by decide +kernel)
theorem lyX1_7 : u_lay RX1 TX1 7 ∈ lw_tbl := List.mem_of_getElem? (i := 135) (by decide +kernel)
theorem lyX1_8 : u_lay RX1 TX1 8 ∈ lw_tbl := List.mem_of_getElem? (i := 137) (by decide +kernel)
theorem lyX1_9 : u_lay RX1 TX1 9 ∈ lw_tbl := List.mem_of_getElem? (i := 139) (by decide +kernel)
theorem inX1 : ∀ w ∈ u_ws RX1 TX1 10, w ∈ lw_tbl := by
  intro w hw
  obtain ⟨k, hk, rfl⟩ := List.mem_map.mp hw
  have hk := List.mem_range.mp hk
  match k, hk with
  | 0, _ => exact lyX1_0
  | 1, _ => exact lyX1_1
  | 2, _ => exact lyX1_2
  | 3, _ => exact lyX1_3
  | 4, _ => exact lyX1_4
  | 5, _ => exact lyX1_5
  | 6, _ => exact lyX1_6
  | 7, _ => exact lyX1_7
  | 8, _ => exact lyX1_8
  | 9, _ => exact lyX1_9
  | k + 10, hk => exact absurd hk (by omega)
theorem iniX1 : Cond.initialized RX1 ∈ lw_tbl := List.mem_of_getElem? (i := 77) (by decide +kernel)
theorem insX1 : Cond.instantiable RX1 10 ∈ lw_tbl := List.mem_of_getElem? (i := 106) (by decide +kernel)
def RX2 : String := "RestingBlocks$Pile"
def TX2 : u_T := fun k => match k with
  | _ => ("RestingBlocks$Pile", "cells", "[I", true)
def tyX2 : Nat → FieldType := fun k => match k with
  | _ => .array .int
theorem nmX2 : ∀ a, a < 1 → ∀ b, b < 1 → a ≠ b → (TX2 a).2.1 ≠ (TX2 b).2.1 := by decide +kernel
theorem tyX2_ok : ∀ k, k < 1 → parseFieldDescriptor (TX2 k).2.2.1 = some (tyX2 k) := by decide +kernel
theorem lyX2_0 : u_lay RX2 TX2 0 ∈ lw_tbl := List.mem_of_getElem? (i := 101) (by decide +kernel)
theorem inX2 : ∀ w ∈ u_ws RX2 TX2 1, w ∈ lw_tbl := by
  intro w hw
  obtain ⟨k, hk, rfl⟩ := List.mem_map.mp hw
  have hk := List.mem_range.mp hk
  match k, hk with
  | 0, _ => exact lyX2_0
  | k + 1, hk => exact absurd hk (by omega)
theorem iniX2 : Cond.initialized RX2 ∈ lw_tbl := List.mem_of_getElem? (i := 76) (by decide +kernel)
theorem insX2 : Cond.instantiable RX2 1 ∈ lw_tbl := List.mem_of_getElem? (i := 94) (by decide +kernel)
def RX3 : String := "RestingBlocks$Shelf"
def TX3 : u_T := fun k => match k with
  | 0 => ("RestingBlocks$Shelf", "places", "I", true)
  | _ => ("RestingBlocks$Shelf", "store", "[I", true)
def tyX3 : Nat → FieldType := fun k => match k with
  | 0 => .int
  | _ => .array .int
theorem nmX3 : ∀ a, a < 2 → ∀ b, b < 2 → a ≠ b → (TX3 a).2.1 ≠ (TX3 b).2.1 := by decide +kernel
theorem tyX3_ok : ∀ k, k < 2 → parseFieldDescriptor (TX3 k).2.2.1 = some (tyX3 k) := by decide +kernel
theorem lyX3_0 : u_lay RX3 TX3 0 ∈ lw_tbl := List.mem_of_getElem? (i := 198) (by decide +kernel)
theorem lyX3_1 : u_lay RX3 TX3 1 ∈ lw_tbl := List.mem_of_getElem? (i := 200) (by decide +kernel)
theorem inX3 : ∀ w ∈ u_ws RX3 TX3 2, w ∈ lw_tbl := by
  intro w hw
  obtain ⟨k, hk, rfl⟩ := List.mem_map.mp hw
  have hk := List.mem_range.mp hk
  match k, hk with
  | 0, _ => exact lyX3_0
  | 1, _ => exact lyX3_1
  | k + 2, hk => exact absurd hk (by omega)
theorem iniX3 : Cond.initialized RX3 ∈ lw_tbl := List.mem_of_getElem? (i := 80) (by decide +kernel)
theorem insX3 : Cond.instantiable RX3 2 ∈ lw_tbl := List.mem_of_getElem? (i := 188) (by decide +kernel)
def RX4 : String := "RestingBlocks$Text"
def TX4 : u_T := fun k => match k with
  | 0 => ("RestingBlocks$Text", "letters", "[S", true)
  | 1 => ("RestingBlocks$Text", "length", "I", false)
  | _ => ("RestingBlocks$Text", "at", "I", false)
def tyX4 : Nat → FieldType := fun k => match k with
  | 0 => .array .short
  | 1 => .int
  | _ => .int
theorem nmX4 : ∀ a, a < 3 → ∀ b, b < 3 → a ≠ b → (TX4 a).2.1 ≠ (TX4 b).2.1 := by decide +kernel
theorem tyX4_ok : ∀ k, k < 3 → parseFieldDescriptor (TX4 k).2.2.1 = some (tyX4 k) := by decide +kernel
theorem lyX4_0 : u_lay RX4 TX4 0 ∈ lw_tbl := List.mem_of_getElem? (i := 179) (by decide +kernel)
theorem lyX4_1 : u_lay RX4 TX4 1 ∈ lw_tbl := List.mem_of_getElem? (i := 181) (by decide +kernel)
theorem lyX4_2 : u_lay RX4 TX4 2 ∈ lw_tbl := List.mem_of_getElem? (i := 183) (by decide +kernel)
theorem inX4 : ∀ w ∈ u_ws RX4 TX4 3, w ∈ lw_tbl := by
  intro w hw
  obtain ⟨k, hk, rfl⟩ := List.mem_map.mp hw
  have hk := List.mem_range.mp hk
  match k, hk with
  | 0, _ => exact lyX4_0
  | 1, _ => exact lyX4_1
  | 2, _ => exact lyX4_2
  | k + 3, hk => exact absurd hk (by omega)
theorem iniX4 : Cond.initialized RX4 ∈ lw_tbl := List.mem_of_getElem? (i := 79) (by decide +kernel)
theorem insX4 : Cond.instantiable RX4 3 ∈ lw_tbl := List.mem_of_getElem? (i := 171) (by decide +kernel)
def RX5 : String := "RestingBlocks"
def TX5 : u_T := fun k => match k with
  | 0 => ("RestingBlocks", "pile", "LRestingBlocks$Pile;", true)
  | 1 => ("RestingBlocks", "trial", "LRestingBlocks$Pile;", true)
  | 2 => ("RestingBlocks", "layout", "LRestingBlocks$Layout;", true)
  | 3 => ("RestingBlocks", "balance", "LRestingBlocks$Balance;", true)
  | 4 => ("RestingBlocks", "text", "LRestingBlocks$Text;", true)
  | 5 => ("RestingBlocks", "past", "LRestingBlocks$Shelf;", true)
  | 6 => ("RestingBlocks", "images", "LRestingBlocks$Shelf;", true)
  | 7 => ("RestingBlocks", "kept", "[Z", true)
  | _ => ("RestingBlocks", "undoable", "I", false)
def tyX5 : Nat → FieldType := fun k => match k with
  | 0 => .object "RestingBlocks$Pile"
  | 1 => .object "RestingBlocks$Pile"
  | 2 => .object "RestingBlocks$Layout"
  | 3 => .object "RestingBlocks$Balance"
  | 4 => .object "RestingBlocks$Text"
  | 5 => .object "RestingBlocks$Shelf"
  | 6 => .object "RestingBlocks$Shelf"
  | 7 => .array .boolean
  | _ => .int
theorem nmX5 : ∀ a, a < 9 → ∀ b, b < 9 → a ≠ b → (TX5 a).2.1 ≠ (TX5 b).2.1 := by decide +kernel
theorem tyX5_ok : ∀ k, k < 9 → parseFieldDescriptor (TX5 k).2.2.1 = some (tyX5 k) := by decide +kernel
theorem lyX5_0 : u_lay RX5 TX5 0 ∈ lw_tbl := List.mem_of_getElem? (i := 212) (by decide +kernel)
theorem lyX5_1 : u_lay RX5 TX5 1 ∈ lw_tbl := List.mem_of_getElem? (i := 214) (by decide +kernel)
theorem lyX5_2 : u_lay RX5 TX5 2 ∈ lw_tbl := List.mem_of_getElem? (i := 216) (by decide +kernel)
theorem lyX5_3 : u_lay RX5 TX5 3 ∈ lw_tbl := List.mem_of_getElem? (i := 218) (by decide +kernel)
theorem lyX5_4 : u_lay RX5 TX5 4 ∈ lw_tbl := List.mem_of_getElem? (i := 220) (by decide +kernel)
theorem lyX5_5 : u_lay RX5 TX5 5 ∈ lw_tbl := List.mem_of_getElem? (i := 222) (by decide +kernel)
theorem lyX5_6 : u_lay RX5 TX5 6 ∈ lw_tbl := List.mem_of_getElem? (i := 224) (by decide +kernel)
theorem lyX5_7 : u_lay RX5 TX5 7 ∈ lw_tbl := List.mem_of_getElem? (i := 226) (by decide +kernel)
theorem lyX5_8 : u_lay RX5 TX5 8 ∈ lw_tbl := List.mem_of_getElem? (i := 228) (by decide +kernel)
theorem inX5 : ∀ w ∈ u_ws RX5 TX5 9, w ∈ lw_tbl := by
  intro w hw
  obtain ⟨k, hk, rfl⟩ := List.mem_map.mp hw
  have hk := List.mem_range.mp hk
  match k, hk with
  | 0, _ => exact lyX5_0
  | 1, _ => exact lyX5_1
  | 2, _ => exact lyX5_2
  | 3, _ => exact lyX5_3
  | 4, _ => exact lyX5_4
  | 5, _ => exact lyX5_5
  | 6, _ => exact lyX5_6
  | 7, _ => exact lyX5_7
  | 8, _ => exact lyX5_8
  | k + 9, hk => exact absurd hk (by omega)
theorem iniX5 : Cond.initialized RX5 ∈ lw_tbl := List.mem_of_getElem? (i := 75) (by decide +kernel)
theorem insX5 : Cond.instantiable RX5 9 ∈ lw_tbl := List.mem_of_getElem? (i := 86) (by decide +kernel)
def RX6 : String := "RestingBlocksModel"
def TX6 : u_T := fun k => match k with
  | 0 => ("RestingBlocksModel", "now", "[I", true)
  | 1 => ("RestingBlocksModel", "past", "[I", true)
  | 2 => ("RestingBlocksModel", "undos", "I", false)
  | 3 => ("RestingBlocksModel", "images", "[I", true)
  | 4 => ("RestingBlocksModel", "isKept", "[Z", true)
  | 5 => ("RestingBlocksModel", "text", "[I", true)
  | 6 => ("RestingBlocksModel", "letters", "I", false)
  | 7 => ("RestingBlocksModel", "levels", "[I", true)
  | 8 => ("RestingBlocksModel", "under", "[I", true)
  | 9 => ("RestingBlocksModel", "contacts", "I", false)
  | 10 => ("RestingBlocksModel", "of", "[I", true)
  | 11 => ("RestingBlocksModel", "on", "[I", true)
  | 12 => ("RestingBlocksModel", "place", "[I", true)
  | 13 => ("RestingBlocksModel", "rows", "I", false)
  | 14 => ("RestingBlocksModel", "columns", "I", false)
  | 15 => ("RestingBlocksModel", "matrix", "[J", true)
  | 16 => ("RestingBlocksModel", "due", "[J", true)
  | 17 => ("RestingBlocksModel", "work", "[J", true)
  | 18 => ("RestingBlocksModel", "isFound", "Z", false)
  | 19 => ("RestingBlocksModel", "leastUp", "J", false)
  | 20 => ("RestingBlocksModel", "leastLow", "J", false)
  | 21 => ("RestingBlocksModel", "mostUp", "J", false)
  | 22 => ("RestingBlocksModel", "mostLow", "J", false)
  | 23 => ("RestingBlocksModel", "at", "I", false)
  | 24 => ("RestingBlocksModel", "mark", "I", false)
  | 25 => ("RestingBlocksModel", "items", "I", false)
  | _ => ("RestingBlocksModel", "aside", "[I", true)
def tyX6 : Nat → FieldType := fun k => match k with
  | 0 => .array .int
  | 1 => .array .int
  | 2 => .int
  | 3 => .array .int
  | 4 => .array .boolean
  | 5 => .array .int
  | 6 => .int
  | 7 => .array .int
  | 8 => .array .int
  | 9 => .int
  | 10 => .array .int
  | 11 => .array .int
  | 12 => .array .int
  | 13 => .int
  | 14 => .int
  | 15 => .array .long
  | 16 => .array .long
  | 17 => .array .long
  | 18 => .boolean
  | 19 => .long
  | 20 => .long
  | 21 => .long
  | 22 => .long
  | 23 => .int
  | 24 => .int
  | 25 => .int
  | _ => .array .int
theorem nmX6 : ∀ a, a < 27 → ∀ b, b < 27 → a ≠ b → (TX6 a).2.1 ≠ (TX6 b).2.1 := by decide +kernel
theorem tyX6_ok : ∀ k, k < 27 → parseFieldDescriptor (TX6 k).2.2.1 = some (tyX6 k) := by decide +kernel
theorem lyX6_0 : u_lay RX6 TX6 0 ∈ lw_tbl := List.mem_of_getElem? (i := 646) (by decide +kernel)
theorem lyX6_1 : u_lay RX6 TX6 1 ∈ lw_tbl := List.mem_of_getElem? (i := 648) (by decide +kernel)
theorem lyX6_2 : u_lay RX6 TX6 2 ∈ lw_tbl := List.mem_of_getElem? (i := 650) (by decide +kernel)
theorem lyX6_3 : u_lay RX6 TX6 3 ∈ lw_tbl := List.mem_of_getElem? (i := 652) (by decide +kernel)
theorem lyX6_4 : u_lay RX6 TX6 4 ∈ lw_tbl := List.mem_of_getElem? (i := 654) (by decide +kernel)
theorem lyX6_5 : u_lay RX6 TX6 5 ∈ lw_tbl := List.mem_of_getElem? (i := 656) (by decide +kernel)
theorem lyX6_6 : u_lay RX6 TX6 6 ∈ lw_tbl := List.mem_of_getElem? (i := 658) (by decide +kernel)
theorem lyX6_7 : u_lay RX6 TX6 7 ∈ lw_tbl := List.mem_of_getElem? (i := 660) (by decide +kernel)
theorem lyX6_8 : u_lay RX6 TX6 8 ∈ lw_tbl := List.mem_of_getElem? (i := 662) (by decide +kernel)
theorem lyX6_9 : u_lay RX6 TX6 9 ∈ lw_tbl := List.mem_of_getElem? (i := 664) (by decide +kernel)
theorem lyX6_10 : u_lay RX6 TX6 10 ∈ lw_tbl := List.mem_of_getElem? (i := 666) (by decide +kernel)
theorem lyX6_11 : u_lay RX6 TX6 11 ∈ lw_tbl := List.mem_of_getElem? (i := 668) (by decide +kernel)
theorem lyX6_12 : u_lay RX6 TX6 12 ∈ lw_tbl := List.mem_of_getElem? (i := 670) (by decide +kernel)
theorem lyX6_13 : u_lay RX6 TX6 13 ∈ lw_tbl := List.mem_of_getElem? (i := 672) (by decide +kernel)
theorem lyX6_14 : u_lay RX6 TX6 14 ∈ lw_tbl := List.mem_of_getElem? (i := 674) (by decide +kernel)
theorem lyX6_15 : u_lay RX6 TX6 15 ∈ lw_tbl := List.mem_of_getElem? (i := 676) (by decide +kernel)
theorem lyX6_16 : u_lay RX6 TX6 16 ∈ lw_tbl := List.mem_of_getElem? (i := 678) (by decide +kernel)
theorem lyX6_17 : u_lay RX6 TX6 17 ∈ lw_tbl := List.mem_of_getElem? (i := 680) (by decide +kernel)
theorem lyX6_18 : u_lay RX6 TX6 18 ∈ lw_tbl := List.mem_of_getElem? (i := 682) (by decide +kernel)
theorem lyX6_19 : u_lay RX6 TX6 19 ∈ lw_tbl := List.mem_of_getElem? (i := 684) (by decide +kernel)
theorem lyX6_20 : u_lay RX6 TX6 20 ∈ lw_tbl := List.mem_of_getElem? (i := 686) (by decide +kernel)
theorem lyX6_21 : u_lay RX6 TX6 21 ∈ lw_tbl := List.mem_of_getElem? (i := 688) (by decide +kernel)
theorem lyX6_22 : u_lay RX6 TX6 22 ∈ lw_tbl := List.mem_of_getElem? (i := 690) (by decide +kernel)
theorem lyX6_23 : u_lay RX6 TX6 23 ∈ lw_tbl := List.mem_of_getElem? (i := 692) (by decide +kernel)
theorem lyX6_24 : u_lay RX6 TX6 24 ∈ lw_tbl := List.mem_of_getElem? (i := 694) (by decide +kernel)
theorem lyX6_25 : u_lay RX6 TX6 25 ∈ lw_tbl := List.mem_of_getElem? (i := 696) (by decide +kernel)
theorem lyX6_26 : u_lay RX6 TX6 26 ∈ lw_tbl := List.mem_of_getElem? (i := 698) (by decide +kernel)
theorem inX6 : ∀ w ∈ u_ws RX6 TX6 27, w ∈ lw_tbl := by
  intro w hw
  obtain ⟨k, hk, rfl⟩ := List.mem_map.mp hw
  have hk := List.mem_range.mp hk
  match k, hk with
  | 0, _ => exact lyX6_0
  | 1, _ => exact lyX6_1
  | 2, _ => exact lyX6_2
  | 3, _ => exact lyX6_3
  | 4, _ => exact lyX6_4
  | 5, _ => exact lyX6_5
  | 6, _ => exact lyX6_6
  | 7, _ => exact lyX6_7
  | 8, _ => exact lyX6_8
  | 9, _ => exact lyX6_9
  | 10, _ => exact lyX6_10
  | 11, _ => exact lyX6_11
  | 12, _ => exact lyX6_12
  | 13, _ => exact lyX6_13
  | 14, _ => exact lyX6_14
  | 15, _ => exact lyX6_15
  | 16, _ => exact lyX6_16
  | 17, _ => exact lyX6_17
  | 18, _ => exact lyX6_18
  | 19, _ => exact lyX6_19
  | 20, _ => exact lyX6_20
  | 21, _ => exact lyX6_21
  | 22, _ => exact lyX6_22
  | 23, _ => exact lyX6_23
  | 24, _ => exact lyX6_24
  | 25, _ => exact lyX6_25
  | 26, _ => exact lyX6_26
  | k + 27, hk => exact absurd hk (by omega)
theorem iniX6 : Cond.initialized RX6 ∈ lw_tbl := List.mem_of_getElem? (i := 82) (by decide +kernel)
theorem insX6 : Cond.instantiable RX6 27 ∈ lw_tbl := List.mem_of_getElem? (i := 614) (by decide +kernel)
def RJ6 : String := "java/lang/Integer"
def RJ9 : String := "java/lang/Math"
def RL : String := "RestingBlocksLaw"
theorem iniJ6 : Cond.initialized RJ6 ∈ lw_tbl := List.mem_of_getElem? (i := 84) (by decide +kernel)
theorem iniJ9 : Cond.initialized RJ9 ∈ lw_tbl := List.mem_of_getElem? (i := 81) (by decide +kernel)
abbrev mc_cl : List vw_C := [(RX0, TX0, 6), (RX1, TX1, 10), (RX2, TX2, 1), (RX3, TX3, 2), (RX4, TX4, 3), (RX5, TX5, 9), (RX6, TX6, 27)]
end
section
/-! ===== THE PICTURE OF A RUN: abstract cells by number (1, 2 ..; 0 is the script), what they hold, and how they lie in the heap ===== -/
/-- a cell: an object (number of its class, its fields), an array of ints (or shorts, booleans), of longs, of rows of longs -/
abbrev mc_Cell : Type := (Nat × List Value) ⊕ ((FieldType × Nat × (Nat → Int32)) ⊕ ((Nat × (Nat → Int64)) ⊕ (Nat × (Nat → Option Nat))))
abbrev mc_H : Type := List mc_Cell
/-- a method: its name, its bytes, how many locals, what it returns -/
abbrev mc_M : Type := MethodName × ByteArray × Nat × Option FieldType
/-- what is fixed in a run: classes and slots, array classes, the script's address, the first new address -/
abbrev mc_G : Type := va_G × (FieldType → ClassId) × Nat × Nat
def mc_ad (G : mc_G) : Nat → Nat
  | 0 => G.2.2.1
  | k + 1 => G.2.2.2 + k
def mc_cv (G : mc_G) : Value → Value
  | .ref k => .ref (mc_ad G k)
  | v => v
def mc_E (G : mc_G) : mc_Cell → va_E
  | .inl (ci, fs) => .inr (ci, fs.map (mc_cv G))
  | .inr (.inl (ty, n, f)) => .inl (G.2.1 ty, n, .inl f)
  | .inr (.inr (.inl (n, f))) => .inl (G.2.1 .long, n, .inr (.inl f))
  | .inr (.inr (.inr (n, f))) => .inl (G.2.1 (.array .long), n, .inr (.inr (.inr (.inr (fun j => (f j).map (mc_ad G))))))
def mc_W (G : mc_G) (h : mc_H) : va_W := h.mapIdx (fun k c => (mc_ad G (k + 1), mc_E G c))
def mc_tys (G : mc_G) : List (ClassId × FieldType) := [(G.2.1 .int, .int), (G.2.1 .long, .long), (G.2.1 .short, .short), (G.2.1 .boolean, .boolean), (G.2.1 (.array .long), .array .long)]
def mc_A (G : mc_G) : Nat → Prop := fun q => G.2.2.2 ≤ q
def mc_K (G : mc_G) (s : State) : Prop := va_K G.1 mc_cl (mc_tys G) s
def mc_P (G : mc_G) (h : mc_H) (H : Heap) : Prop := va_P G.1 mc_cl (mc_W G h) H ∧ H.size = G.2.2.2 + h.length
def mc_S (G : mc_G) (s : State) (H : Heap) (locs : List Loc) : Prop := va_S (mc_A G) s.heap H locs ∧ G.2.2.2 ≤ s.heap.size
/-- all words of the tables, for whatever arguments -/
def mc_Wd (U : State) : Prop := ∀ (a : Array Value) (w : Cond), w ∈ lw_tbl → w.before a U = true
/-- locals: what the list says of them ('.retAddr 0': nothing) -/
def mc_lv (G : mc_G) (loc : List Value) : List (Nat × Value) := (List.range loc.length).filterMap (fun i => match loc[i]? with
  | some v => if v = .retAddr 0 then none else some (i, mc_cv G v)
  | none => none)
def mc_LO (G : mc_G) (ls : Array Slot) (nL : Nat) (loc : List Value) : Prop := lv_has ls nL (mc_lv G loc) ∧ loc.length = nL
def mc_C (Mt : mc_M) (p : Program) (s : State) (m : MethodId) (meth : Method) (c : Code) : Prop :=
  p.tables.exec = Jvm.exec ∧ c.code = Mt.2.1 ∧ c.maxLocals = Mt.2.2.1 ∧ meth.sig.returnType = Mt.2.2.2 ∧ meth.locks = false ∧ s.vm.findClass Mt.1.cls = some m.cls ∧ mc_Wd s ∧ (Mt.1.name = "<init>" → meth.name = "<init>")
/-- the script, where the frame is the law's -/
def mc_X (G : mc_G) (s : State) : Option (Nat × (Nat → Int32)) → Prop
  | none => True
  | some (L, xs) => va_X G.2.2.1 L xs s s.heap ∧ G.2.2.1 < G.2.2.2
def mc_ret (Mt : mc_M) (pc : Nat) : Option Value → Prop
  | none => Mt.2.2.2 = none ∧ decode Mt.2.1 pc = .ok (.return_, 1)
  | some (.int v) => ∃ ty, Mt.2.2.2 = some ty ∧ narrow ty (.int v) = .int v ∧ decode Mt.2.1 pc = .ok (.ireturn, 1)
  | some (.long _) => Mt.2.2.2 = some .long ∧ decode Mt.2.1 pc = .ok (.lreturn, 1)
  | some _ => False
/-- FROM HERE THE METHOD RETURNS: at pc, with these locals, stack, cells, it returns r with the cells h', at most d frames deep, having made nc cells of ns slots -/
def mc_V (Mt : mc_M) (d : Nat) (scr : Option (Nat × (Nat → Int32))) (pc : Nat) (loc stk : List Value) (h : mc_H) (r : Option Value) (h' : mc_H) (nc ns : Nat) : Prop :=
  ∀ (p : Program) (l : Launch) (e : Env) (R : Room) (s : State) (m : MethodId) (args : Array Value) (below : List Frame) (meth : Method) (c : Code) (H : Heap) (locs : List Loc) (cells slots : Nat) (Q : State → Prop) (ls : Array Slot) (G : mc_G),
    mc_C Mt p s m meth c → mc_K G s → mc_X G s scr → mc_P G h H → mc_S G s H locs → mc_LO G ls Mt.2.2.1 loc → (d ≤ R.frames ∧ 35 * d ≤ R.locals ∧ cells + nc ≤ R.cells ∧ slots + ns ≤ R.slots) →
    (∀ (H' : Heap) (locs' : List Loc) (pc' : Nat) (ls' : Array Slot), mc_P G h' H' → mc_S G s H' locs' → mc_ret Mt pc' r → W p l e R s m args below meth c H' locs' (cells + nc) (slots + ns) Q (F0 m pc' ls' (r.toList.map (mc_cv G)))) →
    W p l e R s m args below meth c H locs cells slots Q (F0 m pc ls (stk.map (mc_cv G)))
/-! plain facts of the picture -/
theorem mc_W_get {G : mc_G} {h : mc_H} {a : Nat} {x : mc_Cell} (hx : h[a]? = some x) : (mc_W G h)[a]? = some (mc_ad G (a + 1), mc_E G x) := by
  unfold mc_W
  rw [List.getElem?_mapIdx, hx]
  rfl
theorem mc_W_set {G : mc_G} {h : mc_H} {a : Nat} (x : mc_Cell) : (mc_W G h).set a (mc_ad G (a + 1), mc_E G x) = mc_W G (h.set a x) := by
  unfold mc_W
  apply List.ext_getElem?
  intro i
  rw [List.getElem?_set, List.getElem?_mapIdx, List.getElem?_mapIdx, List.getElem?_set, List.length_mapIdx]
  by_cases hi : a = i
  · subst hi
    by_cases hl : a < h.length <;> simp [hl]
  · simp [hi]
theorem mc_D (G : mc_G) (h : mc_H) : va_D (mc_A G) (mc_W G h) := by
  have at' : ∀ (k : Nat) (q : Nat × va_E), (mc_W G h)[k]? = some q → q.1 = G.2.2.2 + k := by
    intro k q hq
    unfold mc_W at hq
    rw [List.getElem?_mapIdx] at hq
    cases hk : h[k]? with
    | none => rw [hk] at hq; cases hq
    | some x => rw [hk] at hq; cases hq; rfl
  refine ⟨fun i j p q hi hj e => ?_, fun k q hq => ?_⟩
  · have h1 := at' i p hi
    have h2 := at' j q hj
    omega
  · have h1 := at' k q hq
    show G.2.2.2 ≤ q.1
    omega
theorem mc_lv_mem {G : mc_G} {loc : List Value} {q : Nat × Value} : q ∈ mc_lv G loc ↔ ∃ v, loc[q.1]? = some v ∧ v ≠ .retAddr 0 ∧ q.2 = mc_cv G v := by
  unfold mc_lv
  rw [List.mem_filterMap]
  constructor
  · rintro ⟨i, -, hi⟩
    cases hv : loc[i]? with
    | none => rw [hv] at hi; cases hi
    | some v =>
      rw [hv] at hi
      by_cases hr : v = .retAddr 0
      · simp [hr] at hi
      · simp only [hr, if_false] at hi
        cases hi
        exact ⟨v, hv, hr, rfl⟩
  · rintro ⟨v, h1, h2, h3⟩
    refine ⟨q.1, List.mem_range.mpr (List.getElem?_eq_some_iff.mp h1).1, ?_⟩
    rw [h1]
    simp only [h2, if_false]
    rw [← h3]
theorem mc_LO.at {G : mc_G} {ls : Array Slot} {nL : Nat} {loc : List Value} (h : mc_LO G ls nL loc) {i : Nat} {v : Value} (hv : loc[i]? = some v) (hn : v ≠ .retAddr 0) : ls[i]? = some (.val (mc_cv G v)) :=
  h.1.2.2 (i, mc_cv G v) (mc_lv_mem.mpr ⟨v, hv, hn, rfl⟩)
theorem mc_has_mono {ls : Array Slot} {nL : Nat} {l l' : List (Nat × Value)} (h : lv_has ls nL l) (hs : ∀ q ∈ l', q ∈ l) : lv_has ls nL l' := ⟨h.1, h.2.1, fun q hq => h.2.2 q (hs q hq)⟩
theorem mc_cat (G : mc_G) (v : Value) : (mc_cv G v).category = v.category := by cases v <;> rfl
/-- a store of one word: a long that it cuts is gone -/
def mc_two (v : Option Value) : Bool := match v with
  | some v => v.category == 2
  | none => false
def mc_kill (loc : List Value) (i : Nat) : List Value := if i ≠ 0 ∧ mc_two loc[i - 1]? = true then loc.set (i - 1) (.retAddr 0) else loc
def mc_set1 (loc : List Value) (i : Nat) (v : Value) : List Value := (mc_kill loc i).set i v
def mc_set2 (loc : List Value) (i : Nat) (v : Value) : List Value := ((mc_kill loc i).set i v).set (i + 1) (.retAddr 0)
theorem mc_kill_len (loc : List Value) (i : Nat) : (mc_kill loc i).length = loc.length := by
  unfold mc_kill
  split <;> simp
theorem mc_kill_at {loc : List Value} {i j : Nat} {v : Value} (h : (mc_kill loc i)[j]? = some v) (hn : v ≠ .retAddr 0) : loc[j]? = some v ∧ (j + 1 = i → v.category ≠ 2) := by
  unfold mc_kill at h
  split at h
  · rename_i hc
    rw [List.getElem?_set] at h
    by_cases hij : i - 1 = j
    · rw [if_pos hij] at h
      split at h
      · cases h; exact absurd rfl hn
      · cases h
    · rw [if_neg hij] at h
      exact ⟨h, fun e => by omega⟩
  · rename_i hc
    refine ⟨h, fun e hv => hc ⟨by omega, ?_⟩⟩
    have : i - 1 = j := by omega
    rw [this, h]
    simp [mc_two, hv]
theorem mc_store1 {G : mc_G} {ls' : Array Slot} {nL : Nat} {loc : List Value} {i : Nat} {v : Value} (hl : loc.length = nL) (h : lv_has ls' nL ((i, mc_cv G v) :: (mc_lv G loc).filter (fun q => !(q.1 == i) && !(q.1 + 1 == i && q.2.category == 2)))) : mc_LO G ls' nL (mc_set1 loc i v) := by
  refine ⟨mc_has_mono h fun q hq => ?_, by unfold mc_set1; rw [List.length_set, mc_kill_len, hl]⟩
  obtain ⟨w, h1, h2, h3⟩ := mc_lv_mem.mp hq
  unfold mc_set1 at h1
  rw [List.getElem?_set] at h1
  by_cases hi : i = q.1
  · rw [if_pos hi] at h1
    split at h1
    · cases h1
      refine List.mem_cons.mpr (Or.inl (Prod.ext hi.symm h3))
    · cases h1
  · rw [if_neg hi] at h1
    obtain ⟨g1, g2⟩ := mc_kill_at h1 h2
    refine List.mem_cons.mpr (Or.inr (List.mem_filter.mpr ⟨mc_lv_mem.mpr ⟨w, g1, h2, h3⟩, ?_⟩))
    have e1 : (q.1 == i) = false := by simpa using fun e => hi e.symm
    rw [e1]
    by_cases e2 : q.1 + 1 = i
    · have hw := g2 e2
      rw [h3, mc_cat]
      simp [hw]
    · simp [e2]
theorem mc_store2 {G : mc_G} {ls' : Array Slot} {nL : Nat} {loc : List Value} {i : Nat} {v : Value} (hl : loc.length = nL) (h : lv_has ls' nL ((i, mc_cv G v) :: (mc_lv G loc).filter (fun q => !(q.1 == i) && (!(q.1 == i + 1) && !(q.1 + 1 == i && q.2.category == 2))))) : mc_LO G ls' nL (mc_set2 loc i v) := by
  refine ⟨mc_has_mono h fun q hq => ?_, by unfold mc_set2; rw [List.length_set, List.length_set, mc_kill_len, hl]⟩
  obtain ⟨w, h1, h2, h3⟩ := mc_lv_mem.mp hq
  unfold mc_set2 at h1
  rw [List.getElem?_set] at h1
  by_cases hi1 : i + 1 = q.1
  · rw [if_pos hi1] at h1
    split at h1
    · cases h1; exact absurd rfl h2
    · cases h1
  · rw [if_neg hi1, List.getElem?_set] at h1
    by_cases hi : i = q.1
    · rw [if_pos hi] at h1
      split at h1
      · cases h1
        refine List.mem_cons.mpr (Or.inl (Prod.ext hi.symm h3))
      · cases h1
    · rw [if_neg hi] at h1
      obtain ⟨g1, g2⟩ := mc_kill_at h1 h2
      refine List.mem_cons.mpr (Or.inr (List.mem_filter.mpr ⟨mc_lv_mem.mpr ⟨w, g1, h2, h3⟩, ?_⟩))
      have e1 : (q.1 == i) = false := by simpa using fun e => hi e.symm
      have e3 : (q.1 == i + 1) = false := by simpa using fun e => hi1 e.symm
      rw [e1, e3]
      by_cases e2 : q.1 + 1 = i
      · have hw := g2 e2
        rw [h3, mc_cat]
        simp [hw]
      · simp [e2]
end
